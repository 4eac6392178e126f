/-! ===== the class's extend: what it visits ===== -/
def plr (S : St) (e : Bool) (xs : List Nat) : Fr := xs.foldl (stx S e) (some (1, 1))
theorem plr_snoc (S : St) (e : Bool) (xs : List Nat) (x : Nat) : plr S e (xs ++ [x]) = stx S e (plr S e xs) x := by
  unfold plr; rw [List.foldl_append]; rfl
theorem plr_wf {S : St} (hi : Inv S) {e : Bool} (xs : List Nat) : ∀ o : Fr, wfF o → rok (sM S) xs → wfF (xs.foldl (stx S e) o) := by
  induction xs with
  | nil => intro o h _; exact h
  | cons x xs ih =>
    intro o h hr
    exact ih _ (stx_wf hi (hr x (List.mem_cons_self ..)).1 h) (fun y hy => hr y (List.mem_cons_of_mem _ hy))
theorem plr_wf' {S : St} (hi : Inv S) {e : Bool} {xs : List Nat} (h : rok (sM S) xs) : wfF (plr S e xs) := plr_wf hi xs _ wfF_1 h
/-- the trail holds a row -/
def pfx (z : Nat) (G : Wd) (S : St) (pre : List Nat) : Prop := cel G (z + 7) pre ∧ ∀ i, i ≤ pre.length → isF G (z + (11 + 2 * i)) (plr S false (pre.take i)) ∧ isF G (z + (12 + 2 * i)) (plr S true (pre.take i))
theorem pfx.cut {z : Nat} {G : Wd} {S : St} {pre m : List Nat} (h : pfx z G S (pre ++ m)) : pfx z G S pre :=
  ⟨h.1.cut, fun i hi => by
    have := h.2 i (by rw [List.length_append]; omega)
    rw [List.take_append_of_le_length hi] at this
    exact this⟩
theorem pfx.end {z : Nat} {G : Wd} {S : St} {pre : List Nat} (h : pfx z G S pre) : isF G (z + (11 + 2 * pre.length)) (plr S false pre) ∧ isF G (z + (12 + 2 * pre.length)) (plr S true pre) := by
  have := h.2 pre.length (Nat.le_refl _)
  rw [List.take_length] at this
  exact this
theorem pfx.keep {z : Nat} {G G' : Wd} {S : St} {pre : List Nat} {P R : Nat → Prop} (h : pfx z G S pre) (hp : pre.length ≤ 10) (f : chg P R G G') (hP : ∀ b, (b = z + 7 ∨ (z + 11 ≤ b ∧ b ≤ z + 32)) → ¬ P b) : pfx z G' S pre :=
  ⟨h.1.same (fun j => f.I (hP _ (Or.inl rfl)) j), fun i hi => ⟨(h.2 i hi).1.keep f (hP _ (Or.inr ⟨by omega, by omega⟩)), (h.2 i hi).2.keep f (hP _ (Or.inr ⟨by omega, by omega⟩))⟩⟩
theorem stx_take {S : St} {k : Nat} (hk : k < 24) (t : Bool) (e : Bool) (o : Fr) : stx S e o (if t then k + 100 else k) = if e then highX S o k t else lowX S o k t := by
  unfold stx
  cases t with
  | false =>
    have e1 : (if false = true then k + 100 else k) % 100 = k := by show k % 100 = k; omega
    have e2 : decide (100 ≤ (if false = true then k + 100 else k)) = false := decide_eq_false (by show ¬ 100 ≤ k; omega)
    rw [e1, e2]
  | true =>
    have e1 : (if true = true then k + 100 else k) % 100 = k := by show (k + 100) % 100 = k; omega
    have e2 : decide (100 ≤ (if true = true then k + 100 else k)) = true := decide_eq_true (by show 100 ≤ k + 100; omega)
    rw [e1, e2]
theorem pfx.take {z k : Nat} {G : Wd} {S : St} {la lb : Nat → Nat} {pre : List Nat} {t : Bool} {tv : Int32} {Q : Wd → Prop} (h : CR z G S la lb) (hi : Inv S) (hk : k < sM S) (hn : pre.length < 10) (et : tv = if t then 1 else 0) (hr : rok (sM S) pre) (hp : pfx z G S pre)
    (hQ : ∀ G', chg (fun b => b = z + 7 ∨ (z + 13 ≤ b ∧ b ≤ z + 32)) (fun _ => False) G G' → pfx z G' S (pre ++ [if t then k + 100 else k]) → Q G') : wpX9_take (z + 5) (la k) tv (nI pre.length) G Q := by
  have hM := hi.1.1
  have hE := hp.end
  refine X9_take h hi hk hn et hE.1 hE.2 (plr_wf' hi hr) (plr_wf' hi hr) (hQ _ ?_ ⟨?_, fun i hi' => ?_⟩)
  · unfold tkW
    exact ((chg.rf.wI _ _ _ (Or.inl rfl)).wF _ _ (Or.inr ⟨by omega, by omega⟩)).wF _ _ (Or.inr ⟨by omega, by omega⟩)
  · unfold tkW
    exact (hp.1.snoc _).same (fun j => by rw [wF_I (by omega), wF_I (by omega)])
  · rw [List.length_append] at hi'
    have hi2 : i ≤ pre.length + 1 := hi'
    obtain ⟨p1, p2, p3, p4⟩ := h.1.T (i := pre.length + 1) (by omega)
    by_cases c : i = pre.length + 1
    · have e : (pre ++ [if t then k + 100 else k]).take i = pre ++ [if t then k + 100 else k] := by
        rw [c]; exact List.take_of_length_le (by rw [List.length_append]; exact Nat.le_refl _)
      rw [e, plr_snoc, plr_snoc, stx_take (by omega), stx_take (by omega), c]
      have e13 : 11 + 2 * (pre.length + 1) = 13 + 2 * pre.length := by omega
      have e14 : 12 + 2 * (pre.length + 1) = 14 + 2 * pre.length := by omega
      rw [e13] at p3 ⊢
      rw [e14] at p4 ⊢
      unfold tkW
      have i1 : isF (wF (uI G (z + 7) pre.length (nI (if t then k + 100 else k))) (z + (13 + 2 * pre.length)) (lowX S (plr S false pre) k t)) (z + (13 + 2 * pre.length)) (lowX S (plr S false pre) k t) := isF_wF (by rw [gK_uI]; exact p3) _
      refine ⟨?_, isF_wF (by rw [wF_K]; exact p4) _⟩
      exact i1.keep (P := fun b => b = z + (14 + 2 * pre.length)) (R := fun _ => False) (chg.rf.wF _ _ rfl) (by omega)
    · rw [List.take_append_of_le_length (by omega)]
      have fr : chg (fun b => b = z + 7 ∨ z + (13 + 2 * pre.length) ≤ b) (fun _ => False) G (tkW z G pre.length (nI (if t then k + 100 else k)) (lowX S (plr S false pre) k t) (highX S (plr S true pre) k t)) := by
        unfold tkW
        exact ((chg.rf.wI _ _ _ (Or.inl rfl)).wF _ _ (Or.inr (by omega))).wF _ _ (Or.inr (by omega))
      exact ⟨(hp.2 i (by omega)).1.keep fr (by omega), (hp.2 i (by omega)).2.keep fr (by omega)⟩
/-- what a search sees unchanged -/
def TF (z : Nat) (G : Wd) (S : St) (la lb : Nat → Nat) (l : List Nat) (fo b lim : Nat) (d : Nat → Nat) : Prop := CR z G S la lb ∧ opnd z G la l ∧ (gI G (z + 5) 8 = nI b ∧ gI G (z + 5) 9 = nI fo ∧ gI G (z + 5) 10 = nI lim) ∧ dst z G d
def sfr (z : Nat) (G G' : Wd) : Prop := chg (fun b => b = z + 5 ∨ b = z + 7 ∨ (z + 13 ≤ b ∧ b ≤ z + 42)) (fun _ => False) G G' ∧ ∀ j, j ≠ 3 → j ≠ 4 → gI G' (z + 5) j = gI G (z + 5) j
theorem sfr.rf {z : Nat} {G : Wd} : sfr z G G := ⟨chg.rf, fun _ _ _ => rfl⟩
theorem sfr.tr {z : Nat} {G G1 G2 : Wd} (h : sfr z G G1) (h' : sfr z G1 G2) : sfr z G G2 := ⟨h.1.tr h'.1, fun j a b => (h'.2 j a b).trans (h.2 j a b)⟩
theorem TF.keep {z : Nat} {G G' : Wd} {S : St} {la lb : Nat → Nat} {l : List Nat} {fo b lim : Nat} {d : Nat → Nat} (h : TF z G S la lb l fo b lim d) (f : sfr z G G') : TF z G' S la lb l fo b lim d :=
  ⟨h.1.dst (f.1.mono (fun b q => by omega) (fun _ q => q)), ⟨by rw [f.2 1 (by omega) (by omega)]; exact h.2.1.1, fun i hi => by rw [f.1.Rf (fun q => q)]; exact h.2.1.2 i hi⟩, ⟨by rw [f.2 8 (by omega) (by omega)]; exact h.2.2.1.1, by rw [f.2 9 (by omega) (by omega)]; exact h.2.2.1.2.1, by rw [f.2 10 (by omega) (by omega)]; exact h.2.2.1.2.2⟩, fun n hn => by rw [f.1.I (by omega)]; exact h.2.2.2 n hn⟩
/-- the measures met, as bits -/
def bts (v : Int32) (met : List Nat) : Prop := ∃ m : Nat, m < 1024 ∧ v = nI m ∧ ∀ n, n < 10 → m.testBit n = decide (n ∈ met)
theorem bit_at : ∀ n, n < 10 → ∀ m, m < 1024 → ((nI m >>> (nI n &&& 31)) &&& 1 = 0 ↔ m.testBit n = false) := by decide +kernel
theorem bts.out {v : Int32} {met : List Nat} (h : bts v met) {n : Nat} (hn : n < 10) : (v >>> (nI n &&& 31)) &&& 1 = 0 ↔ n ∉ met := by
  obtain ⟨m, h1, h2, h3⟩ := h
  rw [h2, bit_at n hn m h1, h3 n hn]
  exact decide_eq_false_iff_not
theorem bts.snoc {v : Int32} {met : List Nat} (h : bts v met) {n : Nat} (hn : n < 10) : bts (v ||| ((1 : Int32) <<< (nI n &&& 31))) (met ++ [n]) := by
  obtain ⟨m, h1, h2, h3⟩ := h
  have hp : 2 ^ n < 2 ^ 10 := Nat.pow_lt_pow_right (by omega) hn
  refine ⟨m ||| 2 ^ n, Nat.or_lt_two_pow (n := 10) h1 hp, by rw [h2, sh10 n hn, nI_or], fun i hi => ?_⟩
  rw [Nat.testBit_or, h3 i hi, Nat.testBit_two_pow]
  by_cases a : i ∈ met
  · rw [decide_eq_true a, Bool.true_or, decide_eq_true (List.mem_append.mpr (Or.inl a))]
  · rw [decide_eq_false a, Bool.false_or]
    by_cases c : n = i
    · rw [decide_eq_true c, decide_eq_true (List.mem_append.mpr (Or.inr (by rw [c]; exact List.mem_singleton.mpr rfl)))]
    · rw [decide_eq_false c, decide_eq_false (fun q => by
        rcases List.mem_append.mp q with q | q
        · exact a q
        · exact c (List.mem_singleton.mp q).symm)]
theorem bts.one {n : Nat} (hn : n < 10) : bts ((1 : Int32) <<< (nI n &&& 31)) [n] := by
  have hp : 2 ^ n < 2 ^ 10 := Nat.pow_lt_pow_right (by omega) hn
  refine ⟨2 ^ n, hp, sh10 n hn, fun i hi => ?_⟩
  rw [Nat.testBit_two_pow]
  by_cases c : n = i
  · rw [decide_eq_true c, c]; simp
  · rw [decide_eq_false c, decide_eq_false (fun q => c (List.mem_singleton.mp q).symm)]
/-- rows gone through until it stops -/
def run {σ : Type} (step : σ → List Nat → σ) (stop : σ → Bool) : σ → List (List Nat) → σ
  | s, [] => s
  | s, r :: rs => if stop s then s else run step stop (step s r) rs
theorem run_stop {σ : Type} {step : σ → List Nat → σ} {stop : σ → Bool} {s : σ} (h : stop s = true) (l : List (List Nat)) : run step stop s l = s := by
  cases l with
  | nil => rfl
  | cons r l => unfold run; exact if_pos h
theorem run_app {σ : Type} {step : σ → List Nat → σ} {stop : σ → Bool} (l l' : List (List Nat)) : ∀ s : σ, run step stop s (l ++ l') = run step stop (run step stop s l) l' := by
  induction l with
  | nil => intro s; rfl
  | cons r l ih =>
    intro s
    show (if stop s then s else run step stop (step s r) (l ++ l')) = run step stop (if stop s then s else run step stop (step s r) l) l'
    by_cases c : stop s = true
    · rw [if_pos c, if_pos c, run_stop c]
    · rw [if_neg c, if_neg c, ih]
abbrev ovr (z : Nat) (G : Wd) (c : Bool) : Prop := gI G (z + 5) 4 = if c then 1 else 0
theorem X9_extend {σ : Type} {z goal : Nat} {G0 : Wd} {S : St} {la lb : Nat → Nat} {l : List Nat} {fo b lim lo : Nat} {d : Nat → Nat} {step : σ → List Nat → σ} {stop : σ → Bool} {I : σ → Wd → Prop}
    (h0 : TF z G0 S la lb l fo b lim d) (hi : Inv S) (hl : ∀ x ∈ l, x < sM S) (h24 : l.length ≤ 24) (hb : b < 10) (hlim : lim ≤ 10) (hfo : fo ≤ l.length) (h100 : ∀ n, d n ≤ 100) (hnear : near S b (l.drop fo) 10 d)
    (hst : ∀ s G G', stop s = false → I s G → chg (fun b => b = z + 7 ∨ (z + 13 ≤ b ∧ b ≤ z + 32)) (fun _ => False) G G' → I s G')
    (hv : ∀ s pre G (Q : Wd → Prop), stop s = false → sfr z G0 G → pfx z G S pre → rok (sM S) pre → pre.length ≤ lim → lo ≤ pre.length → I s G → ovr z G false → (∀ G', sfr z G G' → chg (fun b => b = z + 5 ∨ (z + 33 ≤ b ∧ b ≤ z + 42)) (fun _ => False) G G' → I (step s pre) G' → ovr z G' (stop (step s pre)) → Q G') → ∀ G25, G25 = uI G (z + 5) 3 (nI pre.length) → ((gK G25 goal = 1 ∧ wpX0_arrived goal (z + 5) G25 (fun G27 => Q G27)) ∨ (gK G25 goal = 7 ∧ wpX7_arrived goal (z + 5) G25 (fun G29 => Q G29)) ∨ (gK G25 goal = 8 ∧ wpX8_arrived goal (z + 5) G25 (fun G31 => Q G31)) ∨ (gK G25 goal = 4 ∧ wpX4_arrived goal (z + 5) G25 (fun G33 => Q G33))))
    (r : Nat) : ∀ (f a : Nat) (mb : Int32) (met pre : List Nat) (s : σ) (G : Wd) (Q : Wd → Prop), r + 1 ≤ f → a < 10 → a ∈ met → pre.length + r = lim → bts mb met → rok (sM S) pre → lo ≤ pre.length → stop s = false → sfr z G0 G → pfx z G S pre → I s G → ovr z G false → (∀ G', sfr z G0 G' → pfx z G' S pre → I (run step stop s (dfs S b (l.drop fo) r a met pre)) G' → ovr z G' (stop (run step stop s (dfs S b (l.drop fo) r a met pre))) → Q G') → wpX9_extend f (z + 5) goal (nI a) mb (nI pre.length) G Q := by
  have hM := hi.1.1
  have arr : ∀ (a : Nat) (pre : List Nat) (s : σ) (G : Wd) (Q : Wd → Prop) (ds : List (List Nat)), ds = [pre] → a < 10 → pre.length ≤ lim → rok (sM S) pre → lo ≤ pre.length → stop s = false → sfr z G0 G → pfx z G S pre → I s G → ovr z G false → (∀ G', sfr z G0 G' → pfx z G' S pre → I (run step stop s ds) G' → ovr z G' (stop (run step stop s ds)) → Q G') → ∀ G25, G25 = uI G (z + 5) 3 (nI pre.length) → ((gK G25 goal = 1 ∧ wpX0_arrived goal (z + 5) G25 (fun G27 => Q G27)) ∨ (gK G25 goal = 7 ∧ wpX7_arrived goal (z + 5) G25 (fun G29 => Q G29)) ∨ (gK G25 goal = 8 ∧ wpX8_arrived goal (z + 5) G25 (fun G31 => Q G31)) ∨ (gK G25 goal = 4 ∧ wpX4_arrived goal (z + 5) G25 (fun G33 => Q G33))) := by
    intro a pre s G Q ds eds ha hpl hr hlo hs fx hp hI ho hQ
    have e : run step stop s ds = step s pre := by
      rw [eds]
      show (if stop s then s else step s pre) = step s pre
      rw [hs]; rfl
    rw [e] at hQ
    exact hv s pre G Q hs fx hp hr hpl hlo hI ho (fun G' f1 f2 I' o' => hQ G' (fx.tr f1) (hp.keep (by omega) f2 (fun b q => by omega)) I' o')
  induction r with
  | zero =>
    intro f a mb met pre s G Q hf ha ham hpl hbt hr hlo hs fx hp hI ho hQ
    obtain ⟨f, rfl⟩ : ∃ f', f = f' + 1 := ⟨f - 1, by omega⟩
    have ht := h0.keep fx
    unfold wpX9_extend
    refine ⟨ht.1.1.K 5 (by omega), ?_⟩
    rw [ht.2.2.1.1, ht.2.2.1.2.2]
    refine ifE (fun c => ?_) (fun c => ifN (by rw [i_lt, nI_toInt (by omega), nI_toInt (by omega)]; omega) ?_)
    · rw [nI_eqI (by omega) (by omega)] at c
      exact arr a pre s G Q _ (by unfold dfs; exact if_pos c) ha (by omega) hr hlo hs fx hp hI ho hQ
    · rw [nI_eqI (by omega) (by omega)] at c
      unfold dfs at hQ
      rw [if_neg c] at hQ
      exact hQ G fx hp hI (by show ovr z G (stop s); rw [hs]; exact ho)
  | succ r ih =>
    intro f a mb met pre s G Q hf ha ham hpl hbt hr hlo hs fx hp hI ho hQ
    obtain ⟨f, rfl⟩ : ∃ f', f = f' + 1 := ⟨f - 1, by omega⟩
    have ht := h0.keep fx
    unfold wpX9_extend
    refine ⟨ht.1.1.K 5 (by omega), ?_⟩
    rw [ht.2.2.1.1, ht.2.2.1.2.2]
    refine ifE (fun c => ?_) (fun c => ifP (by rw [i_lt, nI_toInt (by omega), nI_toInt (by omega)]; omega) (fun x hx => ⟨l.length + 1 - fo, ?_⟩))
    · rw [nI_eqI (by omega) (by omega)] at c
      exact arr a pre s G Q _ (by unfold dfs; exact if_pos c) ha (by omega) hr hlo hs fx hp hI ho hQ
    · rw [nI_eqI (by omega) (by omega)] at c
      rw [ht.2.2.1.2.1] at hx
      subst hx
      unfold dfs at hQ
      rw [if_neg c] at hQ
      have loop : ∀ (n i : Nat) (s : σ) (G : Wd), i ≤ l.length → i + n = l.length + 1 → sfr z G0 G → pfx z G S pre → I s G → ovr z G (stop s) → (∀ G', sfr z G0 G' → pfx z G' S pre → I (run step stop s ((l.drop i).flatMap (fun k => if can S met a k then dfs S b (l.drop fo) r (nxt S a k) (met ++ [nxt S a k]) (pre ++ [rx S a k]) else []))) G' → ovr z G' (stop (run step stop s ((l.drop i).flatMap (fun k => if can S met a k then dfs S b (l.drop fo) r (nxt S a k) (met ++ [nxt S a k]) (pre ++ [rx S a k]) else [])))) → Q G') → wpX9_extend_36 (fun a0 a1 p2 p3 p4 G Q => wpX9_extend f a0 a1 p2 p3 p4 G Q) Q n (z + 5) goal (nI a) mb (nI pre.length) (nI i) G := by
        intro n
        induction n with
        | zero => intro i s G le e; omega
        | succ n ihn =>
          intro i s G le e fx hp hI ho hQ
          have ht := h0.keep fx
          unfold wpX9_extend_36
          refine ⟨ht.1.1.K 5 (by omega), ?_⟩
          rw [ht.2.1.1]
          refine ifE (fun q => ?_) (fun q => ifE (fun q4 => ?_) (fun q4 => ?_))
          · rw [nI_leI (by omega) (by omega)] at q
            rw [List.drop_eq_nil_of_le q, List.flatMap_nil] at hQ
            exact hQ G fx hp hI ho
          · rw [nI_leI (by omega) (by omega)] at q
            have hs : stop s = false := by
              cases hh : stop s with
              | false => rfl
              | true => unfold ovr at ho; rw [hh, q4] at ho; exact absurd ho (by decide)
            have hlt : i < l.length := by omega
            have hk : l.getD i 0 < sM S := hl _ (getD_mem hlt)
            have ed : l.drop i = l.getD i 0 :: l.drop (i + 1) := by
              rw [List.drop_eq_getElem_cons hlt]
              simp [List.getD, List.getElem?_eq_getElem hlt]
            rw [ed, List.flatMap_cons, run_app] at hQ
            generalize l.getD i 0 = k at hk hQ ed
            have ok : gR G (z + 6) i = some (la k) := by
              have := ht.2.1.2 i hlt
              have e2 : l.getD i 0 = k := by
                have e3 : (l.drop i).getD 0 0 = k := by rw [ed]; rfl
                rw [← e3]
                simp [List.getD]
              rw [e2] at this
              exact this
            obtain ⟨q3, q4', w3, w4⟩ := fr_rng hi hk
            obtain ⟨b1, b2, b3, _⟩ := (ht.1.2.2.2.2.1 _ hk).2
            have i2 : gI G (la k) 2 = nI (fr S k) := by rw [b3 2 (by omega) (by omega)]; exact w3
            have i3 : gI G (la k) 3 = nI (tt S k) := by rw [b3 3 (by omega) (by omega)]; exact w4
            refine ⟨z + 6, ht.1.1.R 5 0 6 (by decide), ht.1.1.K 6 (by omega), by rw [ht.1.1.N 6 (by omega)]; exact vp_in_nI (by show i < 24; omega) (by decide), la k, by rw [nI_clamp (by omega)]; exact ok, b1, ?_⟩
            have skip : (can S met a k = false ∨ dfs S b (l.drop fo) r (nxt S a k) (met ++ [nxt S a k]) (pre ++ [rx S a k]) = []) → wpX9_extend_149 (fun a0 a1 p2 p3 p4 G Q => wpX9_extend f a0 a1 p2 p3 p4 G Q) Q (fun y0 y1 y2 y3 y4 y5 y6 => wpX9_extend_36 (fun a0 a1 p2 p3 p4 G Q => wpX9_extend f a0 a1 p2 p3 p4 G Q) Q n y0 y1 y2 y3 y4 y5 y6) (z + 5) goal (nI a) mb (nI pre.length) (nI i) G := by
              intro cs
              unfold wpX9_extend_149
              intro x hx
              rw [nI_1] at hx; subst hx
              have e1 : (if can S met a k then dfs S b (l.drop fo) r (nxt S a k) (met ++ [nxt S a k]) (pre ++ [rx S a k]) else []) = [] := by
                rcases cs with cs | cs
                · rw [cs]; rfl
                · rw [cs]; split <;> rfl
              rw [e1] at hQ
              exact ihn (i + 1) s G (by omega) (by omega) fx hp hI ho hQ
            have take : ∀ (t : Bool) (tv : Int32), tv = (if t then 1 else 0) → (t = true ↔ fr S k ≠ a) → can S met a k = true → nxt S a k < 10 → wpX9_extend_127 (fun a0 a1 p2 p3 p4 G Q => wpX9_extend f a0 a1 p2 p3 p4 G Q) Q (fun y0 y1 y2 y3 y4 y5 y6 => wpX9_extend_36 (fun a0 a1 p2 p3 p4 G Q => wpX9_extend f a0 a1 p2 p3 p4 G Q) Q n y0 y1 y2 y3 y4 y5 y6) (z + 5) goal (nI a) mb (nI pre.length) (nI i) (nI (nxt S a k)) (z + 5) (la k) tv G := by
              intro t tv et ht' hcan hn10
              have erx : rx S a k = if t then k + 100 else k := by
                unfold rx
                cases t with
                | false => exact if_pos (Classical.byContradiction (fun q => by have := ht'.mpr q; cases this))
                | true => exact if_neg (ht'.mp rfl)
              unfold wpX9_extend_127
              refine ⟨ht.1.1.K 5 (by omega), hp.take ht.1 hi hk (by omega) et hr (fun G1 f1 p1 => ?_)⟩
              rw [← erx] at p1
              rw [nI_1]
              have f1' : sfr z G G1 := ⟨f1.mono (fun b q => by omega) (fun _ q => q), fun j _ _ => f1.I (by omega) j⟩
              have key := ih f (nxt S a k) (mb ||| (1 <<< (nI (nxt S a k) &&& 31))) (met ++ [nxt S a k]) (pre ++ [rx S a k]) s G1 (fun G6 => wpX9_extend_149 (fun a0 a1 p2 p3 p4 G Q => wpX9_extend f a0 a1 p2 p3 p4 G Q) Q (fun y0 y1 y2 y3 y4 y5 y6 => wpX9_extend_36 (fun a0 a1 p2 p3 p4 G Q => wpX9_extend f a0 a1 p2 p3 p4 G Q) Q n y0 y1 y2 y3 y4 y5 y6) (z + 5) goal (nI a) mb (nI pre.length) (nI i) G6) (by omega) hn10 (List.mem_append.mpr (Or.inr (List.mem_singleton.mpr rfl))) (by rw [List.length_append]; show pre.length + 1 + r = lim; omega) (hbt.snoc hn10) (hr.snoc hM hk) (by rw [List.length_append]; omega) hs (fx.tr f1') p1 (hst s G G1 hs hI f1) (by show ovr z G1 false; unfold ovr; rw [f1.I (by omega)]; exact q4) (fun G6 f6 p6 I6 o6 => by
                show ∀ x1 : Int32, x1 = nI i + 1 → wpX9_extend_36 _ Q n (z + 5) goal (nI a) mb (nI pre.length) x1 G6
                intro x hx
                rw [nI_1] at hx; subst hx
                refine ihn (i + 1) _ G6 (by omega) (by omega) f6 p6.cut I6 o6 (fun G' f' p' I' o' => ?_)
                rw [if_pos hcan] at hQ
                exact hQ G' f' p' I' o')
              rw [List.length_append] at key
              exact key
            have met_ : ∀ v : Nat, v = nxt S a k → (fr S k = a ∨ tt S k = a) → v < 10 → (if ((mb >>> (nI v &&& 31)) &&& 1) = 0 then (gK G (z + 5) = 9 ∧ ∃ b18, gR G (z + 5) 7 = some b18 ∧ gK G b18 = 20 ∧ vp_in (nI v) (gN G b18) ∧ if (gI G (z + 5) 10) < ((nI pre.length + 1) + (gI G b18 (nI v).toNatClampNeg)) then (wpX9_extend_149 (fun a0 a1 p2 p3 p4 G Q => wpX9_extend f a0 a1 p2 p3 p4 G Q) Q (fun y0 y1 y2 y3 y4 y5 y6 => wpX9_extend_36 (fun a0 a1 p2 p3 p4 G Q => wpX9_extend f a0 a1 p2 p3 p4 G Q) Q n y0 y1 y2 y3 y4 y5 y6) (z + 5) goal (nI a) mb (nI pre.length) (nI i) G) else (gK G (la k) = 5 ∧ if nI a = (gI G (la k) 2) then (wpX9_extend_127 (fun a0 a1 p2 p3 p4 G Q => wpX9_extend f a0 a1 p2 p3 p4 G Q) Q (fun y0 y1 y2 y3 y4 y5 y6 => wpX9_extend_36 (fun a0 a1 p2 p3 p4 G Q => wpX9_extend f a0 a1 p2 p3 p4 G Q) Q n y0 y1 y2 y3 y4 y5 y6) (z + 5) goal (nI a) mb (nI pre.length) (nI i) (nI v) (z + 5) (la k) 0 G) else (wpX9_extend_127 (fun a0 a1 p2 p3 p4 G Q => wpX9_extend f a0 a1 p2 p3 p4 G Q) Q (fun y0 y1 y2 y3 y4 y5 y6 => wpX9_extend_36 (fun a0 a1 p2 p3 p4 G Q => wpX9_extend f a0 a1 p2 p3 p4 G Q) Q n y0 y1 y2 y3 y4 y5 y6) (z + 5) goal (nI a) mb (nI pre.length) (nI i) (nI v) (z + 5) (la k) 1 G))) else (wpX9_extend_149 (fun a0 a1 p2 p3 p4 G Q => wpX9_extend f a0 a1 p2 p3 p4 G Q) Q (fun y0 y1 y2 y3 y4 y5 y6 => wpX9_extend_36 (fun a0 a1 p2 p3 p4 G Q => wpX9_extend f a0 a1 p2 p3 p4 G Q) Q n y0 y1 y2 y3 y4 y5 y6) (z + 5) goal (nI a) mb (nI pre.length) (nI i) G)) := by
              intro v ev touch hv10
              have dl := h100 v
              refine ifE (fun cm => ⟨ht.1.1.K 5 (by omega), z + 10, ht.1.1.R 5 7 10 (by decide), ht.1.1.K 10 (by omega), by rw [ht.1.1.N 10 (by omega)]; exact vp_in_nI hv10 (by decide), ?_⟩) (fun cm => ?_)
              · rw [hbt.out hv10] at cm
                have hcan : can S met a k = true := decide_eq_true ⟨touch, by rw [← ev]; exact cm⟩
                rw [ht.2.2.1.2.2, nI_clamp (by omega), ht.2.2.2 v hv10, nI_1, nI_add]
                refine ifE (fun cl => ?_) (fun cl => ⟨b1, ?_⟩)
                · rw [i_lt, nI_toInt (by omega), nI_toInt (by omega)] at cl
                  refine skip (Or.inr ?_)
                  rw [← ev]
                  refine dfs_wk _ _ _ _ _ _ _ (fun w => ?_)
                  have := hnear r (by omega) v w
                  omega
                · rw [i2]
                  rw [ev]
                  refine ifE (fun cf => ?_) (fun cf => ?_)
                  · rw [nI_eqI (by omega) (by omega)] at cf
                    exact take false 0 rfl ⟨fun q => Bool.noConfusion q, fun q => absurd cf.symm q⟩ hcan (by rw [← ev]; exact hv10)
                  · rw [nI_eqI (by omega) (by omega)] at cf
                    exact take true 1 rfl ⟨fun _ q => cf q.symm, fun _ => rfl⟩ hcan (by rw [← ev]; exact hv10)
              · rw [hbt.out hv10] at cm
                exact skip (Or.inl (decide_eq_false (fun q => cm (by rw [ev]; exact q.2))))
            unfold wpX5_across
            rw [i2, i3]
            refine ⟨b1, ifE (fun cf => ?_) (fun cf => ifE (fun ct => ?_) (fun ct => ?_))⟩
            · rw [nI_eqI (by omega) (by omega)] at cf
              refine ifN (by rw [i_lt, nI_toInt (by omega), il0]; omega) ?_
              exact met_ (tt S k) (by unfold nxt; rw [if_pos cf.symm]) (Or.inl cf.symm) q4'
            · rw [nI_eqI (by omega) (by omega)] at cf ct
              refine ifN (by rw [i_lt, nI_toInt (by omega), il0]; omega) ?_
              exact met_ (fr S k) (by unfold nxt; rw [if_neg (fun q => cf q.symm)]) (Or.inr ct.symm) q3
            · rw [nI_eqI (by omega) (by omega)] at cf ct
              refine ifP (by decide) ?_
              exact skip (Or.inl (decide_eq_false (fun q => by rcases q.1 with w | w; exact cf w.symm; exact ct w.symm)))
          · have hs : stop s = true := by
              cases hh : stop s with
              | true => rfl
              | false => unfold ovr at ho; rw [hh] at ho; exact absurd ho q4
            rw [run_stop hs] at hQ
            exact hQ G fx hp hI ho
      exact loop (l.length + 1 - fo) fo s G hfo (by omega) fx hp hI (by rw [hs]; exact ho) hQ
