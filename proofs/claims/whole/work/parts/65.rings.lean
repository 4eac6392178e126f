/-! ===== rings: judging ===== -/
def badB (S : St) (r : List Nat) : Bool := (plr S false r).isNone || (plr S true r).isNone
def qr (S : St) (r : List Nat) : Bool := match plr S false r with
  | none => false
  | some u => decide (u.2.toInt < u.1.toInt)
def lexB : List Nat → List Nat → Bool
  | x :: xs, y :: ys => if x % 100 = y % 100 then lexB xs ys else decide (x % 100 < y % 100)
  | _, _ => false
def lt2 (a b : List Nat) : Bool := if a.length = b.length then lexB a b else decide (a.length < b.length)
def bstep (m : Option (List Nat)) (r : List Nat) : Option (List Nat) := match m with
  | none => some r
  | some k => if lt2 r k then some r else some k
def msk (bo : Nat → Nat) (r : List Nat) : Nat := r.foldl (fun a x => a ||| bo (x % 100)) 0
theorem msk_snoc (bo : Nat → Nat) (r : List Nat) (x : Nat) : msk bo (r ++ [x]) = msk bo r ||| bo (x % 100) := by
  unfold msk; rw [List.foldl_append]; rfl
theorem msk_lt {bo : Nat → Nat} {n : Nat} (hb : ∀ k, bo k < 2 ^ n) (r : List Nat) : ∀ a, a < 2 ^ n → r.foldl (fun a x => a ||| bo (x % 100)) a < 2 ^ n := by
  induction r with
  | nil => intro a h; exact h
  | cons x r ih => intro a h; exact ih _ (Nat.or_lt_two_pow h (hb _))
abbrev Jst : Type := Bool × Option (List Nat) × (Nat → Bool)
def jstep (S : St) (bo : Nat → Nat) (s : Jst) (r : List Nat) : Jst := if badB S r then (true, s.2.1, s.2.2) else if qr S r then (s.1, bstep s.2.1 r, fun n => s.2.2 n || n == msk bo r) else s
def jstop (s : Jst) : Bool := s.1
/-- what judging holds -/
def jI (z : Nat) (bo : Nat → Nat) (c NB : Nat) (s : Jst) (G : Wd) : Prop := gI G (z + 38) 2 = (if s.1 then 1 else 0) ∧ (match s.2.1 with
  | none => gI G (z + 38) 1 = 0
  | some r => gI G (z + 38) 1 = nI r.length ∧ cel G (z + 39) r ∧ 0 < r.length ∧ r.length ≤ 10 ∧ ∀ x ∈ r, x < 200) ∧ (∀ n, n < NB → (gI G (z + 42) n = 0 ↔ s.2.2 n = false)) ∧ (∀ k, k < 24 → gI G (z + 41) k = nI (bo k)) ∧ gI G (z + 38) 4 = nI c
theorem jI.keep {z : Nat} {bo : Nat → Nat} {c NB : Nat} {s : Jst} {G G' : Wd} {P R : Nat → Prop} (h : jI z bo c NB s G) (f : chg P R G G') (hp : ∀ b, z + 38 ≤ b → b ≤ z + 42 → ¬ P b) : jI z bo c NB s G' := by
  obtain ⟨h1, h2, h3, h4, h5⟩ := h
  have e : ∀ b, z + 38 ≤ b → b ≤ z + 42 → ∀ j, gI G' b j = gI G b j := fun b q1 q2 j => f.I (hp b q1 q2) j
  refine ⟨by rw [e _ (by omega) (by omega)]; exact h1, ?_, fun n hn => by rw [e _ (by omega) (by omega)]; exact h3 n hn, fun k hk => by rw [e _ (by omega) (by omega)]; exact h4 k hk, by rw [e _ (by omega) (by omega)]; exact h5⟩
  cases hm : s.2.1 with
  | none => rw [hm] at h2; show gI G' (z + 38) 1 = 0; rw [e _ (by omega) (by omega)]; exact h2
  | some r =>
    rw [hm] at h2
    obtain ⟨a1, a2, a3⟩ := h2
    exact ⟨by rw [e _ (by omega) (by omega)]; exact a1, a2.same (fun j => e _ (by omega) (by omega) j), a3⟩
theorem C_chin {z : Nat} {bo : Nat → Nat} {G : Wd} {S : St} {la lb : Nat → Nat} {pre : List Nat} {Q : Int32 → Wd → Prop} (h : CR z G S la lb) (hcel : cel G (z + 7) pre) (hl : pre.length ≤ 10) (hr : ∀ x ∈ pre, x % 100 < 24 ∧ x < 200) (e3 : gI G (z + 5) 3 = nI pre.length) (hbo : ∀ k, k < 24 → gI G (z + 41) k = nI (bo k)) (hQ : Q (nI (msk bo pre)) G) (n : Nat) : ∀ i : Nat, i ≤ pre.length → i + n = pre.length + 1 → wpX4_choicesIn_4 Q n (z + 38) (z + 5) (nI (msk bo (pre.take i))) (nI i) G := by
  induction n with
  | zero => intro i le e; omega
  | succ n ih =>
    intro i le e
    unfold wpX4_choicesIn_4
    rw [e3]
    refine ⟨h.1.K 5 (by omega), ifE (fun c => ?_) (fun c => ⟨h.1.K 38 (by omega), z + 41, h.1.R 38 5 41 (by decide), ?_⟩)⟩
    · rw [nI_leI (by omega) (by omega)] at c
      rw [List.take_of_length_le c]
      exact hQ
    · rw [nI_leI (by omega) (by omega)] at c
      have hlt : i < pre.length := by omega
      obtain ⟨x1, x2⟩ := hr _ (getD_mem hlt)
      unfold wpX9_numberAt
      refine ⟨h.1.K 5 (by omega), z + 7, h.1.R 5 2 7 (by decide), h.1.K 7 (by omega), by rw [h.1.N 7 (by omega)]; exact vp_in_nI (by show i < 10; omega) (by decide), ?_⟩
      rw [nI_clamp (by omega), hcel i hlt, show nI (pre.getD i 0) % 100 = nI (pre.getD i 0 % 100) from nI_mod (a := pre.getD i 0) (d := 100) (by omega) (by omega)]
      refine ⟨h.1.K 41 (by omega), by rw [h.1.N 41 (by omega)]; exact vp_in_nI (by show _ < 24; omega) (by decide), fun y1 hy1 y2 hy2 => ?_⟩
      rw [nI_clamp (by omega), hbo _ x1, nI_or] at hy1
      rw [nI_1] at hy2
      subst hy1; subst hy2
      have et : pre.take (i + 1) = pre.take i ++ [pre.getD i 0] := by
        rw [List.take_add_one]
        simp [List.getD, List.getElem?_eq_getElem hlt]
      have := ih (i + 1) (by omega) (by omega)
      rw [et, msk_snoc] at this
      exact this
theorem C_ahead {z : Nat} {G : Wd} {S : St} {la lb : Nat → Nat} {pre k : List Nat} {Q : Int32 → Wd → Prop} (h : CR z G S la lb) (hcel : cel G (z + 7) pre) (hl : pre.length ≤ 10) (hr : ∀ x ∈ pre, x < 200) (e3 : gI G (z + 5) 3 = nI pre.length) (e1 : gI G (z + 38) 1 = nI k.length) (hk : cel G (z + 39) k) (hkl : k.length ≤ 10) (hkr : ∀ x ∈ k, x < 200) (hQ : Q (if lt2 pre k then 1 else 0) G) : wpX4_isAhead (z + 38) (z + 5) G Q := by
  unfold wpX4_isAhead
  rw [e3, e1]
  refine ⟨h.1.K 5 (by omega), h.1.K 38 (by omega), ifE (fun c => ⟨k.length + 1, ?_⟩) (fun c => ifE (fun d => ?_) (fun d => ?_))⟩
  · rw [nI_eqI (by omega) (by omega)] at c
    have el : lt2 pre k = lexB pre k := if_pos c
    rw [el] at hQ
    have loop : ∀ (n i : Nat), i ≤ k.length → i + n = k.length + 1 → lexB pre k = lexB (pre.drop i) (k.drop i) → wpX4_isAhead_30 Q n (z + 38) (z + 5) (nI i) G := by
      intro n
      induction n with
      | zero => intro i le e; omega
      | succ n ih =>
        intro i le e he
        unfold wpX4_isAhead_30
        rw [e1]
        refine ⟨h.1.K 38 (by omega), ifE (fun q => ?_) (fun q => ⟨z + 39, h.1.R 38 0 39 (by decide), h.1.K 39 (by omega), by rw [h.1.N 39 (by omega)]; exact vp_in_nI (by rw [nI_leI (by omega) (by omega)] at q; show i < 10; omega) (by decide), fun y hy => ?_⟩)⟩
        · rw [nI_leI (by omega) (by omega)] at q
          rw [List.drop_eq_nil_of_le (as := k) q, List.drop_eq_nil_of_le (as := pre) (by omega)] at he
          rw [he] at hQ
          exact hQ
        · rw [nI_leI (by omega) (by omega)] at q
          have h1 : i < pre.length := by omega
          have h2 : i < k.length := by omega
          have x1 := hr _ (getD_mem h1)
          have x2 := hkr _ (getD_mem h2)
          have d1 : pre.drop i = pre.getD i 0 :: pre.drop (i + 1) := by
            rw [List.drop_eq_getElem_cons h1]; simp [List.getD, List.getElem?_eq_getElem h1]
          have d2 : k.drop i = k.getD i 0 :: k.drop (i + 1) := by
            rw [List.drop_eq_getElem_cons h2]; simp [List.getD, List.getElem?_eq_getElem h2]
          rw [nI_clamp (by omega), hk i h2, show nI (k.getD i 0) % 100 = nI (k.getD i 0 % 100) from nI_mod (a := k.getD i 0) (d := 100) (by omega) (by omega)] at hy
          subst hy
          have num : ∀ {R : Int32 → Wd → Prop}, R (nI (pre.getD i 0 % 100)) G → wpX9_numberAt (z + 5) (nI i) G R := fun {R} hR => by
            unfold wpX9_numberAt
            refine ⟨h.1.K 5 (by omega), z + 7, h.1.R 5 2 7 (by decide), h.1.K 7 (by omega), by rw [h.1.N 7 (by omega)]; exact vp_in_nI (by show i < 10; omega) (by decide), ?_⟩
            rw [nI_clamp (by omega), hcel i h1, show nI (pre.getD i 0) % 100 = nI (pre.getD i 0 % 100) from nI_mod (a := pre.getD i 0) (d := 100) (by omega) (by omega)]
            exact hR
          rw [d1, d2] at he
          refine ⟨h.1.K 5 (by omega), num (ifE (fun c1 y hy => ?_) (fun c1 => ⟨h.1.K 5 (by omega), num (ifE (fun c2 => ?_) (fun c2 => ?_))⟩))⟩
          · rw [nI_eqI (by omega) (by omega)] at c1
            rw [nI_1] at hy; subst hy
            refine ih (i + 1) (by omega) (by omega) ?_
            rw [he]
            show (if _ = _ then _ else _) = _
            rw [if_pos c1]
          · rw [nI_eqI (by omega) (by omega)] at c1
            rw [nI_leI (by omega) (by omega)] at c2
            have : lexB pre k = false := by
              rw [he]
              show (if _ = _ then _ else _) = _
              rw [if_neg c1]; exact decide_eq_false (by omega)
            rw [this] at hQ; exact hQ
          · rw [nI_eqI (by omega) (by omega)] at c1
            rw [nI_leI (by omega) (by omega)] at c2
            have : lexB pre k = true := by
              rw [he]
              show (if _ = _ then _ else _) = _
              rw [if_neg c1]; exact decide_eq_true (by omega)
            rw [this] at hQ; exact hQ
    exact loop (k.length + 1) 0 (by omega) (by omega) rfl
  · rw [nI_eqI (by omega) (by omega)] at c
    rw [nI_leI (by omega) (by omega)] at d
    rw [show lt2 pre k = false by unfold lt2; rw [if_neg c]; exact decide_eq_false (by omega)] at hQ
    exact hQ
  · rw [nI_eqI (by omega) (by omega)] at c
    rw [nI_leI (by omega) (by omega)] at d
    rw [show lt2 pre k = true by unfold lt2; rw [if_neg c]; exact decide_eq_true (by omega)] at hQ
    exact hQ
theorem judge_visit {z c NB : Nat} {bo : Nat → Nat} {S : St} {la lb : Nat → Nat} (hi : Inv S) (hbo : ∀ k, bo k < 1024) (s : Jst) (pre : List Nat) (G : Wd) (Q : Wd → Prop) (hs : jstop s = false) (hc : CR z G S la lb) (hp : pfx z G S pre) (hr : rok (sM S) pre) (h10 : pre.length ≤ 10) (h1 : 1 ≤ pre.length) (hI : jI z bo c NB s G) (ho : ovr z G false) (hQ : ∀ G', sfr z G G' → chg (fun b => b = z + 5 ∨ (z + 33 ≤ b ∧ b ≤ z + 42)) (fun _ => False) G G' → jI z bo c NB (jstep S bo s pre) G' → ovr z G' (jstop (jstep S bo s pre)) → Q G') : ∀ G25, G25 = uI G (z + 5) 3 (nI pre.length) → ((gK G25 (z + 38) = 1 ∧ wpX0_arrived (z + 38) (z + 5) G25 (fun G27 => Q G27)) ∨ (gK G25 (z + 38) = 7 ∧ wpX7_arrived (z + 38) (z + 5) G25 (fun G29 => Q G29)) ∨ (gK G25 (z + 38) = 8 ∧ wpX8_arrived (z + 38) (z + 5) G25 (fun G31 => Q G31)) ∨ (gK G25 (z + 38) = 4 ∧ wpX4_arrived (z + 38) (z + 5) G25 (fun G33 => Q G33))) := by
  intro G1 e1
  have hM := hi.1.1
  have f1' : chg (fun b => b = z + 5) (fun _ => False) G G1 := by rw [e1]; exact chg.rf.wI _ _ _ rfl
  have f1 : chg (fun b => b = z + 5 ∨ (z + 38 ≤ b ∧ b ≤ z + 42)) (fun _ => False) G G1 := f1'.mono (fun b q => Or.inl q) (fun _ q => q)
  have hc1 := hc.dst (f1.mono (fun b q => by omega) (fun _ q => q))
  have p1 := hp.keep (by omega) f1 (fun b q => by omega)
  have I1 := hI.keep f1' (fun b q1 q2 => by omega)
  have g3 : gI G1 (z + 5) 3 = nI pre.length := by rw [e1, gI_uI, if_pos ⟨rfl, rfl⟩]
  have gj : ∀ j, j ≠ 3 → gI G1 (z + 5) j = gI G (z + 5) j := fun j hj => by rw [e1, gI_uI, if_neg (by omega)]
  have ho1 : gI G1 (z + 5) 4 = 0 := by rw [gj 4 (by omega)]; exact ho
  have s10 : s.1 = false := hs
  -- it is LARGE
  have s20 : badB S pre = true → wpX4_arrived_20 Q (z + 38) (z + 5) G1 := by
    intro hb
    have ej : jstep S bo s pre = (true, s.2.1, s.2.2) := by unfold jstep; rw [hb]; rfl
    rw [ej] at hQ
    unfold wpX4_arrived_20
    refine ⟨hc1.1.K 38 (by omega), fun G2 e2 => ⟨by rw [e2, gK_uI]; exact hc1.1.K 5 (by omega), fun G3 e3 => ?_⟩⟩
    have f3 : chg (fun b => b = z + 5 ∨ (z + 38 ≤ b ∧ b ≤ z + 42)) (fun _ => False) G G3 := by rw [e3, e2]; exact (f1.wI _ _ _ (Or.inr ⟨by omega, by omega⟩)).wI _ _ _ (Or.inl rfl)
    have g : ∀ b j, z + 38 ≤ b → b ≤ z + 42 → (b ≠ z + 38 ∨ j ≠ 2) → gI G3 b j = gI G1 b j := fun b j q1 q2 q3 => by rw [e3, gI_uI, if_neg (by omega), e2, gI_uI, if_neg (by omega)]
    obtain ⟨a1, a2, a3, a4, a5⟩ := I1
    refine hQ G3 ⟨f3.mono (fun b q => by omega) (fun _ q => q), fun j a b => by rw [e3, gI_uI, if_neg (by omega), e2, gI_uI, if_neg (by omega)]; exact gj j a⟩ (f3.mono (fun b q => by omega) (fun _ q => q)) ⟨by rw [e3, gI_uI, if_neg (by omega), e2, gI_uI, if_pos ⟨rfl, rfl⟩]; rfl, ?_, fun n hn => by rw [g _ _ (by omega) (by omega) (Or.inl (by omega))]; exact a3 n hn, fun k hk => by rw [g _ _ (by omega) (by omega) (Or.inl (by omega))]; exact a4 k hk, by rw [g _ _ (by omega) (by omega) (Or.inr (by omega))]; exact a5⟩ (by unfold ovr; rw [e3, gI_uI, if_pos ⟨rfl, rfl⟩]; rfl)
    show (match s.2.1 with | none => gI G3 (z + 38) 1 = 0 | some r => gI G3 (z + 38) 1 = nI r.length ∧ cel G3 (z + 39) r ∧ 0 < r.length ∧ r.length ≤ 10 ∧ ∀ x ∈ r, x < 200)
    cases hm : s.2.1 with
    | none => rw [hm] at a2; show gI G3 (z + 38) 1 = 0; rw [g _ _ (by omega) (by omega) (Or.inr (by omega))]; exact a2
    | some r =>
      rw [hm] at a2
      obtain ⟨b1, b2, b3⟩ := a2
      exact ⟨by rw [g _ _ (by omega) (by omega) (Or.inr (by omega))]; exact b1, b2.same (fun j => g _ _ (by omega) (by omega) (Or.inl (by omega))), b3⟩
  refine Or.inr (Or.inr (Or.inr ⟨hc1.1.K 38 (by omega), ?_⟩))
  unfold wpX4_arrived
  refine ⟨hc1.1.K 5 (by omega), X9_low hc1 g3 (by omega) ⟨_, rfl, p1.end.1.1, ?_⟩⟩
  rw [isF_lg p1.end.1]
  cases eL : plr S false pre with
  | none => exact ifN (by decide) (s20 (by unfold badB; rw [eL]; rfl))
  | some u =>
    refine ifP rfl ⟨hc1.1.K 5 (by omega), X9_high hc1 g3 (by omega) ⟨_, rfl, p1.end.2.1, ?_⟩⟩
    rw [isF_lg p1.end.2]
    cases eH : plr S true pre with
    | none => exact ifN (by decide) (s20 (by unfold badB; rw [eL, eH]; rfl))
    | some v =>
      have nb : badB S pre = false := by unfold badB; rw [eL, eH]; rfl
      have pL := p1.end.1
      rw [eL] at pL
      refine ifP rfl ⟨hc1.1.K 5 (by omega), X9_low hc1 g3 (by omega) ⟨_, rfl, pL.1, ?_⟩⟩
      unfold wpX2_isAboveOne
      refine ⟨pL.1, ifP pL.2.1 ?_⟩
      rw [pL.2.2.1, pL.2.2.2]
      have eq' : qr S pre = decide (u.2.toInt < u.1.toInt) := by unfold qr; rw [eL]
      refine ifE (fun cq => ifN (fun e => n10 e) ?_) (fun cq => ifP rfl ?_)
      · rw [l_lt] at cq
        have hq : qr S pre = true := by rw [eq']; exact decide_eq_true cq
        have ej : jstep S bo s pre = (s.1, bstep s.2.1 pre, fun n => s.2.2 n || n == msk bo pre) := by unfold jstep; rw [nb, hq]; rfl
        rw [ej] at hQ
        obtain ⟨a1, a2, a3, a4, a5⟩ := I1
        have hmk : msk bo pre < 1024 := msk_lt (n := 10) hbo pre 0 (by decide)
        refine ⟨hc1.1.K 38 (by omega), z + 42, hc1.1.R 38 6 42 (by decide), pre.length + 1, ?_⟩
        have key := C_chin (Q := fun r38 G39 => gK G39 (z + 42) = 22 ∧ vp_in r38 (gN G39 (z + 42)) ∧ ∀ G42 : Wd, G42 = uI G39 (z + 42) (r38).toNatClampNeg 1 → gK G42 (z + 38) = 4 ∧ if (gI G42 (z + 38) 1) = 0 then (wpX4_arrived_69 Q (z + 38) (z + 5) G42) else (wpX4_isAhead (z + 38) (z + 5) G42 (fun r44 G45 => if r44 = 0 then (Q G45) else (wpX4_arrived_69 Q (z + 38) (z + 5) G45)))) (bo := bo) hc1 p1.1 h10 (fun x hx => ⟨by have := (hr x hx).1; omega, (hr x hx).2⟩) g3 a4 ?_ (pre.length + 1) 0 (by omega) (by omega)
        · exact key
        · refine ⟨hc1.1.K 42 (by omega), by rw [hc1.1.N 42 (by omega)]; exact vp_in_nI hmk (by decide), fun G2 e2 => ?_⟩
          rw [nI_clamp (by omega)] at e2
          have f2' : chg (fun b => b = z + 42) (fun _ => False) G1 G2 := by rw [e2]; exact chg.rf.wI _ _ _ rfl
          have f2 : chg (fun b => b = z + 5 ∨ (z + 38 ≤ b ∧ b ≤ z + 42)) (fun _ => False) G G2 := f1.tr (f2'.mono (fun b q => by omega) (fun _ q => q))
          have hc2 := hc.dst (f2.mono (fun b q => by omega) (fun _ q => q))
          have g42 : ∀ n, n < NB → (gI G2 (z + 42) n = 0 ↔ (s.2.2 n || n == msk bo pre) = false) := fun n hn => by
            rw [e2, gI_uI]
            by_cases q : n = msk bo pre
            · rw [if_pos ⟨rfl, q⟩]
              refine ⟨fun w => absurd w (by decide), fun w => ?_⟩
              rw [q] at w
              simp at w
            · rw [if_neg (fun w => q w.2), a3 n hn]
              have : (n == msk bo pre) = false := by simpa using q
              rw [this, Bool.or_false]
          have g2 : ∀ b j, b ≠ z + 42 → gI G2 b j = gI G1 b j := fun b j q => f2'.I q j
          have s69 : bstep s.2.1 pre = some pre → wpX4_arrived_69 Q (z + 38) (z + 5) G2 := by
            intro eb
            unfold wpX4_arrived_69
            refine ⟨hc2.1.K 5 (by omega), hc2.1.K 38 (by omega), fun G3 e3 => ?_⟩
            rw [g2 _ _ (by omega), g3] at e3
            have f3' : chg (fun b => b = z + 38) (fun _ => False) G2 G3 := by rw [e3]; exact chg.rf.wI _ _ _ rfl
            have f3 : chg (fun b => b = z + 5 ∨ (z + 38 ≤ b ∧ b ≤ z + 42)) (fun _ => False) G G3 := f2.tr (f3'.mono (fun b q => by omega) (fun _ q => q))
            have hc3 := hc.dst (f3.mono (fun b q => by omega) (fun _ q => q))
            have e31 : gI G3 (z + 38) 1 = nI pre.length := by rw [e3, gI_uI, if_pos ⟨rfl, rfl⟩]
            rw [e31, nI_clamp (show pre.length < 2 ^ 31 by omega)]
            refine ⟨z + 7, hc3.1.R 5 2 7 (by decide), z + 39, hc3.1.R 38 0 39 (by decide), hc3.1.K 7 (by omega), hc3.1.K 39 (by omega), ⟨by rw [i_lt, nI_toInt (by omega), il0]; omega, by rw [hc3.1.N 7 (by omega)]; show _ ≤ 10; omega, by rw [hc3.1.N 39 (by omega)]; show _ ≤ 10; omega⟩, fun G4 e4 => ?_⟩
            have f4' : chg (fun b => b = z + 39) (fun _ => False) G3 G4 := by
              rw [e4]
              refine ⟨⟨rfl, rfl, rfl⟩, fun b hb => ⟨fun j => ?_, fun _ => rfl⟩, fun _ _ _ => rfl⟩
              show (if b = z + 39 ∧ j < pre.length then gI G3 (z + 7) j else gI G3 b j) = _
              rw [if_neg (fun q => hb q.1)]
            have f4 : chg (fun b => b = z + 5 ∨ (z + 38 ≤ b ∧ b ≤ z + 42)) (fun _ => False) G G4 := f3.tr (f4'.mono (fun b q => by omega) (fun _ q => q))
            have g4 : ∀ b j, b ≠ z + 39 → b ≠ z + 38 → gI G4 b j = gI G2 b j := fun b j q1 q2 => by rw [f4'.I q1, f3'.I q2]
            have i4 : ∀ j, j ≠ 1 → gI G4 (z + 38) j = gI G1 (z + 38) j := fun j q => by rw [f4'.I (by omega), e3, gI_uI, if_neg (by omega), g2 _ _ (by omega)]
            rw [eb] at hQ
            refine hQ G4 ⟨f4.mono (fun b q => by omega) (fun _ q => q), fun j a b => by rw [g4 _ _ (by omega) (by omega), g2 _ _ (by omega)]; exact gj j a⟩ (f4.mono (fun b q => by omega) (fun _ q => q)) ⟨by rw [i4 2 (by omega)]; exact a1, ⟨by rw [f4'.I (by omega)]; exact e31, fun j hj => ?_, by omega, h10, fun x hx => (hr x hx).2⟩, fun n hn => by rw [g4 _ _ (by omega) (by omega)]; exact g42 n hn, fun k hk => by rw [g4 _ _ (by omega) (by omega), g2 _ _ (by omega)]; exact a4 k hk, by rw [i4 4 (by omega)]; exact a5⟩ ?_
            · rw [e4]
              show (if z + 39 = z + 39 ∧ j < pre.length then gI G3 (z + 7) j else gI G3 (z + 39) j) = _
              rw [if_pos ⟨rfl, hj⟩, f3'.I (by omega), g2 _ _ (by omega)]
              exact p1.1 j hj
            · unfold ovr
              show gI G4 (z + 5) 4 = if s.1 then 1 else 0
              rw [s10, g4 _ _ (by omega) (by omega), g2 _ _ (by omega)]; exact ho1
          have stay : ∀ r, s.2.1 = some r → bstep s.2.1 pre = some r → Q G2 := by
            intro r hm eb
            rw [eb] at hQ
            rw [hm] at a2
            obtain ⟨b1, b2, b3⟩ := a2
            refine hQ G2 ⟨f2.mono (fun b q => by omega) (fun _ q => q), fun j a b => by rw [g2 _ _ (by omega)]; exact gj j a⟩ (f2.mono (fun b q => by omega) (fun _ q => q)) ⟨by rw [g2 _ _ (by omega)]; exact a1, ⟨by rw [g2 _ _ (by omega)]; exact b1, b2.same (fun j => g2 _ _ (by omega)), b3⟩, g42, fun k hk => by rw [g2 _ _ (by omega)]; exact a4 k hk, by rw [g2 _ _ (by omega)]; exact a5⟩ ?_
            unfold ovr
            show gI G2 (z + 5) 4 = if s.1 then 1 else 0
            rw [s10, g2 _ _ (by omega)]; exact ho1
          refine ⟨hc2.1.K 38 (by omega), ?_⟩
          rw [g2 _ _ (by omega)]
          cases hm : s.2.1 with
          | none =>
            rw [hm] at a2
            exact ifP a2 (s69 (by rw [hm]; rfl))
          | some r =>
            have a2' := a2
            rw [hm] at a2'
            obtain ⟨b1, b2, b3, b4, b5⟩ := a2'
            refine ifN (by rw [b1]; intro q; have q' : nI r.length = nI 0 := q; rw [nI_eqI (by omega) (by omega)] at q'; omega) ?_
            refine C_ahead hc2 (p1.1.same (fun j => g2 _ _ (by omega))) h10 (fun x hx => (hr x hx).2) (by rw [g2 _ _ (by omega)]; exact g3) (by rw [g2 _ _ (by omega)]; exact b1) (b2.same (fun j => g2 _ _ (by omega))) b4 b5 ?_
            cases cl : lt2 pre r with
            | true => exact ifN (by decide) (s69 (by rw [hm]; show (if lt2 pre r then some pre else some r) = _; rw [cl]; rfl))
            | false => exact ifP rfl (stay r hm (by rw [hm]; show (if lt2 pre r then some pre else some r) = _; rw [cl]; rfl))
      · rw [l_lt] at cq
        have hq : qr S pre = false := by rw [eq']; exact decide_eq_false cq
        have ej : jstep S bo s pre = s := by unfold jstep; rw [nb, hq]; rfl
        rw [ej] at hQ
        refine hQ G1 ⟨f1.mono (fun b q => by omega) (fun _ q => q), fun j a b => gj j a⟩ (f1.mono (fun b q => by omega) (fun _ q => q)) I1 ?_
        unfold ovr
        rw [hs]; exact ho1
/-! the rings, in the class's order -/
def rg1 (S : St) (k : Nat) (t : Bool) (ld : List Nat) : List (List Nat) := dfs S (if t then tt S k else fr S k) ld 9 (if t then fr S k else tt S k) [if t then fr S k else tt S k] [if t then k + 100 else k]
def rgs (S : St) : List Nat → List (List Nat)
  | [] => []
  | k :: l => rg1 S k false l ++ (rg1 S k true l ++ rgs S l)
theorem X9_seekRings {z c NB : Nat} {bo : Nat → Nat} {G0 : Wd} {S : St} {la lb : Nat → Nat} {l : List Nat} {s0 : Jst} {Q : Wd → Prop} (h0 : CR z G0 S la lb) (hi : Inv S) (ho : opnd z G0 la l) (hl : ∀ x ∈ l, x < sM S) (h24 : l.length ≤ 24) (hbo : ∀ k, bo k < 1024) (hs : jstop s0 = false) (hI : jI z bo c NB s0 G0)
    (hQ : ∀ G', chg (aP z) (fun _ => False) G0 G' → jI z bo c NB (run (jstep S bo) jstop s0 (rgs S l)) G' → Q G') : wpX9_seekRings (z + 5) (z + 38) G0 Q := by
  have hM := hi.1.1
  -- one ring's search
  have one : ∀ (i : Nat) (t : Bool) (s : Jst) (G : Wd) (Q' : Wd → Prop), i < l.length → jstop s = false → chg (aP z) (fun _ => False) G0 G → gI G (z + 5) 1 = nI l.length → jI z bo c NB s G → (∀ G', chg (aP z) (fun _ => False) G0 G' → gI G' (z + 5) 1 = nI l.length → jI z bo c NB (run (jstep S bo) jstop s (rg1 S (l.getD i 0) t (l.drop (i + 1)))) G' → ovr z G' (jstop (run (jstep S bo) jstop s (rg1 S (l.getD i 0) t (l.drop (i + 1))))) → Q' G') → wpX9_aim (z + 5) (nI (if t then tt S (l.getD i 0) else fr S (l.getD i 0))) (nI (i + 1)) G (fun G3 => gK G3 (z + 5) = 9 ∧ ∀ G5 : Wd, G5 = uI G3 (z + 5) 10 10 → wpX9_take (z + 5) (la (l.getD i 0)) (if t then 1 else 0) 0 G5 (fun G8 => wpX9_extend 12 (z + 5) (z + 38) (nI (if t then fr S (l.getD i 0) else tt S (l.getD i 0))) (1 <<< (nI (if t then fr S (l.getD i 0) else tt S (l.getD i 0)) &&& 31)) 1 G8 (fun G10 => Q' G10))) := by
    intro i t s G Q' hlt hs f e1 hI' hQ'
    have h := h0.dst f
    have hk : l.getD i 0 < sM S := hl _ (getD_mem hlt)
    obtain ⟨q3, q4, w3, w4⟩ := fr_rng hi hk
    have o' : opnd z G la l := ⟨e1, fun j hj => by rw [f.Rf (fun q => q)]; exact ho.2 j hj⟩
    generalize l.getD i 0 = k at hk q3 q4 hQ'
    have ha : (if t then fr S k else tt S k) < 10 := by split <;> assumption
    have hb : (if t then tt S k else fr S k) < 10 := by split <;> assumption
    refine X9_aim h hi o' hl h24 (by omega) hb (fun d G1 f1 j1 i8 i9 i4 hd h100 hn => ?_)
    have f1' := f.tr (f1.mono (P' := aP z) (fun b q => by omega) (fun _ q => q))
    have h1 := h0.dst f1'
    refine ⟨h1.1.K 5 (by omega), fun G2 e2 => ?_⟩
    have f2 : chg (fun b => b = z + 5 ∨ b = z + 10) (fun _ => False) G G2 := by rw [e2]; exact f1.wI _ _ _ (Or.inl rfl)
    have f2' := f.tr (f2.mono (P' := aP z) (fun b q => by omega) (fun _ q => q))
    have h2 := h0.dst f2'
    have g2 : ∀ j, j ≠ 10 → gI G2 (z + 5) j = gI G1 (z + 5) j := fun j hj => by rw [e2, gI_uI, if_neg (by omega)]
    have tf : TF z G2 S la lb l (i + 1) (if t then tt S k else fr S k) 10 d := ⟨h2, ⟨by rw [g2 1 (by omega), j1 1 (by omega) (by omega) (by omega)]; exact e1, fun j hj => by rw [f2'.Rf (fun q => q)]; exact ho.2 j hj⟩, ⟨by rw [g2 8 (by omega)]; exact i8, by rw [g2 9 (by omega)]; exact i9, by rw [e2, gI_uI, if_pos ⟨rfl, rfl⟩]; rfl⟩, fun n hn' => by rw [e2, gI_uI, if_neg (by omega)]; exact hd n hn'⟩
    have I2 := hI'.keep f2 (fun b q1 q2 => by omega)
    refine pfx.take (pre := []) (t := t) h2 hi hk (by show 0 < 10; omega) rfl (fun x hx => nomatch hx) (pfx_nil h2) (fun G3 f3 p3 => ?_)
    have sf3 : sfr z G2 G3 := ⟨f3.mono (fun b q => by omega) (fun _ q => q), fun j _ _ => f3.I (by omega) j⟩
    have p3' : pfx z G3 S [if t then k + 100 else k] := p3
    have r1 : rok (sM S) [if t then k + 100 else k] := fun x hx => by
      rw [List.mem_singleton.mp hx]
      split <;> omega
    have o3 : ovr z G3 false := by unfold ovr; rw [f3.I (by omega), g2 4 (by omega)]; exact i4
    have key := X9_extend (lo := 1) (step := jstep S bo) (stop := jstop) (I := jI z bo c NB) tf hi hl h24 hb (by omega) (by omega) h100 hn (fun s G G' _ q2 q3 => q2.keep q3 (fun b q1 q2 => by omega)) (fun s pre G Q q1 q2 q3 q4 q5 q6 q7 q8 q9 => judge_visit hi hbo s pre G Q q1 (tf.keep q2).1 q3 q4 q5 q6 q7 q8 q9) 9 12 (if t then fr S k else tt S k) (1 <<< (nI (if t then fr S k else tt S k) &&& 31)) [if t then fr S k else tt S k] [if t then k + 100 else k] s G3 Q' (by omega) ha (List.mem_singleton.mpr rfl) rfl (bts.one ha) r1 (Nat.le_refl _) hs sf3 p3' (I2.keep f3 (fun b q1 q2 => by omega)) o3 (fun G4 f4 p4 I4 o4 => hQ' G4 (f2'.tr (f4.1.mono (fun b q => by omega) (fun _ q => q))) (by rw [f4.2 1 (by omega) (by omega), g2 1 (by omega), j1 1 (by omega) (by omega) (by omega)]; exact e1) I4 o4)
    have e11 : nI ([if t then k + 100 else k] : List Nat).length = 1 := rfl
    rw [e11] at key
    exact key
  have loop : ∀ (n i : Nat) (s : Jst) (G : Wd), i ≤ l.length → i + n = l.length + 1 → chg (aP z) (fun _ => False) G0 G → gI G (z + 5) 1 = nI l.length → jI z bo c NB s G → ovr z G (jstop s) → (∀ G', chg (aP z) (fun _ => False) G0 G' → jI z bo c NB (run (jstep S bo) jstop s (rgs S (l.drop i))) G' → Q G') → wpX9_seekRings_7 Q (2 * n) (z + 5) (z + 38) (nI (2 * i)) G := by
    intro n
    induction n with
    | zero => intro i s G le e; omega
    | succ n ih =>
      intro i s G le e f e1 hI' ov hQ'
      have h := h0.dst f
      rw [show 2 * (n + 1) = 2 * n + 1 + 1 by omega]
      unfold wpX9_seekRings_7
      rw [e1, show (2 : Int32) * nI l.length = nI (2 * l.length) by rw [show (2 : Int32) = nI 2 from rfl, pk_mul]]
      refine ⟨h.1.K 5 (by omega), ifE (fun q => ?_) (fun q => ifE (fun q4 => ?_) (fun q4 => ?_))⟩
      · rw [nI_leI (by omega) (by omega)] at q
        rw [List.drop_eq_nil_of_le (by omega)] at hQ'
        exact hQ' G f hI'
      · rw [nI_leI (by omega) (by omega)] at q
        have hlt : i < l.length := by omega
        have hs : jstop s = false := by
          cases hh : jstop s with
          | false => rfl
          | true => unfold ovr at ov; rw [hh, q4] at ov; exact absurd ov (by decide)
        have hk : l.getD i 0 < sM S := hl _ (getD_mem hlt)
        obtain ⟨_, _, w3, w4⟩ := fr_rng hi hk
        have ed : l.drop i = l.getD i 0 :: l.drop (i + 1) := by
          rw [List.drop_eq_getElem_cons hlt]
          simp [List.getD, List.getElem?_eq_getElem hlt]
        have dv : ∀ m, m = 2 * i ∨ m = 2 * i + 1 → nI m / 2 = nI i := fun m hm => by
          have := pk_div (a := m) (d := 2) (by omega) (by omega) (by omega)
          rw [show m / 2 = i by omega] at this
          exact this
        have dm : ∀ m, m < 100 → nI m % 2 = nI (m % 2) := fun m hm => nI_mod (a := m) (d := 2) (by omega) (by omega)
        have at_ : ∀ G', chg (aP z) (fun _ => False) G0 G' → gR G' (z + 6) i = some (la (l.getD i 0)) ∧ gK G' (la (l.getD i 0)) = 5 ∧ gI G' (la (l.getD i 0)) 2 = nI (fr S (l.getD i 0)) ∧ gI G' (la (l.getD i 0)) 3 = nI (tt S (l.getD i 0)) := fun G' f' => by
          have h' := h0.dst f'
          obtain ⟨b1, b2, b3, _⟩ := (h'.2.2.2.2.1 _ hk).2
          exact ⟨by rw [f'.Rf (fun q => q)]; exact ho.2 i hlt, b1, by rw [b3 2 (by omega) (by omega)]; exact w3, by rw [b3 3 (by omega) (by omega)]; exact w4⟩
        rw [ed] at hQ'
        have eR : rgs S (l.getD i 0 :: l.drop (i + 1)) = rg1 S (l.getD i 0) false (l.drop (i + 1)) ++ (rg1 S (l.getD i 0) true (l.drop (i + 1)) ++ rgs S (l.drop (i + 1))) := rfl
        rw [eR, run_app, run_app] at hQ'
        obtain ⟨a1, a2, a3, a4⟩ := at_ G f
        have vi : ∀ G', chg (aP z) (fun _ => False) G0 G' → vp_in (nI i) (gN G' (z + 6)) := fun G' f' => by rw [(h0.dst f').1.N 6 (by omega)]; exact vp_in_nI (by show i < 24; omega) (by decide)
        rw [dv (2 * i) (Or.inl rfl), dm (2 * i) (by omega), show (2 * i) % 2 = 0 by omega]
        refine ⟨z + 6, h.1.R 5 0 6 (by decide), h.1.K 6 (by omega), vi G f, la (l.getD i 0), by rw [nI_clamp (by omega)]; exact a1, ifN (by decide) (ifP rfl ⟨a2, ?_⟩)⟩
        rw [a4]
        refine ifP rfl ⟨a2, ?_⟩
        rw [a3]
        refine ⟨h.1.K 5 (by omega), ?_⟩
        rw [dv (2 * i) (Or.inl rfl), nI_1]
        refine one i false s G _ hlt hs f e1 hI' (fun G1 f1 e11 I1 o1 x hx => ?_)
        rw [nI_1] at hx; subst hx
        have h1 := h0.dst f1
        unfold wpX9_seekRings_7
        rw [e11, show (2 : Int32) * nI l.length = nI (2 * l.length) by rw [show (2 : Int32) = nI 2 from rfl, pk_mul]]
        refine ⟨h1.1.K 5 (by omega), ifN (by rw [nI_leI (by omega) (by omega)]; omega) (ifE (fun p4 => ?_) (fun p4 => ?_))⟩
        · have hs1 : jstop (run (jstep S bo) jstop s (rg1 S (l.getD i 0) false (l.drop (i + 1)))) = false := by
            cases hh : jstop (run (jstep S bo) jstop s (rg1 S (l.getD i 0) false (l.drop (i + 1)))) with
            | false => rfl
            | true => unfold ovr at o1; rw [hh, p4] at o1; exact absurd o1 (by decide)
          obtain ⟨c1, c2, c3, c4⟩ := at_ G1 f1
          rw [dv (2 * i + 1) (Or.inr rfl), dm (2 * i + 1) (by omega), show (2 * i + 1) % 2 = 1 by omega]
          refine ⟨z + 6, h1.1.R 5 0 6 (by decide), h1.1.K 6 (by omega), vi G1 f1, la (l.getD i 0), by rw [nI_clamp (by omega)]; exact c1, ifP rfl (ifN (fun e => n10 e) ⟨c2, ?_⟩)⟩
          rw [c3]
          refine ifN (fun e => n10 e) ⟨c2, ?_⟩
          rw [c4]
          refine ⟨h1.1.K 5 (by omega), ?_⟩
          rw [dv (2 * i + 1) (Or.inr rfl), nI_1]
          refine one i true _ G1 _ hlt hs1 f1 e11 I1 (fun G2 f2 e12 I2 o2 x hx => ?_)
          rw [nI_1] at hx; subst hx
          have := ih (i + 1) _ G2 (by omega) (by omega) f2 e12 I2 o2 hQ'
          rw [show 2 * (i + 1) = 2 * i + 1 + 1 by omega] at this
          exact this
        · have hs1 : jstop (run (jstep S bo) jstop s (rg1 S (l.getD i 0) false (l.drop (i + 1)))) = true := by
            cases hh : jstop (run (jstep S bo) jstop s (rg1 S (l.getD i 0) false (l.drop (i + 1)))) with
            | true => rfl
            | false => unfold ovr at o1; rw [hh] at o1; exact absurd o1 p4
          rw [run_stop hs1, run_stop hs1] at hQ'
          exact hQ' G1 f1 I1
      · have hs : jstop s = true := by
          cases hh : jstop s with
          | true => rfl
          | false => unfold ovr at ov; rw [hh] at ov; exact absurd ov q4
        rw [run_stop hs] at hQ'
        exact hQ' G f hI'
  unfold wpX9_seekRings
  refine ⟨h0.1.K 5 (by omega), fun G1 e1 => ⟨2 * (l.length + 1), ?_⟩⟩
  have f1 : chg (fun b => b = z + 5) (fun _ => False) G0 G1 := by rw [e1]; exact chg.rf.wI _ _ _ rfl
  exact loop (l.length + 1) 0 s0 G1 (by omega) (by omega) (f1.mono (fun b q => Or.inl q) (fun _ q => q)) (by rw [e1, gI_uI, if_neg (by omega)]; exact ho.1) (hI.keep f1 (fun b q1 q2 => by omega)) (by unfold ovr; rw [hs, e1, gI_uI, if_pos ⟨rfl, rfl⟩]; rfl) hQ
