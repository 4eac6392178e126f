/-! ===== the class: seekWays, pickWay ===== -/
/-- all rows of fewer than j steps, the shorter ones first -/
def wl (S : St) (b : Nat) (l : List Nat) (a : Nat) : Nat → List (List Nat)
  | 0 => []
  | j + 1 => wl S b l a j ++ dfx S b l j a [a] []
def alw (S : St) (b : Nat) (l : List Nat) (a : Nat) : List (List Nat) := dfs S b l 9 a [a] []
theorem wl_dfx (S : St) (b : Nat) (l : List Nat) (a j : Nat) (hj : j ≤ 9) : dfx S b l j a [a] [] = (alw S b l a).filter (fun row => row.length == j) := by
  have := dfs_filter S b l 9 j a [a] [] hj
  rw [← this]
  congr 1
  funext row
  show (row.length == 0 + j) = (row.length == j)
  rw [Nat.zero_add]
theorem wl_len (S : St) (b : Nat) (l : List Nat) (a j : Nat) (hj : j ≤ 10) : (wl S b l a j).length = (alw S b l a).countP (fun row => decide (row.length < j)) := by
  induction j with
  | zero =>
    symm
    show List.countP _ _ = 0
    rw [List.countP_eq_zero]
    intro row _
    simp
  | succ j ih =>
    unfold wl
    rw [List.length_append, ih (by omega), wl_dfx S b l a j (by omega), ← List.countP_eq_length_filter]
    generalize alw S b l a = L
    induction L with
    | nil => rfl
    | cons r L ihL =>
      rw [List.countP_cons, List.countP_cons, List.countP_cons]
      by_cases c1 : r.length < j
      · rw [if_pos (decide_eq_true c1), if_neg (by simp; omega), if_pos (decide_eq_true (by omega))]; omega
      · rw [if_neg (by simp; omega)]
        by_cases c2 : r.length = j
        · rw [if_pos (by simp; omega), if_pos (decide_eq_true (by omega))]; omega
        · rw [if_neg (by simp; omega), if_neg (by simp; omega)]; omega
theorem alw_many (S : St) (b : Nat) (l : List Nat) (a : Nat) (h : l.length ≤ 24) : (alw S b l a).length ≤ 16777216 := by
  have h1 := dfs_many S b l 9 a [] [] (fun q => nomatch q)
  have h2 : 2 ^ l.countP (fre S []) ≤ 2 ^ 24 := Nat.pow_le_pow_right (by omega) (Nat.le_trans (List.countP_le_length) h)
  exact Nat.le_trans h1 h2
theorem wl_many (S : St) (b : Nat) (l : List Nat) (a j : Nat) (hj : j ≤ 10) (h : l.length ≤ 24) : (wl S b l a j).length ≤ 16777216 := by
  rw [wl_len S b l a j hj]
  exact Nat.le_trans (List.countP_le_length) (alw_many S b l a h)
theorem wl_10 (S : St) (b : Nat) (l : List Nat) (a : Nat) : (wl S b l a 10).length = (alw S b l a).length := by
  rw [wl_len S b l a 10 (Nat.le_refl _), List.countP_eq_length]
  intro row hr
  have := dfs_len S b l 9 a [a] [] row hr
  exact decide_eq_true (by have e : ([] : List Nat).length = 0 := rfl; omega)
theorem wl_row {S : St} {b : Nat} {l : List Nat} {a j N : Nat} (hN : N ≤ 24) (hl : ∀ k ∈ l, k < N) (hj : j ≤ 10) : ∀ row ∈ wl S b l a j, rok N row ∧ row.length < j := by
  induction j with
  | zero => intro row h; exact nomatch h
  | succ j ih =>
    intro row h
    unfold wl at h
    rcases List.mem_append.mp h with q | q
    · have := ih (by omega) row q; exact ⟨this.1, by omega⟩
    · rw [wl_dfx S b l a j (by omega)] at q
      have q1 := List.mem_filter.mp q
      have q2 : row.length = j := by simpa using q1.2
      exact ⟨dfs_rok hN hl 9 a [a] [] (fun x hx => nomatch hx) row q1.1, by omega⟩
theorem near_nil {S : St} {b : Nat} {l : List Nat} {d : Nat → Nat} {a : Nat} (h : near S b l 10 d) (j : Nat) (h1 : j ≤ d a) (h2 : j ≤ 10) : wl S b l a j = [] := by
  induction j with
  | zero => rfl
  | succ j ih =>
    unfold wl
    rw [ih (by omega) (by omega), ← dfs_filter S b l j j a [a] [] (Nat.le_refl _), dfs_wk S b l j a [a] [] (fun w => by have := h j (by omega) a w; omega)]
    rfl
theorem wl_pre (S : St) (b : Nat) (l : List Nat) (a j : Nat) (n : Nat) : ∃ m, wl S b l a (j + n) = wl S b l a j ++ m := by
  induction n with
  | zero => exact ⟨[], by rw [List.append_nil]; rfl⟩
  | succ n ih =>
    obtain ⟨m, hm⟩ := ih
    refine ⟨m ++ dfx S b l (j + n) a [a] [], ?_⟩
    show wl S b l a (j + n) ++ _ = _
    rw [hm, List.append_assoc]; rfl
theorem pfx_nil {z : Nat} {G : Wd} {S : St} {la lb : Nat → Nat} (h : CR z G S la lb) : pfx z G S [] :=
  ⟨fun i hi => absurd hi (Nat.not_lt_zero _), fun i hi => by
    have e : i = 0 := by have e : ([] : List Nat).length = 0 := rfl; omega
    subst e
    exact ⟨h.2.1.1, h.2.1.2⟩⟩
abbrev aP (z b : Nat) : Prop := b = z + 5 ∨ b = z + 7 ∨ b = z + 10 ∨ (z + 13 ≤ b ∧ b ≤ z + 45)
abbrev aT (z b : Nat) : Prop := b = z + 5 ∨ b = z + 7 ∨ b = z + 10 ∨ (z + 13 ≤ b ∧ b ≤ z + 32)
theorem X9_seekWays {σ : Type} {z goal a b : Nat} {G : Wd} {S : St} {la lb : Nat → Nat} {l : List Nat} {step : σ → List Nat → σ} {stop : σ → Bool} {I : σ → Wd → Prop} {s : σ} {Q : Wd → Prop}
    (h : CR z G S la lb) (hi : Inv S) (ho : opnd z G la l) (hl : ∀ x ∈ l, x < sM S) (h24 : l.length ≤ 24) (ha : a < 10) (hb : b < 10)
    (hst : ∀ s G G', stop s = false → I s G → chg (aT z) (fun _ => False) G G' → I s G')
    (hv : ∀ s pre G (Q : Wd → Prop), stop s = false → CR z G S la lb → pfx z G S pre → rok (sM S) pre → pre.length ≤ 9 → I s G → ovr z G false → (∀ G', sfr z G G' → chg (fun b => b = z + 5 ∨ (z + 33 ≤ b ∧ b ≤ z + 42)) (fun _ => False) G G' → I (step s pre) G' → ovr z G' (stop (step s pre)) → Q G') → ∀ G25, G25 = uI G (z + 5) 3 (nI pre.length) → ((gK G25 goal = 1 ∧ wpX0_arrived goal (z + 5) G25 (fun G27 => Q G27)) ∨ (gK G25 goal = 7 ∧ wpX7_arrived goal (z + 5) G25 (fun G29 => Q G29)) ∨ (gK G25 goal = 8 ∧ wpX8_arrived goal (z + 5) G25 (fun G31 => Q G31)) ∨ (gK G25 goal = 4 ∧ wpX4_arrived goal (z + 5) G25 (fun G33 => Q G33))))
    (hs : stop s = false) (hI : I s G) (hQ : ∀ G', chg (aP z) (fun _ => False) G G' → I (run step stop s (alw S b l a)) G' → Q G') : wpX9_seekWays (z + 5) (nI a) (nI b) goal G Q := by
  unfold wpX9_seekWays
  refine ⟨h.1.K 5 (by omega), ?_⟩
  refine X9_aim (fo := 0) h hi ho hl h24 (by omega) hb (fun d G1 f1 j1 i8 i9 i4 hd h100 hn => ?_)
  have h1 := h.dst (f1.mono (fun b q => by omega) (fun _ q => q))
  refine ⟨h1.1.K 5 (by omega), fun G2 e2 => ?_⟩
  have f2 : chg (fun b => b = z + 5 ∨ b = z + 10) (fun _ => False) G G2 := by rw [e2]; exact f1.wI _ _ _ (Or.inl rfl)
  have h2 := h.dst (f2.mono (fun b q => by omega) (fun _ q => q))
  have g2 : ∀ j, j ≠ 10 → gI G2 (z + 5) j = gI G1 (z + 5) j := fun j hj => by rw [e2, gI_uI, if_neg (by omega)]
  have tf : TF z G2 S la lb l 0 b 9 d := ⟨h2, ⟨by rw [g2 1 (by omega), j1 1 (by omega) (by omega) (by omega)]; exact ho.1, fun i hi' => by rw [f2.Rf (fun q => q)]; exact ho.2 i hi'⟩, ⟨by rw [g2 8 (by omega)]; exact i8, by rw [g2 9 (by omega)]; exact i9, by rw [e2, gI_uI, if_pos ⟨rfl, rfl⟩]; rfl⟩, fun n hn' => by rw [e2, gI_uI, if_neg (by omega)]; exact hd n hn'⟩
  refine X9_extend (lo := 0) (step := step) (stop := stop) (I := I) tf hi hl h24 hb (by omega) (by omega) h100 hn (fun s G G' q1 q2 q3 => hst s G G' q1 q2 (q3.mono (fun b q => by omega) (fun _ q => q))) (fun s pre G Q q1 q2 q3 q4 q5 _ q6 q7 q8 => hv s pre G Q q1 (tf.keep q2).1 q3 q4 q5 q6 q7 q8) 9 12 a _ [a] [] s G2 Q (by omega) ha (List.mem_singleton.mpr rfl) rfl (bts.one ha) (fun x hx => nomatch hx) (Nat.zero_le _) hs sfr.rf (pfx_nil h2) (hst s G G2 hs hI (f2.mono (fun b q => by omega) (fun _ q => q))) (by unfold ovr; rw [g2 4 (by omega)]; exact i4) (fun G3 f3 p3 I3 o3 => ?_)
  exact hQ G3 ((f2.mono (fun b q => by omega) (fun _ q => q)).tr (f3.1.mono (fun b q => by omega) (fun _ q => q))) I3
/-! picking -/
def pstep (w : Nat) (h : List (List Nat)) (r : List Nat) : List (List Nat) := if r.length = w then h ++ [r] else h
def pstop (k : Nat) (h : List (List Nat)) : Bool := decide (k < h.length)
theorem prun (w k : Nat) (D : List (List Nat)) : ∀ h : List (List Nat), h.length ≤ k → run (pstep w) (pstop k) h D = (h ++ D.filter (fun row => row.length == w)).take (k + 1) := by
  induction D with
  | nil =>
    intro h hk
    rw [List.filter_nil, List.append_nil, List.take_of_length_le (by omega)]; rfl
  | cons r D ih =>
    intro h hk
    show (if pstop k h then h else run (pstep w) (pstop k) (pstep w h r) D) = _
    rw [if_neg (by unfold pstop; simp; omega)]
    by_cases c : r.length = w
    · rw [show pstep w h r = h ++ [r] from if_pos c, List.filter_cons_of_pos (by simpa using c)]
      by_cases e : h.length = k
      · have hs : pstop k (h ++ [r]) = true := decide_eq_true (by rw [List.length_append]; show k < h.length + 1; omega)
        rw [run_stop hs]
        have : h ++ r :: D.filter (fun row => row.length == w) = (h ++ [r]) ++ D.filter (fun row => row.length == w) := by rw [List.append_assoc]; rfl
        rw [this, List.take_append_of_le_length (by rw [List.length_append]; show k + 1 ≤ h.length + 1; omega), List.take_of_length_le (by rw [List.length_append]; show h.length + 1 ≤ k + 1; omega)]
      · rw [ih (h ++ [r]) (by rw [List.length_append]; show h.length + 1 ≤ k; omega), List.append_assoc]; rfl
    · rw [show pstep w h r = h from if_neg c, List.filter_cons_of_neg (by simpa using c)]
      exact ih h hk
/-- what picking holds -/
def pkJ (z : Nat) (S : St) (k : Nat) (h : List (List Nat)) (G : Wd) : Prop := (h.length ≤ k → gI G (z + 34) 1 = nI (k - h.length)) ∧ (pstop k h = true → ∃ row, h[k]? = some row ∧ pfx z G S row ∧ gI G (z + 5) 3 = nI row.length)
def pkI (z : Nat) (S : St) (w k : Nat) (h : List (List Nat)) (G : Wd) : Prop := gK G (z + 34) = 7 ∧ gI G (z + 34) 0 = nI w ∧ (h.length ≤ k → gI G (z + 34) 1 = nI (k - h.length)) ∧ (pstop k h = true → ∃ row, h[k]? = some row ∧ pfx z G S row ∧ gI G (z + 5) 3 = nI row.length)
theorem pick_visit {z w k : Nat} {S : St} {la lb : Nat → Nat} (hw : w ≤ 9) (hk : k < 2 ^ 31) (s : List (List Nat)) (pre : List Nat) (G : Wd) (Q : Wd → Prop) (hs : pstop k s = false) (hc : CR z G S la lb) (hp : pfx z G S pre) (hr : rok (sM S) pre) (h9 : pre.length ≤ 9) (ho : ovr z G false) (hI : pkI z S w k s G) (hQ : ∀ G', sfr z G G' → chg (fun b => b = z + 5 ∨ (z + 33 ≤ b ∧ b ≤ z + 42)) (fun _ => False) G G' → pkI z S w k (pstep w s pre) G' → ovr z G' (pstop k (pstep w s pre)) → Q G') : ∀ G25, G25 = uI G (z + 5) 3 (nI pre.length) → ((gK G25 (z + 34) = 1 ∧ wpX0_arrived (z + 34) (z + 5) G25 (fun G27 => Q G27)) ∨ (gK G25 (z + 34) = 7 ∧ wpX7_arrived (z + 34) (z + 5) G25 (fun G29 => Q G29)) ∨ (gK G25 (z + 34) = 8 ∧ wpX8_arrived (z + 34) (z + 5) G25 (fun G31 => Q G31)) ∨ (gK G25 (z + 34) = 4 ∧ wpX4_arrived (z + 34) (z + 5) G25 (fun G33 => Q G33))) := by
  intro G1 e1
  obtain ⟨k7, i0, i1, _⟩ := hI
  have hle : s.length ≤ k := by
    have := of_decide_eq_false hs
    omega
  have f1 : chg (fun b => b = z + 5 ∨ b = z + 34) (fun _ => False) G G1 := by rw [e1]; exact chg.rf.wI _ _ _ (Or.inl rfl)
  have K1 : gK G1 (z + 34) = 7 := by rw [f1.K]; exact k7
  have K5 : gK G1 (z + 5) = 9 := by rw [f1.K]; exact hc.1.K 5 (by omega)
  have g3 : gI G1 (z + 5) 3 = nI pre.length := by rw [e1, gI_uI, if_pos ⟨rfl, rfl⟩]
  have gj : ∀ j, j ≠ 3 → gI G1 (z + 5) j = gI G (z + 5) j := fun j hj => by rw [e1, gI_uI, if_neg (by omega)]
  have g34 : ∀ j, gI G1 (z + 34) j = gI G (z + 34) j := fun j => by rw [e1, gI_uI, if_neg (by omega)]
  refine Or.inr (Or.inl ⟨K1, ?_⟩)
  unfold wpX7_arrived
  rw [g3, g34, g34, i0, i1 hle]
  refine ⟨K5, K1, ifE (fun c => ifE (fun c0 G5 e5 => ?_) (fun c0 => ?_)) (fun c => ?_)⟩
  · -- this is the one
    rw [nI_eqI (by omega) (by omega)] at c
    have ek : s.length = k := by
      have : nI (k - s.length) = nI 0 := c0
      rw [nI_eqI (by omega) (by omega)] at this
      omega
    have es : pstep w s pre = s ++ [pre] := if_pos c
    have est : pstop k (s ++ [pre]) = true := decide_eq_true (by rw [List.length_append]; show k < s.length + 1; omega)
    rw [es] at hQ
    refine ⟨by rw [e5, gK_uI]; exact K1, fun G6 e6 => ?_⟩
    have f6 : chg (fun b => b = z + 5 ∨ b = z + 34) (fun _ => False) G G6 := by rw [e6, e5]; exact (f1.wI _ _ _ (Or.inl rfl)).wI _ _ _ (Or.inr rfl)
    have p6 := hp.keep (by omega) f6 (fun b q => by omega)
    have h63 : gI G6 (z + 5) 3 = nI pre.length := by rw [e6, gI_uI, if_neg (by omega), e5, gI_uI, if_neg (by omega)]; exact g3
    refine hQ G6 ⟨f6.mono (fun b q => by omega) (fun _ q => q), fun j a b => by rw [e6, gI_uI, if_neg (by omega), e5, gI_uI, if_neg (by omega)]; exact gj j a⟩ (f6.mono (fun b q => by omega) (fun _ q => q)) ⟨by rw [f6.K]; exact k7, by rw [e6, gI_uI, if_neg (by omega), e5, gI_uI, if_neg (by omega), g34]; exact i0, fun q => ?_, fun _ => ⟨pre, ?_, p6, h63⟩⟩ ?_
    · rw [List.length_append] at q; have q' : s.length + 1 ≤ k := q; omega
    · rw [List.getElem?_append_right (by omega), ek, Nat.sub_self]; rfl
    · unfold ovr
      rw [est, e6, gI_uI, if_neg (by omega), e5, gI_uI, if_pos ⟨rfl, rfl⟩]; rfl
  · -- one is passed by
    rw [nI_eqI (by omega) (by omega)] at c
    have ek : s.length ≠ k := fun q => c0 (by rw [q, Nat.sub_self]; rfl)
    have es : pstep w s pre = s ++ [pre] := if_pos c
    have est : pstop k (s ++ [pre]) = false := decide_eq_false (by rw [List.length_append]; show ¬ k < s.length + 1; omega)
    rw [es] at hQ
    refine ⟨K1, fun G6 e6 => ?_⟩
    rw [g34, i1 hle, nIs1 (by omega)] at e6
    have f6 : chg (fun b => b = z + 5 ∨ b = z + 34) (fun _ => False) G G6 := by rw [e6]; exact f1.wI _ _ _ (Or.inr rfl)
    refine hQ G6 ⟨f6.mono (fun b q => by omega) (fun _ q => q), fun j a b => by rw [e6, gI_uI, if_neg (by omega)]; exact gj j a⟩ (f6.mono (fun b q => by omega) (fun _ q => q)) ⟨by rw [f6.K]; exact k7, by rw [e6, gI_uI, if_neg (by omega), g34]; exact i0, fun q => ?_, fun q => by rw [est] at q; cases q⟩ ?_
    · rw [e6, gI_uI, if_pos ⟨rfl, rfl⟩, List.length_append]; rfl
    · unfold ovr
      rw [est, e6, gI_uI, if_neg (by omega), gj 4 (by omega)]; exact ho
  · rw [nI_eqI (by omega) (by omega)] at c
    have es : pstep w s pre = s := if_neg c
    rw [es] at hQ
    refine hQ G1 ⟨f1.mono (fun b q => by omega) (fun _ q => q), fun j a b => gj j a⟩ (f1.mono (fun b q => by omega) (fun _ q => q)) ⟨K1, by rw [g34]; exact i0, fun q => by rw [g34]; exact i1 q, fun q => by rw [hs] at q; cases q⟩ ?_
    unfold ovr
    rw [hs, gj 4 (by omega)]; exact ho
theorem C_pick_loop {z a b k : Nat} {G0 : Wd} {S : St} {la lb : Nat → Nat} {l : List Nat} {d : Nat → Nat} {Q : Int32 → Wd → Prop} (h0 : CR z G0 S la lb) (ho : opnd z G0 la l) (e8 : gI G0 (z + 5) 8 = nI b) (e9 : gI G0 (z + 5) 9 = nI 0) (hd : dst z G0 d) (hi : Inv S) (hl : ∀ x ∈ l, x < sM S) (h24 : l.length ≤ 24) (ha : a < 10) (hb : b < 10) (hk : k < 2 ^ 31) (h100 : ∀ n, d n ≤ 100) (hn : near S b l 10 d)
    (h1 : (wl S b l a 10)[k]? = none → ∀ G', chg (aP z) (fun _ => False) G0 G' → Q 0 G') (h2 : ∀ row, (wl S b l a 10)[k]? = some row → ∀ G', chg (aP z) (fun _ => False) G0 G' → pfx z G' S row → gI G' (z + 5) 3 = nI row.length → Q 1 G') (n : Nat) : ∀ (w : Nat) (G : Wd), w + n = 11 → 0 < n → (∀ j, j ≠ 3 → j ≠ 4 → j ≠ 10 → gI G (z + 5) j = gI G0 (z + 5) j) → chg (fun b => b = z + 5 ∨ b = z + 7 ∨ (z + 13 ≤ b ∧ b ≤ z + 42)) (fun _ => False) G0 G → ovr z G (pstop k ((wl S b l a w).take (k + 1))) → pkJ z S k ((wl S b l a w).take (k + 1)) G → wpX9_pickWay_20 Q n (z + 5) (nI a) (z + 34) (nI w) G := by
  induction n with
  | zero => intro w G _ q; omega
  | succ n ih =>
    intro w G e _ gj f ov hI
    have hc := h0.dst (f.mono (fun b q => by omega) (fun _ q => q))
    have fin : (n = 0 ∨ pstop k ((wl S b l a w).take (k + 1)) = true) → wpX9_pickWay_64 Q (z + 5) G := by
      intro hh
      unfold wpX9_pickWay_64
      have hA : chg (aP z) (fun _ => False) G0 G := f.mono (fun b q => by omega) (fun _ q => q)
      cases c : pstop k ((wl S b l a w).take (k + 1)) with
      | true =>
        obtain ⟨_, hx⟩ := hI
        obtain ⟨row, r1, r2, r3⟩ := hx c
        unfold ovr at ov
        rw [c] at ov
        refine ⟨hc.1.K 5 (by omega), by rw [ov]; exact Or.inr rfl, ?_⟩
        rw [ov]
        refine h2 row ?_ G hA r2 r3
        obtain ⟨m, hm⟩ := wl_pre S b l a w (10 - w)
        rw [show w + (10 - w) = 10 by omega] at hm
        have hlt : k < (wl S b l a w).length := by
          have := of_decide_eq_true c
          rw [List.length_take] at this
          omega
        rw [hm, List.getElem?_append_left hlt]
        rw [List.getElem?_take_of_lt (by omega)] at r1
        exact r1
      | false =>
        have n0 : n = 0 := by
          rcases hh with q | q
          · exact q
          · rw [c] at q; cases q
        unfold ovr at ov
        rw [c] at ov
        refine ⟨hc.1.K 5 (by omega), by rw [ov]; exact Or.inl rfl, ?_⟩
        rw [ov]
        refine h1 ?_ G hA
        rw [show w = 10 by omega] at c
        have := of_decide_eq_false c
        rw [List.length_take] at this
        rw [List.getElem?_eq_none_iff]
        omega
    unfold wpX9_pickWay_20
    refine ifE (fun c => ?_) (fun c => ⟨hc.1.K 5 (by omega), ifE (fun c4 => ⟨hc.1.K 34 (by omega), fun G4 e4 G6 e6 => ?_⟩) (fun c4 => fin (Or.inr ?_))⟩)
    · rw [i_lt, nI_toInt (by omega)] at c
      have c' : (9 : Int) < w := c
      exact fin (Or.inl (by omega))
    · rw [i_lt, nI_toInt (by omega)] at c
      have c' : ¬ (9 : Int) < w := c
      have hst : pstop k ((wl S b l a w).take (k + 1)) = false := by
        cases q : pstop k ((wl S b l a w).take (k + 1)) with
        | false => rfl
        | true => unfold ovr at ov; rw [q, c4] at ov; exact absurd ov (by decide)
      have hle : (wl S b l a w).length ≤ k := by
        have := of_decide_eq_false hst
        rw [List.length_take] at this
        omega
      have etk : (wl S b l a w).take (k + 1) = wl S b l a w := List.take_of_length_le (by omega)
      rw [etk] at hI hst
      have f6 : chg (fun b => b = z + 5 ∨ b = z + 34) (fun _ => False) G G6 := by rw [e6, e4]; exact (chg.rf.wI _ _ _ (Or.inr rfl)).wI _ _ _ (Or.inl rfl)
      have f06 := f.tr (f6.mono (P' := fun b => b = z + 5 ∨ b = z + 7 ∨ (z + 13 ≤ b ∧ b ≤ z + 42)) (fun b q => by omega) (fun _ q => q))
      have h6 := h0.dst (f06.mono (fun b q => by omega) (fun _ q => q))
      have g6 : ∀ j, j ≠ 3 → j ≠ 4 → j ≠ 10 → gI G6 (z + 5) j = gI G0 (z + 5) j := fun j q3 q4 q10 => by
        rw [e6, gI_uI, if_neg (by omega), e4, gI_uI, if_neg (by omega)]; exact gj j q3 q4 q10
      have tf : TF z G6 S la lb l 0 b w d := ⟨h6, ⟨by rw [g6 1 (by omega) (by omega) (by omega)]; exact ho.1, fun i hi' => by rw [f06.Rf (fun q => q)]; exact ho.2 i hi'⟩, ⟨by rw [g6 8 (by omega) (by omega) (by omega)]; exact e8, by rw [g6 9 (by omega) (by omega) (by omega)]; exact e9, by rw [e6, gI_uI, if_pos ⟨rfl, rfl⟩]⟩, fun n hn' => by rw [f06.I (by omega)]; exact hd n hn'⟩
      have I6 : pkI z S w k (wl S b l a w) G6 := ⟨h6.1.K 34 (by omega), by rw [e6, gI_uI, if_neg (by omega), e4, gI_uI, if_pos ⟨rfl, rfl⟩], fun q => by rw [e6, gI_uI, if_neg (by omega), e4, gI_uI, if_neg (by omega)]; exact hI.1 q, fun q => by rw [hst] at q; cases q⟩
      refine X9_extend (lo := 0) (step := pstep w) (stop := pstop k) (I := pkI z S w k) tf hi hl h24 hb (by omega) (by omega) h100 hn (fun s G G' q1 q2 q3 => ⟨by rw [q3.K]; exact q2.1, by rw [q3.I (by omega)]; exact q2.2.1, fun q => by rw [q3.I (by omega)]; exact q2.2.2.1 q, fun q => by rw [q1] at q; cases q⟩) (fun s pre G Q q1 q2 q3 q4 q5 _ q6 q7 q8 => pick_visit (by omega) hk s pre G Q q1 (tf.keep q2).1 q3 q4 (by omega) q7 q6 q8) w 12 a _ [a] [] (wl S b l a w) G6 _ (by omega) ha (List.mem_singleton.mpr rfl) (by show 0 + w = w; omega) (bts.one ha) (fun x hx => nomatch hx) (Nat.zero_le _) hst sfr.rf (pfx_nil h6) I6 (by unfold ovr; rw [e6, gI_uI, if_neg (by omega), e4, gI_uI, if_neg (by omega)]; exact c4) (fun G7 f7 p7 I7 o7 x hx => ?_)
      rw [nI_1] at hx; subst hx
      have eD : run (pstep w) (pstop k) (wl S b l a w) (dfs S b (l.drop 0) w a [a] []) = (wl S b l a (w + 1)).take (k + 1) := by
        rw [prun w k _ _ hle]
        show _ = (wl S b l a w ++ dfx S b l w a [a] []).take (k + 1)
        rw [← dfs_filter S b l w w a [a] [] (Nat.le_refl _)]
        have e0 : ∀ row : List Nat, (row.length == w) = (row.length == ([] : List Nat).length + w) := fun row => by
          show (row.length == w) = (row.length == 0 + w)
          rw [Nat.zero_add]
        simp only [← e0]
        rfl
      rw [eD] at I7 o7
      refine ih (w + 1) G7 (by omega) (by omega) (fun j q3 q4 q10 => by rw [f7.2 j q3 q4]; exact g6 j q3 q4 q10) (f06.tr f7.1) o7 I7.2.2
    · cases q : pstop k ((wl S b l a w).take (k + 1)) with
      | true => rfl
      | false => unfold ovr at ov; rw [q] at ov; exact absurd ov c4
theorem X9_pickWay {z a b k : Nat} {kk : Int32} {G : Wd} {S : St} {la lb : Nat → Nat} {l : List Nat} {Q : Int32 → Wd → Prop} (h : CR z G S la lb) (hi : Inv S) (ho : opnd z G la l) (hl : ∀ x ∈ l, x < sM S) (h24 : l.length ≤ 24) (ha : a < 10) (hb : b < 10) (hk : k < 2 ^ 31) (ek : kk = nI k)
    (h1 : (wl S b l a 10)[k]? = none → ∀ G', chg (aP z) (fun _ => False) G G' → Q 0 G') (h2 : ∀ row, (wl S b l a 10)[k]? = some row → ∀ G', chg (aP z) (fun _ => False) G G' → pfx z G' S row → gI G' (z + 5) 3 = nI row.length → Q 1 G') : wpX9_pickWay (z + 5) (nI a) (nI b) kk (z + 34) G Q := by
  unfold wpX9_pickWay
  refine ⟨h.1.K 5 (by omega), ?_⟩
  refine X9_aim (fo := 0) h hi ho hl h24 (by omega) hb (fun d G1 f1 j1 i8 i9 i4 hd h100 hn => ?_)
  have h1' := h.dst (f1.mono (fun b q => by omega) (fun _ q => q))
  refine ⟨h1'.1.K 34 (by omega), fun G2 e2 => ?_⟩
  have f2 : chg (fun b => b = z + 5 ∨ b = z + 10 ∨ b = z + 34) (fun _ => False) G G2 := by rw [e2]; exact (f1.mono (fun b q => by omega) (fun _ q => q)).wI _ _ _ (Or.inr (Or.inr rfl))
  have h2' := h.dst (f2.mono (fun b q => by omega) (fun _ q => q))
  have g2 : ∀ j, gI G2 (z + 5) j = gI G1 (z + 5) j := fun j => by rw [e2, gI_uI, if_neg (by omega)]
  have d2 : dst z G2 d := fun n hn' => by rw [e2, gI_uI, if_neg (by omega)]; exact hd n hn'
  have dl := h100 a
  have hA : ∀ {G'}, chg (aP z) (fun _ => False) G2 G' → chg (aP z) (fun _ => False) G G' := fun q => (f2.mono (fun b q => by omega) (fun _ q => q)).tr q
  refine ⟨h2'.1.K 5 (by omega), z + 10, h2'.1.R 5 7 10 (by decide), h2'.1.K 10 (by omega), by rw [h2'.1.N 10 (by omega)]; exact vp_in_nI ha (by decide), fun x hx => ?_⟩
  rw [nI_clamp (by omega), d2 a ha] at hx
  subst hx
  have nil : ∀ j, j ≤ d a → j ≤ 10 → wl S b l a j = [] := fun j q1 q2 => near_nil (show near S b l 10 d from hn) j q1 q2
  by_cases c : d a ≤ 10
  · refine ⟨11 - d a, C_pick_loop (k := k) h2' ⟨by rw [g2, j1 1 (by omega) (by omega) (by omega)]; exact ho.1, fun i hi' => by rw [f2.Rf (fun q => q)]; exact ho.2 i hi'⟩ (by rw [g2]; exact i8) (by rw [g2]; exact i9) d2 hi hl h24 ha hb hk h100 hn (fun q G' f' => h1 q G' (hA f')) (fun row q G' f' => h2 row q G' (hA f')) (11 - d a) (d a) G2 (by omega) (by omega) (fun _ _ _ _ => rfl) chg.rf ?_ ⟨fun _ => ?_, fun q => ?_⟩⟩
    · unfold ovr
      rw [nil (d a) (Nat.le_refl _) c, g2 4, i4]; rfl
    · rw [nil (d a) (Nat.le_refl _) c, e2, gI_uI, if_pos ⟨rfl, rfl⟩, ek]; rfl
    · rw [nil (d a) (Nat.le_refl _) c] at q; cases (of_decide_eq_true q)
  · refine ⟨1, ?_⟩
    unfold wpX9_pickWay_20
    refine ifP (by rw [i_lt, nI_toInt (by omega)]; show (9 : Int) < d a; omega) ?_
    unfold wpX9_pickWay_64
    rw [g2 4, i4]
    exact ⟨h2'.1.K 5 (by omega), Or.inl rfl, h1 (by rw [nil 10 (by omega) (by omega)]; rfl) G2 (hA chg.rf)⟩
