/-! ===== the reference's arithmetic ===== -/
/-- between two worlds only these ints and longs of the reference's object, and these rows of it, have changed -/
def fxM (m : Nat) (SI SJ AR : List Nat) (G G' : Wd) : Prop :=
  (gZ G' = gZ G ∧ gK G' = gK G ∧ gN G' = gN G ∧ gR G' = gR G) ∧ (∀ j, j ∉ SI → gI G' m j = gI G m j) ∧ (∀ j, j ∉ SJ → gJ G' m j = gJ G m j) ∧ ∀ b, b ≠ m → (∀ o ∈ AR, b ≠ m + o) → (∀ j, gI G' b j = gI G b j) ∧ ∀ j, gJ G' b j = gJ G b j
section FX
variable {m : Nat} {SI SJ AR SI' SJ' AR' : List Nat} {G G1 G2 : Wd}
theorem fxM.rf : fxM m SI SJ AR G G := ⟨⟨rfl, rfl, rfl, rfl⟩, fun _ _ => rfl, fun _ _ => rfl, fun _ _ _ => ⟨fun _ => rfl, fun _ => rfl⟩⟩
theorem fxM.mono (h : fxM m SI SJ AR G G1) (h1 : ∀ x ∈ SI, x ∈ SI') (h2 : ∀ x ∈ SJ, x ∈ SJ') (h3 : ∀ x ∈ AR, x ∈ AR') : fxM m SI' SJ' AR' G G1 :=
  ⟨h.1, fun j hj => h.2.1 j (fun q => hj (h1 j q)), fun j hj => h.2.2.1 j (fun q => hj (h2 j q)), fun b hb ho => h.2.2.2 b hb (fun o q => ho o (h3 o q))⟩
theorem fxM.tr (h : fxM m SI SJ AR G G1) (h' : fxM m SI SJ AR G1 G2) : fxM m SI SJ AR G G2 :=
  ⟨⟨h'.1.1.trans h.1.1, h'.1.2.1.trans h.1.2.1, h'.1.2.2.1.trans h.1.2.2.1, h'.1.2.2.2.trans h.1.2.2.2⟩, fun j hj => (h'.2.1 j hj).trans (h.2.1 j hj), fun j hj => (h'.2.2.1 j hj).trans (h.2.2.1 j hj), fun b hb ho => ⟨fun j => ((h'.2.2.2 b hb ho).1 j).trans ((h.2.2.2 b hb ho).1 j), fun j => ((h'.2.2.2 b hb ho).2 j).trans ((h.2.2.2 b hb ho).2 j)⟩⟩
theorem fxM.wI (h : fxM m SI SJ AR G G1) (k : Nat) (v : Int32) (hk : k ∈ SI) : fxM m SI SJ AR G (uI G1 m k v) := by
  refine h.tr ⟨⟨rfl, rfl, rfl, rfl⟩, fun j hj => ?_, fun _ _ => rfl, fun b hb _ => ⟨fun j => ?_, fun _ => rfl⟩⟩
  · rw [gI_uI, if_neg (fun q => hj (by rw [q.2]; exact hk))]
  · rw [gI_uI, if_neg (fun q => hb q.1)]
theorem fxM.wJ (h : fxM m SI SJ AR G G1) (k : Nat) (v : Int64) (hk : k ∈ SJ) : fxM m SI SJ AR G (uJ G1 m k v) := by
  refine h.tr ⟨⟨rfl, rfl, rfl, rfl⟩, fun _ _ => rfl, fun j hj => ?_, fun b hb _ => ⟨fun _ => rfl, fun j => ?_⟩⟩
  · rw [gJ_uJ, if_neg (fun q => hj (by rw [q.2]; exact hk))]
  · rw [gJ_uJ, if_neg (fun q => hb q.1)]
theorem fxM.aI (h : fxM m SI SJ AR G G1) (o k : Nat) (v : Int32) (ho : o ∈ AR) (h0 : 0 < o) : fxM m SI SJ AR G (uI G1 (m + o) k v) := by
  refine h.tr ⟨⟨rfl, rfl, rfl, rfl⟩, fun j hj => ?_, fun _ _ => rfl, fun b hb hq => ⟨fun j => ?_, fun _ => rfl⟩⟩
  · rw [gI_uI, if_neg (fun q => by omega)]
  · rw [gI_uI, if_neg (fun q => hq o ho q.1)]
theorem fxM.aJ (h : fxM m SI SJ AR G G1) (o k : Nat) (v : Int64) (ho : o ∈ AR) (h0 : 0 < o) : fxM m SI SJ AR G (uJ G1 (m + o) k v) := by
  refine h.tr ⟨⟨rfl, rfl, rfl, rfl⟩, fun _ _ => rfl, fun j hj => ?_, fun b hb hq => ⟨fun _ => rfl, fun j => ?_⟩⟩
  · rw [gJ_uJ, if_neg (fun q => by omega)]
  · rw [gJ_uJ, if_neg (fun q => hq o ho q.1)]
theorem fxM.K (h : fxM m SI SJ AR G G1) (b : Nat) : gK G1 b = gK G b := by rw [h.1.2.1]
theorem fxM.N (h : fxM m SI SJ AR G G1) (b : Nat) : gN G1 b = gN G b := by rw [h.1.2.2.1]
theorem fxM.R (h : fxM m SI SJ AR G G1) (b j : Nat) : gR G1 b j = gR G b j := by rw [h.1.2.2.2]
theorem fxM.I (h : fxM m SI SJ AR G G1) (j : Nat) (hj : j ∉ SI) : gI G1 m j = gI G m j := h.2.1 j hj
theorem fxM.J (h : fxM m SI SJ AR G G1) (j : Nat) (hj : j ∉ SJ) : gJ G1 m j = gJ G m j := h.2.2.1 j hj
theorem fxM.AI (h : fxM m SI SJ AR G G1) (o j : Nat) (h0 : 0 < o) (ho : o ∉ AR) : gI G1 (m + o) j = gI G (m + o) j := (h.2.2.2 (m + o) (by omega) (fun o' q e => ho (by rw [show o = o' by omega]; exact q))).1 j
theorem fxM.AJ (h : fxM m SI SJ AR G G1) (o j : Nat) (h0 : 0 < o) (ho : o ∉ AR) : gJ G1 (m + o) j = gJ G (m + o) j := (h.2.2.2 (m + o) (by omega) (fun o' q e => ho (by rw [show o = o' by omega]; exact q))).2 j
end FX
theorem jg_comm (x y : Int64) : jg x y = jg y x := Nat.gcd_comm _ _
theorem jg_pos {x y : Int64} (h : y.toInt ≠ 0) : 0 < jg x y := by
  unfold jg
  exact Nat.gcd_pos_of_pos_right _ (by unfold nA; omega)
theorem g1_jg {x y : Int64} (h : y.toInt ≠ 0) : lN (jg x y) = g1 x y := by
  unfold g1
  rw [Nat.max_eq_left (jg_pos h)]
theorem g1_comm (x y : Int64) : g1 x y = g1 y x := by unfold g1; rw [jg_comm]
theorem X11_set {G : Wd} {m : Nat} {a b : Int64} {Q : Wd → Prop} (hk : gK G m = 11) (ha : nm a) (hb : nm b) (h0 : b.toInt ≠ 0) (h : ∀ G', fxM m [] [20, 21] [] G G' → gJ G' m 20 = a / g1 a b → gJ G' m 21 = b / g1 a b → Q G') : wpX11_set m a b G Q := by
  unfold wpX11_set
  refine X11_common ha hb ?_
  rw [g1_jg h0]
  refine ⟨g1_ne ha hb, hk, fun G5 h5 => ⟨g1_ne ha hb, fun G8 h8 => ?_⟩⟩
  subst h8; subst h5
  refine h _ ((fxM.rf.wJ 20 _ (by decide)).wJ 21 _ (by decide)) ?_ ?_
  · simp [gJ_uJ]
  · simp [gJ_uJ]
theorem X11_below {G : Wd} {m : Nat} {x y : Int64} {Q : Int64 → Wd → Prop} (hk : gK G m = 11) (hx : nm x) (hy : nm y) (h1 : T15 ≤ nA x * nA y → Q 1 (uI G m 22 1)) (h2 : ¬ T15 ≤ nA x * nA y → Q (x * y) G) : wpX11_below m x y G Q := by
  have f26 : ∀ p q : Nat, p < 9223372036854775808 → q < 9223372036854775808 → nA x = p → nA y = q → wpX11_below_26 Q m x y (lN p) (lN q) G := by
    intro p q hp hq ep eq
    unfold wpX11_below_26
    rw [ep, eq] at h1 h2
    by_cases hz : p = 0
    · rw [if_pos ((lN_z hp).mpr hz)]
      exact h2 (by rw [hz]; unfold T15; omega)
    · rw [if_neg (fun z => hz ((lN_z hp).mp z))]
      refine ⟨fun z => hz ((lN_z hp).mp z), ?_⟩
      rw [show (999999999999999 : Int64) = lN 999999999999999 from rfl, lN_div (by omega) hp]
      have hd : 999999999999999 / p ≤ 999999999999999 := Nat.div_le_self _ _
      have hiff : lN (999999999999999 / p) < lN q ↔ T15 ≤ p * q := by
        rw [lN_ltI (by omega) hq, Nat.div_lt_iff_lt_mul (by omega), Nat.mul_comm]
        unfold T15; omega
      by_cases hc : T15 ≤ p * q
      · rw [if_pos (hiff.mpr hc)]
        exact ⟨hk, fun G3 h3 => by rw [h3]; exact h1 hc⟩
      · rw [if_neg (fun z => hc (hiff.mp z))]
        exact h2 hc
  have f12 : ∀ p : Nat, p < 9223372036854775808 → nA x = p → wpX11_below_12 Q m x y (lN p) G := by
    intro p hp ep
    unfold wpX11_below_12
    split
    · rename_i h0
      rw [jabs_neg h0 hy]; exact f26 _ _ hp (nA_lt hy) ep rfl
    · rename_i h0
      have e := jabs_pos h0
      have := f26 p (nA y) hp (nA_lt hy) ep rfl
      rw [← e] at this
      exact this
  unfold wpX11_below
  split
  · rename_i h0
    rw [jabs_neg h0 hx]; exact f12 _ (nA_lt hx) rfl
  · rename_i h0
    have e := jabs_pos h0
    have := f12 (nA x) (nA_lt hx) rfl
    rw [← e] at this
    exact this
theorem X11_times {G : Wd} {m : Nat} {a b u d : Int64} {Q : Wd → Prop} (hk : gK G m = 11) (ha : nm a) (hb : nm b) (hu : nm u) (hd : nm d) (hb0 : b.toInt ≠ 0) (hd0 : d.toInt ≠ 0) (eu : gJ G m 20 = u) (ed : gJ G m 21 = d)
    (hs : ∀ q, fmul (some (u, d)) a b = some q → ∀ G', fxM m [] [20, 21] [] G G' → gJ G' m 20 = q.1 → gJ G' m 21 = q.2 → Q G')
    (hn : fmul (some (u, d)) a b = none → ∀ G', fxM m [22] [20, 21] [] G G' → gI G' m 22 = 1 → Q G') : wpX11_times m a b G Q := by
  unfold wpX11_times
  refine ⟨hk, ?_⟩
  rw [eu]
  refine X11_common hu hb ⟨hk, ?_⟩
  rw [ed]
  refine X11_common ha hd ⟨hk, ?_⟩
  rw [g1_jg hb0, g1_jg hd0, g1_comm a d]
  refine ⟨g1_ne hu hb, fun x9 h9 => ⟨g1_ne hd ha, fun x11 h11 => ⟨g1_ne hd ha, ?_⟩⟩⟩
  rw [eu] at h9
  rw [ed] at h11
  subst h9; subst h11
  have c1 := nm_div (y := g1 u b) hu
  have c2 := nm_div (y := g1 d a) hd
  have c3 := nm_div (y := g1 d a) ha
  have c4 := nm_div (y := g1 u b) hb
  refine X11_below hk c1 c3 (fun q1 => ?_) (fun q1 => ?_)
  · have hn' := hn (by simp [fmul, q1])
    refine ⟨hk, fun G16 h16 => ⟨g1_ne hu hb, ?_⟩⟩
    subst h16
    refine X11_below hk c2 c4 (fun q2 => ⟨hk, fun G22 h22 => ?_⟩) (fun q2 => ⟨hk, fun G22 h22 => ?_⟩)
    · subst h22
      refine hn' _ ((((fxM.rf.wI 22 _ (by decide)).wJ 20 _ (by decide)).wI 22 _ (by decide)).wJ 21 _ (by decide)) ?_
      simp [gI_uJ, gI_uI]
    · subst h22
      refine hn' _ (((fxM.rf.wI 22 _ (by decide)).wJ 20 _ (by decide)).wJ 21 _ (by decide)) ?_
      simp [gI_uJ, gI_uI]
  · refine ⟨hk, fun G16 h16 => ⟨g1_ne hu hb, ?_⟩⟩
    subst h16
    refine X11_below hk c2 c4 (fun q2 => ⟨hk, fun G22 h22 => ?_⟩) (fun q2 => ⟨hk, fun G22 h22 => ?_⟩)
    · subst h22
      refine hn (by simp [fmul, q2]) _ (((fxM.rf.wJ 20 _ (by decide)).wI 22 _ (by decide)).wJ 21 _ (by decide)) ?_
      simp [gI_uJ, gI_uI]
    · subst h22
      refine hs _ (by simp only [fmul]; rw [if_neg (fun z => z.elim q1 q2)]) _ ((fxM.rf.wJ 20 _ (by decide)).wJ 21 _ (by decide)) ?_ ?_
      · simp [gJ_uJ]
      · simp [gJ_uJ]
theorem X11_multiply {G : Wd} {m a b : Nat} {Q : Wd → Prop} (hk : gK G m = 11) (ha : a < 1000000000000000) (hb : b < 1000000000000000) (h : ∀ G' hi lo, fxM m [] [23, 24] [] G G' → hi * 1000000000000000 + lo = a * b → lo < 1000000000000000 → gJ G' m 23 = lN hi → gJ G' m 24 = lN lo → Q G') : wpX11_multiply m (lN a) (lN b) G Q := by
  unfold wpX11_multiply
  intro x1 e1 x2 e2 x3 e3 x4 e4 x5 e5 x6 e6
  rw [show (100000000 : Int64) = lN 100000000 from rfl, lN_div (by omega) (by omega)] at e1 e3
  rw [show (100000000 : Int64) = lN 100000000 from rfl, lN_mod (by omega) (by omega)] at e2 e4
  have dm1 := Nat.div_add_mod a 100000000
  have dm2 := Nat.div_add_mod b 100000000
  have l1 : a / 100000000 < 10000000 := by omega
  have l2 : a % 100000000 < 100000000 := by omega
  have l3 : b / 100000000 < 10000000 := by omega
  have l4 : b % 100000000 < 100000000 := by omega
  generalize a / 100000000 = a1 at *
  generalize a % 100000000 = a0 at *
  generalize b / 100000000 = b1 at *
  generalize b % 100000000 = b0 at *
  have hab : a * b = a1 * b1 * 10000000000000000 + (a1 * b0 + a0 * b1) * 100000000 + a0 * b0 := by
    rw [← dm1, ← dm2, Nat.add_mul, Nat.mul_add, Nat.mul_add, Nat.add_mul]
    rw [show 100000000 * a1 * (100000000 * b1) = a1 * b1 * 10000000000000000 by
      rw [Nat.mul_mul_mul_comm, Nat.mul_comm]]
    rw [show 100000000 * a1 * b0 = a1 * b0 * 100000000 by rw [Nat.mul_assoc, Nat.mul_comm]]
    rw [show a0 * (100000000 * b1) = a0 * b1 * 100000000 by rw [Nat.mul_left_comm, Nat.mul_comm]]
    omega
  have p1 : a1 * b0 ≤ 10000000 * 100000000 := Nat.mul_le_mul (by omega) (by omega)
  have p2 : a0 * b1 ≤ 100000000 * 10000000 := Nat.mul_le_mul (by omega) (by omega)
  have p3 : a0 * b0 ≤ 100000000 * 100000000 := Nat.mul_le_mul (by omega) (by omega)
  have p4 : a1 * b1 ≤ 10000000 * 10000000 := Nat.mul_le_mul (by omega) (by omega)
  subst e1; subst e2; subst e3; subst e4
  rw [lN_mulI, lN_mulI, lN_addI] at e5
  rw [lN_mulI] at e6
  subst e5; subst e6
  rw [hab] at h
  have hcr : a1 * b0 + a0 * b1 ≤ 2000000000000000 := by omega
  generalize a1 * b0 + a0 * b1 = cr at *
  rw [lN_mulI]
  generalize a0 * b0 = le at *
  generalize a1 * b1 = pp at *
  refine ⟨hk, fun G8 h8 G10 h10 => ?_⟩
  rw [show (10 : Int64) = lN 10 from rfl, show (10000000 : Int64) = lN 10000000 from rfl, show (1000000000000000 : Int64) = lN 1000000000000000 from rfl, lN_mulI, lN_div (by omega) (by omega), lN_div (by omega) (by omega), lN_addI, lN_addI] at h8
  rw [show (10000000 : Int64) = lN 10000000 from rfl, show (100000000 : Int64) = lN 100000000 from rfl, show (1000000000000000 : Int64) = lN 1000000000000000 from rfl, lN_mod (by omega) (by omega), lN_mod (by omega) (by omega), lN_mulI, lN_addI] at h10
  have r24 : gJ G10 m 24 = lN (cr % 10000000 * 100000000 + le % 1000000000000000) := by rw [h10, gJ_uJ, if_pos ⟨rfl, rfl⟩]
  have r23 : gJ G10 m 23 = lN (pp * 10 + cr / 10000000 + le / 1000000000000000) := by rw [h10, gJ_uJ, if_neg (by omega), h8, gJ_uJ, if_pos ⟨rfl, rfl⟩]
  have hf : fxM m [] [23, 24] [] G G10 := by
    rw [h10, h8]
    exact (fxM.rf.wJ 23 _ (by decide)).wJ 24 _ (by decide)
  rw [show (1000000000000000 : Int64) = lN 1000000000000000 from rfl, r24]
  have b1 : cr % 10000000 * 100000000 + le % 1000000000000000 < 2000000000000000 := by omega
  by_cases hlt : cr % 10000000 * 100000000 + le % 1000000000000000 < 1000000000000000
  · rw [if_pos ((lN_ltI (by omega) (by omega)).mpr hlt)]
    exact h G10 _ _ hf (by omega) hlt r23 r24
  · rw [if_neg (fun z => hlt ((lN_ltI (by omega) (by omega)).mp z))]
    intro G12 h12 G14 h14
    rw [lN_subI (by omega)] at h12
    have r23' : gJ G12 m 23 = lN (pp * 10 + cr / 10000000 + le / 1000000000000000) := by rw [h12, gJ_uJ, if_neg (by omega)]; exact r23
    rw [r23', ← lN1, lN_addI] at h14
    refine h G14 (pp * 10 + cr / 10000000 + le / 1000000000000000 + 1) (cr % 10000000 * 100000000 + le % 1000000000000000 - 1000000000000000) ?_ (by omega) (by omega) ?_ ?_
    · rw [h14, h12]
      exact (hf.wJ 24 _ (by decide)).wJ 23 _ (by decide)
    · rw [h14, gJ_uJ, if_pos ⟨rfl, rfl⟩]
    · rw [h14, gJ_uJ, if_neg (by omega), h12, gJ_uJ, if_pos ⟨rfl, rfl⟩]
