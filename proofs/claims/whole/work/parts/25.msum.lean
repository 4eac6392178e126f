/-! ===== the reference: which fraction is less; numbers by two halves, spelled, divided ===== -/
theorem hi_lt {hi lo p q : Nat} (hp : p < 1000000000000000) (hq : q < 1000000000000000) (h : hi * 1000000000000000 + lo = p * q) : hi < 1000000000000000 := by
  have h1 : p * q ≤ 999999999999999 * 999999999999999 := Nat.mul_le_mul (by omega) (by omega)
  omega
theorem if_iff {α : Type} {p q : Prop} [Decidable p] [Decidable q] (h : p ↔ q) (x y : α) : (if p then x else y) = if q then x else y := by
  by_cases hp : p
  · rw [if_pos hp, if_pos (h.mp hp)]
  · rw [if_neg hp, if_neg (fun z => hp (h.mpr z))]
theorem lex_lt {a b c d : Nat} (hb : b < 1000000000000000) (hd : d < 1000000000000000) : (a * 1000000000000000 + b < c * 1000000000000000 + d) ↔ (a < c ∨ (a = c ∧ b < d)) := by omega
theorem X11_isLess {G : Wd} {m b d : Nat} {a c : Int64} {Q : Int32 → Wd → Prop} (hk : gK G m = 11) (ha : nA a < 1000000000000000) (hc : nA c < 1000000000000000) (hb : b < 1000000000000000) (hd : d < 1000000000000000) (hb0 : 0 < b) (hd0 : 0 < d) (h : ∀ G', fxM m [] [23, 24] [] G G' → Q (if a.toInt * d < c.toInt * b then 1 else 0) G') : wpX11_isLess m a (lN b) c (lN d) G Q := by
  have f94 : ∀ (t : Int32) (p q h1 l1 : Nat) (G8 : Wd), isB t → gK G8 m = 11 → p < 1000000000000000 → q < 1000000000000000 → h1 * 1000000000000000 + l1 = p * d → l1 < 1000000000000000 → (∀ G', fxM m [] [23, 24] [] G8 G' → Q (if t = 0 then (if p * d < q * b then 1 else 0) else (if q * b < p * d then 1 else 0)) G') → wpX11_isLess_94 Q m (lN b) t (lN h1) (lN l1) m (lN q) G8 := by
    intro t p q h1 l1 G8 ht k8 hp hq e1 hl1 hQ
    unfold wpX11_isLess_94
    refine ⟨k8, X11_multiply k8 hq hb (fun G4 h2 l2 f4 e2 hl2 r23 r24 => ?_)⟩
    have k4 : gK G4 m = 11 := by rw [f4.K]; exact k8
    have hh1 := hi_lt hp hd e1
    have hh2 := hi_lt hq hb e2
    refine ⟨k4, ?_⟩
    have hlt := lex_lt (a := h1) (c := h2) hl1 hl2
    have hgt := lex_lt (a := h2) (c := h1) hl2 hl1
    rw [e1, e2] at hlt
    rw [e1, e2] at hgt
    have hQ4 := hQ G4 f4
    have f170 : ∀ x y : Int32, x = (if p * d < q * b then 1 else 0) → y = (if q * b < p * d then 1 else 0) → wpX11_isLess_170 Q t x y G4 := by
      intro x y ex ey
      unfold wpX11_isLess_170
      rcases ht with ht | ht
      · subst ht
        rw [if_pos rfl] at hQ4 ⊢
        rw [ex]
        exact ⟨by split <;> first | exact Or.inl rfl | exact Or.inr rfl, hQ4⟩
      · subst ht
        rw [if_neg (by decide)] at hQ4 ⊢
        rw [ey]
        exact ⟨by split <;> first | exact Or.inl rfl | exact Or.inr rfl, hQ4⟩
    have f133 : ∀ x : Int32, x = (if p * d < q * b then 1 else 0) → wpX11_isLess_133 Q m t (lN h1) (lN l1) x G4 := by
      intro x ex
      unfold wpX11_isLess_133
      refine ⟨k4, ?_⟩
      rw [r23, r24]
      by_cases c1 : h2 < h1
      · rw [if_pos ((lN_ltI (by omega) (by omega)).mpr c1)]
        exact f170 x 1 ex (by rw [if_pos (hgt.mpr (Or.inl c1))])
      · rw [if_neg (fun z => c1 ((lN_ltI (by omega) (by omega)).mp z))]
        by_cases c2 : h1 = h2
        · rw [if_pos (by rw [c2])]
          by_cases c3 : l2 < l1
          · rw [if_pos ((lN_ltI (by omega) (by omega)).mpr c3)]
            exact f170 x 1 ex (by rw [if_pos (hgt.mpr (Or.inr ⟨c2.symm, c3⟩))])
          · rw [if_neg (fun z => c3 ((lN_ltI (by omega) (by omega)).mp z))]
            exact f170 x 0 ex (by rw [if_neg (fun z => (hgt.mp z).elim c1 (fun w => c3 w.2))])
        · rw [if_neg (fun z => c2 ((lN_eqI (by omega) (by omega)).mp z))]
          exact f170 x 0 ex (by rw [if_neg (fun z => (hgt.mp z).elim c1 (fun w => c2 w.1.symm))])
    rw [r23, r24]
    by_cases c1 : h1 < h2
    · rw [if_pos ((lN_ltI (by omega) (by omega)).mpr c1)]
      exact f133 1 (by rw [if_pos (hlt.mpr (Or.inl c1))])
    · rw [if_neg (fun z => c1 ((lN_ltI (by omega) (by omega)).mp z))]
      by_cases c2 : h1 = h2
      · rw [if_pos (by rw [c2])]
        by_cases c3 : l1 < l2
        · rw [if_pos ((lN_ltI (by omega) (by omega)).mpr c3)]
          exact f133 1 (by rw [if_pos (hlt.mpr (Or.inr ⟨c2, c3⟩))])
        · rw [if_neg (fun z => c3 ((lN_ltI (by omega) (by omega)).mp z))]
          exact f133 0 (by rw [if_neg (fun z => (hlt.mp z).elim c1 (fun w => c3 w.2))])
      · rw [if_neg (fun z => c2 ((lN_eqI (by omega) (by omega)).mp z))]
        exact f133 0 (by rw [if_neg (fun z => (hlt.mp z).elim c1 (fun w => c2 w.1))])
  have nma : nm a := by unfold nm; unfold nA at ha; omega
  have nmc : nm c := by unfold nm; unfold nA at hc; omega
  -- both not below 0
  have pos : ¬ a < 0 → ¬ c < 0 → wpX11_isLess_49 Q m a (lN b) c (lN d) 0 G := by
    intro h1 h2
    have e1 := jabs_pos h1
    have e2 := jabs_pos h2
    have t1 : a.toInt = (nA a : Int) := by unfold nA; have : ¬ a.toInt < 0 := fun q => h1 (l_lt.mpr q); omega
    have t2 : c.toInt = (nA c : Int) := by unfold nA; have : ¬ c.toInt < 0 := fun q => h2 (l_lt.mpr q); omega
    rw [t1, t2] at h
    generalize nA a = p at *
    generalize nA c = q at *
    subst e1; subst e2
    unfold wpX11_isLess_49
    rw [if_pos rfl]
    refine ⟨hk, X11_multiply hk ha hd (fun G8 h1' l1' f8 e8 hl8 r23 r24 => ⟨by rw [f8.K]; exact hk, fun x10 hx10 x11 hx11 => ?_⟩)⟩
    rw [r23] at hx10; rw [r24] at hx11
    subst hx10; subst hx11
    rw [if_pos rfl]
    refine f94 0 p q h1' l1' G8 (Or.inl rfl) (by rw [f8.K]; exact hk) ha hc e8 hl8 (fun G' f' => ?_)
    rw [if_pos rfl]
    have := h G' (f8.tr f')
    rw [if_iff (show ((p : Int) * d < q * b) ↔ p * d < q * b by rw [← Int.natCast_mul, ← Int.natCast_mul]; omega)] at this
    exact this
  have neg : a < 0 → c < 0 → wpX11_isLess_49 Q m a (lN b) c (lN d) 1 G := by
    intro h1 h2
    have e1 := jabs_neg h1 nma
    have e2 := jabs_neg h2 nmc
    have t1 : a.toInt = -(nA a : Int) := by unfold nA; have : a.toInt < 0 := l_lt.mp h1; omega
    have t2 : c.toInt = -(nA c : Int) := by unfold nA; have : c.toInt < 0 := l_lt.mp h2; omega
    unfold wpX11_isLess_49
    rw [if_neg (by decide), e1]
    refine ⟨hk, X11_multiply hk ha hd (fun G8 h1' l1' f8 e8 hl8 r23 r24 => ⟨by rw [f8.K]; exact hk, fun x10 hx10 x11 hx11 => ?_⟩)⟩
    rw [r23] at hx10; rw [r24] at hx11
    subst hx10; subst hx11
    rw [if_neg (by decide), e2]
    refine f94 1 (nA a) (nA c) h1' l1' G8 (Or.inr rfl) (by rw [f8.K]; exact hk) ha hc e8 hl8 (fun G' f' => ?_)
    rw [if_neg (by decide)]
    have := h G' (f8.tr f')
    rw [t1, t2] at this
    rw [if_iff (show (-(nA a : Int) * d < -(nA c : Int) * b) ↔ nA c * b < nA a * d by rw [Int.neg_mul, Int.neg_mul, ← Int.natCast_mul, ← Int.natCast_mul]; omega)] at this
    exact this
  unfold wpX11_isLess
  by_cases h1 : a < 0
  · rw [if_pos h1]
    unfold wpX11_isLess_11
    by_cases h2 : c < 0
    · rw [if_pos h2]
      unfold wpX11_isLess_23
      rw [if_pos rfl, if_pos h1]
      exact neg h1 h2
    · rw [if_neg h2]
      unfold wpX11_isLess_23
      rw [if_neg (by decide), if_pos h1]
      have := h G fxM.rf
      have t1 : a.toInt < 0 := l_lt.mp h1
      have t2 : 0 ≤ c.toInt := by have : ¬ c.toInt < 0 := fun q => h2 (l_lt.mpr q); omega
      have p1 : a.toInt * d < 0 := Int.mul_neg_of_neg_of_pos t1 (by omega)
      have p2 : 0 ≤ c.toInt * b := Int.mul_nonneg t2 (by omega)
      rw [if_pos (by omega)] at this
      exact this
  · rw [if_neg h1]
    unfold wpX11_isLess_11
    by_cases h2 : c < 0
    · rw [if_pos h2]
      unfold wpX11_isLess_23
      rw [if_neg (by decide), if_neg h1]
      have := h G fxM.rf
      have t2 : c.toInt < 0 := l_lt.mp h2
      have t1 : 0 ≤ a.toInt := by have : ¬ a.toInt < 0 := fun q => h1 (l_lt.mpr q); omega
      have p2 : c.toInt * b < 0 := Int.mul_neg_of_neg_of_pos t2 (by omega)
      have p1 : 0 ≤ a.toInt * d := Int.mul_nonneg t1 (by omega)
      rw [if_neg (by omega)] at this
      exact this
    · rw [if_neg h2]
      unfold wpX11_isLess_23
      rw [if_pos rfl, if_neg h1]
      exact pos h1 h2
/-- the row of digits holds a number by thousands -/
def spelt (G : Wd) (m n : Nat) : Prop := ∀ k, k < 12 → gJ G (m + 19) k = lN (n / 1000 ^ k % 1000)
def digOk (G : Wd) (m : Nat) : Prop := gK G m = 11 ∧ gR G m 25 = some (m + 19) ∧ gK G (m + 19) = 21 ∧ gN G (m + 19) = 12
theorem digOk.fx {G G' : Wd} {m : Nat} {SI SJ AR : List Nat} (h : digOk G m) (f : fxM m SI SJ AR G G') : digOk G' m := ⟨by rw [f.K]; exact h.1, by rw [f.R]; exact h.2.1, by rw [f.K]; exact h.2.2.1, by rw [f.N]; exact h.2.2.2⟩
theorem spell_2 {m h l : Nat} {Q : Wd → Prop} (hh : h < 1000000000000000000000) : ∀ (n i : Nat) (G : Wd), i + n = 12 → 5 ≤ i → digOk G m → h / 1000 ^ (i - 5) < 9223372036854775808 → (∀ k, k < i → gJ G (m + 19) k = lN ((h * 1000000000000000 + l) / 1000 ^ k % 1000)) → l < 1000000000000000 →
    (∀ G', fxM m [] [] [19] G G' → spelt G' m (h * 1000000000000000 + l) → Q G') → wpX11_spell_45 Q (n + 1) m (lN (h / 1000 ^ (i - 5))) (nI i) G := by
  intro n
  induction n with
  | zero =>
    intro i G hi h5 hd hb hs hl hQ
    have : i = 12 := by omega
    subst this
    unfold wpX11_spell_45
    rw [if_pos (by decide)]
    exact hQ G fxM.rf hs
  | succ n ih =>
    intro i G hi h5 hd hb hs hl hQ
    unfold wpX11_spell_45
    rw [if_neg (by rw [show (12 : Int32) = nI 12 from rfl, nI_leI (by omega) (by omega)]; omega)]
    refine ⟨hd.1, m + 19, hd.2.1, hd.2.2.1, by rw [hd.2.2.2]; exact vp_in_nI (by omega) (by omega), fun G6 h6 x7 h7 x8 h8 => ?_⟩
    rw [nI_clamp (by omega), show (1000 : Int64) = lN 1000 from rfl, lN_mod hb (by omega)] at h6
    rw [show (1000 : Int64) = lN 1000 from rfl, lN_div hb (by omega)] at h7
    rw [nI_1] at h8
    have e1 : h / 1000 ^ (i - 5) / 1000 = h / 1000 ^ (i + 1 - 5) := by
      rw [show i + 1 - 5 = (i - 5) + 1 by omega, Nat.pow_succ, Nat.div_div_eq_div_mul]
    rw [e1] at h7
    have f6 : fxM m [] [] [19] G G6 := by rw [h6]; exact fxM.rf.aJ 19 _ _ (by decide) (by decide)
    have hb' : h / 1000 ^ (i + 1 - 5) ≤ h / 1000 ^ (i - 5) := by rw [← e1]; exact Nat.div_le_self _ _
    subst h7; subst h8
    refine ih (i + 1) G6 (by omega) (by omega) (hd.fx f6) (by omega) (fun k hk => ?_) hl (fun G' f' s' => hQ G' (f6.tr f') s')
    rw [h6, gJ_uJ]
    by_cases e : k = i
    · subst e
      rw [if_pos ⟨rfl, rfl⟩]
      congr 2
      rw [show (1000 : Nat) ^ k = 1000 ^ 5 * 1000 ^ (k - 5) by rw [← Nat.pow_add]; congr 1; omega, ← Nat.div_div_eq_div_mul]
      congr 1
      show h = (h * 1000000000000000 + l) / 1000000000000000
      omega
    · rw [if_neg (fun z => e z.2)]
      exact hs k (by omega)
theorem spell_1 {m h l : Nat} {Q : Wd → Prop} (hh : h < 9223372036854775808) : ∀ (n i : Nat) (G : Wd), i + n = 5 → digOk G m → l < 1000000000000000 → (∀ k, k < i → gJ G (m + 19) k = lN ((h * 1000000000000000 + l) / 1000 ^ k % 1000)) →
    (∀ G', fxM m [] [] [19] G G' → spelt G' m (h * 1000000000000000 + l) → Q G') → wpX11_spell_6 Q (n + 1) m (lN h) (lN (l / 1000 ^ i)) (nI i) G := by
  intro n
  induction n with
  | zero =>
    intro i G hi hd hl hs hQ
    have : i = 5 := by omega
    subst this
    unfold wpX11_spell_6
    rw [if_pos (by decide)]
    have := spell_2 (m := m) (h := h) (l := l) (Q := Q) (by omega) 7 5 G rfl (by omega) hd (by simpa using hh) hs hl hQ
    simp only [Nat.sub_self, Nat.pow_zero, Nat.div_one] at this
    exact ⟨8, this⟩
  | succ n ih =>
    intro i G hi hd hl hs hQ
    unfold wpX11_spell_6
    rw [if_neg (by rw [show (5 : Int32) = nI 5 from rfl, nI_leI (by omega) (by omega)]; omega)]
    have hb : l / 1000 ^ i ≤ l := Nat.div_le_self _ _
    refine ⟨hd.1, m + 19, hd.2.1, hd.2.2.1, by rw [hd.2.2.2]; exact vp_in_nI (by omega) (by omega), fun G6 h6 x7 h7 x8 h8 => ?_⟩
    rw [nI_clamp (by omega), show (1000 : Int64) = lN 1000 from rfl, lN_mod (by omega) (by omega)] at h6
    rw [show (1000 : Int64) = lN 1000 from rfl, lN_div (by omega) (by omega)] at h7
    rw [nI_1] at h8
    have e1 : l / 1000 ^ i / 1000 = l / 1000 ^ (i + 1) := by
      rw [Nat.pow_succ, Nat.div_div_eq_div_mul]
    rw [e1] at h7
    have f6 : fxM m [] [] [19] G G6 := by rw [h6]; exact fxM.rf.aJ 19 _ _ (by decide) (by decide)
    subst h7; subst h8
    refine ih (i + 1) G6 (by omega) (hd.fx f6) hl (fun k hk => ?_) (fun G' f' s' => hQ G' (f6.tr f') s')
    rw [h6, gJ_uJ]
    by_cases e : k = i
    · subst e
      rw [if_pos ⟨rfl, rfl⟩]
      congr 1
      -- below the fifth place the halves' digits are the low half's
      have hk5 : k < 5 := by omega
      have e3 : h * 1000000000000000 + l = l + 1000 ^ k * (h * 1000 ^ (4 - k) * 1000) := by
        rw [show 1000 ^ k * (h * 1000 ^ (4 - k) * 1000) = h * (1000 ^ k * 1000 ^ (4 - k) * 1000) by
          rw [Nat.mul_assoc h, Nat.mul_left_comm, Nat.mul_assoc (1000 ^ k)]]
        rw [← Nat.pow_add, show k + (4 - k) = 4 by omega]
        omega
      rw [e3, Nat.add_mul_div_left _ _ (Nat.pow_pos (by omega))]
      rw [Nat.add_mul_mod_self_right]
    · rw [if_neg (fun z => e z.2)]
      exact hs k (by omega)
theorem X11_spell {m h l : Nat} {G : Wd} {Q : Wd → Prop} (hh : h < 9223372036854775808) (hl : l < 1000000000000000) (hd : digOk G m) (hQ : ∀ G', fxM m [] [] [19] G G' → spelt G' m (h * 1000000000000000 + l) → Q G') : wpX11_spell m (lN h) (lN l) G Q := by
  unfold wpX11_spell
  have := spell_1 (m := m) (h := h) (l := l) (Q := Q) hh 5 0 G rfl hd hl (fun k hk => absurd hk (Nat.not_lt_zero k)) hQ
  simp only [Nat.pow_zero, Nat.div_one] at this
  exact ⟨6, this⟩
theorem use1 {A P : Prop} (a : A) (h : A → P) : P := h a
theorem use2 {A B P : Prop} (a : A) (b : B) (h : A → B → P) : P := h a b
theorem dig_step (n c : Nat) : n / 1000 ^ c = n / 1000 ^ (c + 1) * 1000 + n / 1000 ^ c % 1000 := by
  rw [Nat.pow_succ, ← Nat.div_div_eq_div_mul]
  omega
theorem restBy_loop {m g n : Nat} {G : Wd} {Q : Int64 → Wd → Prop} (hg : 0 < g) (hg' : g < 1000000000000000) (hd : digOk G m) (hs : spelt G m n) (hQ : Q (lN (n % g)) G) : ∀ (c : Nat) (r : Int64) (v : Int32), r = lN (n / 1000 ^ c % g) → v = nI c + (-1) → c ≤ 12 → wpX11_restBy_6 Q (c + 1) m (lN g) r v G := by
  intro c
  induction c with
  | zero =>
    intro r v hr0 hv _
    subst hr0; subst hv
    unfold wpX11_restBy_6
    rw [if_pos (by decide)]
    simpa using hQ
  | succ c ih =>
    intro r v hr0 hv hc
    subst hr0
    rw [pk_m1] at hv
    unfold wpX11_restBy_6
    rw [hv, if_neg (nI_pos (by omega))]
    refine ⟨hd.1, m + 19, hd.2.1, hd.2.2.1, by rw [hd.2.2.2]; exact vp_in_nI (by omega) (by omega), fun z => by have := (lN_z (by omega)).mp z; omega, fun x7 h7 x8 h8 => ?_⟩
    have hr : n / 1000 ^ (c + 1) % g < g := Nat.mod_lt _ hg
    rw [nI_clamp (by omega), hs c (by omega), show (1000 : Int64) = lN 1000 from rfl, lN_mulI, lN_addI, lN_mod (by omega) (by omega)] at h7
    have e : (n / 1000 ^ (c + 1) % g * 1000 + n / 1000 ^ c % 1000) % g = n / 1000 ^ c % g := by
      conv => rhs; rw [dig_step n c]
      rw [Nat.add_mod, Nat.mul_mod, Nat.mod_mod, ← Nat.mul_mod, ← Nat.add_mod]
    rw [e] at h7
    exact ih x7 x8 h7 h8 (Nat.le_of_succ_le hc)
theorem X11_restBy {m g n : Nat} {G : Wd} {Q : Int64 → Wd → Prop} (hg : 0 < g) (hg' : g < 1000000000000000) (hn : n < 1000000000000000000000000000000000000) (hd : digOk G m) (hs : spelt G m n) (hQ : Q (lN (n % g)) G) : wpX11_restBy m (lN g) G Q := by
  unfold wpX11_restBy
  exact ⟨13, restBy_loop hg hg' hd hs hQ 12 0 11 (by rw [Nat.div_eq_of_lt (by simpa using hn)]; simp; rfl) (by decide) (Nat.le_refl _)⟩
theorem divided_loop {m k n : Nat} {G : Wd} {Q : Int64 → Wd → Prop} (hk0 : 0 < k) (hk' : k < 1000000000000000) (hd : digOk G m) (hs : spelt G m n) (h1 : T15 ≤ n / k → Q 1 (uI G m 22 1)) (h2 : ¬ T15 ≤ n / k → Q (lN (n / k)) G) : ∀ (c : Nat) (r q : Int64) (v : Int32), r = lN (n / 1000 ^ c % k) → q = lN (n / 1000 ^ c / k) → v = nI c + (-1) → c ≤ 12 → n / 1000 ^ c / k < 1000000000000000 → wpX11_divided_9 Q (c + 1) m (lN k) r q v G := by
  intro c
  induction c with
  | zero =>
    intro r q v hr0 hq0 hv _ hq
    subst hr0; subst hq0; subst hv
    unfold wpX11_divided_9
    rw [if_pos (by decide)]
    simp only [Nat.pow_zero, Nat.div_one] at hq ⊢
    exact h2 (by unfold T15; omega)
  | succ c ih =>
    intro r q v hr0 hq0' hv hc hq
    subst hr0; subst hq0'
    rw [pk_m1] at hv
    unfold wpX11_divided_9
    rw [hv, if_neg (nI_pos (by omega))]
    have zk : ¬ lN k = 0 := fun z => by have := (lN_z (by omega)).mp z; omega
    refine ⟨hd.1, m + 19, hd.2.1, hd.2.2.1, by rw [hd.2.2.2]; exact vp_in_nI (by omega) (by omega), fun x6 h6 => ⟨zk, fun x8 h8 => ⟨zk, fun x10 h10 => ?_⟩⟩⟩
    have hr : n / 1000 ^ (c + 1) % k < k := Nat.mod_lt _ hk0
    have hdg : n / 1000 ^ c % 1000 < 1000 := Nat.mod_lt _ (by omega)
    rw [nI_clamp (by omega), hs c (by omega), show (1000 : Int64) = lN 1000 from rfl, lN_mulI, lN_addI] at h6
    subst h6
    have hq0 : (n / 1000 ^ (c + 1) % k * 1000 + n / 1000 ^ c % 1000) / k ≤ n / 1000 ^ (c + 1) % k * 1000 + n / 1000 ^ c % 1000 := Nat.div_le_self _ _
    rw [show (1000 : Int64) = lN 1000 from rfl, lN_div (by omega) (by omega), lN_mulI, lN_addI] at h8
    rw [lN_mod (by omega) (by omega)] at h10
    have e0 : n / 1000 ^ c = n / 1000 ^ (c + 1) % k * 1000 + n / 1000 ^ c % 1000 + k * (n / 1000 ^ (c + 1) / k * 1000) := by
      conv => lhs; rw [dig_step n c, ← Nat.div_add_mod (n / 1000 ^ (c + 1)) k]
      rw [Nat.add_mul, Nat.mul_assoc]
      omega
    have e1 : n / 1000 ^ (c + 1) / k * 1000 + (n / 1000 ^ (c + 1) % k * 1000 + n / 1000 ^ c % 1000) / k = n / 1000 ^ c / k := by
      conv => rhs; rw [e0]
      rw [Nat.add_mul_div_left _ _ hk0]
      omega
    have e2 : (n / 1000 ^ (c + 1) % k * 1000 + n / 1000 ^ c % 1000) % k = n / 1000 ^ c % k := by
      conv => rhs; rw [e0]
      rw [Nat.add_mul_mod_self_left]
    have hb : n / 1000 ^ (c + 1) / k * 1000 + (n / 1000 ^ (c + 1) % k * 1000 + n / 1000 ^ c % 1000) / k < 9223372036854775808 := by omega
    rw [e1] at h8 hb
    rw [e2] at h10
    rw [show (1000000000000000 : Int64) = lN 1000000000000000 from rfl, h8]
    by_cases hlt : n / 1000 ^ c / k < 1000000000000000
    · rw [if_pos ((lN_ltI hb (by omega)).mpr hlt)]
      intro x11 h11
      exact ih x10 _ x11 h10 rfl h11 (Nat.le_of_succ_le hc) hlt
    · rw [if_neg (fun z => hlt ((lN_ltI hb (by omega)).mp z))]
      intro G12 h12
      subst h12
      refine h1 ?_
      have : n / 1000 ^ c / k ≤ n / k := Nat.div_le_div_right (Nat.div_le_self _ _)
      unfold T15
      omega
theorem X11_divided {m k n : Nat} {G : Wd} {Q : Int64 → Wd → Prop} (hk0 : 0 < k) (hk' : k < 1000000000000000) (hn : n < 1000000000000000000000000000000000000) (hd : digOk G m) (hs : spelt G m n) (h1 : T15 ≤ n / k → Q 1 (uI G m 22 1)) (h2 : ¬ T15 ≤ n / k → Q (lN (n / k)) G) : wpX11_divided m (lN k) G Q := by
  unfold wpX11_divided
  have e : n / 1000 ^ 12 = 0 := Nat.div_eq_of_lt (by simpa using hn)
  exact ⟨13, divided_loop hk0 hk' hd hs h1 h2 12 0 0 11 (by rw [e]; simp; rfl) (by rw [e]; simp; rfl) (by decide) (Nat.le_refl _) (by rw [e]; simp)⟩
theorem X11_bound {m h : Nat} {G : Wd} {Q : Wd → Prop} (hk : gK G m = 11) (hB : isB (gI G m 22)) (hh : h < 9223372036854775808) (e : gJ G m 23 = lN h) (hQ : ∀ G', fxM m [22] [] [] G G' → gI G' m 22 = (if gI G m 22 = 0 ∧ h < 1000 then 0 else 1) → Q G') : wpX11_bound m G Q := by
  have f24 : ∀ x : Int32, isB x → x = (if gI G m 22 = 0 ∧ h < 1000 then 0 else 1) → wpX11_bound_24 Q m x G := by
    intro x hx ex
    refine ⟨hk, hx, fun G2 h2 => ?_⟩
    refine hQ G2 (by rw [h2]; exact fxM.rf.wI 22 _ (by decide)) ?_
    rw [h2, gI_uI, if_pos ⟨rfl, rfl⟩, ex]
  unfold wpX11_bound
  refine ⟨hk, ?_⟩
  rw [e, show (1000 : Int64) = lN 1000 from rfl]
  by_cases h0 : gI G m 22 = 0
  · rw [if_pos h0]
    by_cases hl : h < 1000
    · rw [if_pos ((lN_ltI hh (by omega)).mpr hl)]
      exact f24 0 (Or.inl rfl) (by rw [if_pos ⟨h0, hl⟩])
    · rw [if_neg (fun z => hl ((lN_ltI hh (by omega)).mp z))]
      exact f24 1 (Or.inr rfl) (by rw [if_neg (fun z => hl z.2)])
  · rw [if_neg h0]
    exact f24 1 (Or.inr rfl) (by rw [if_neg (fun z => h0 z.1)])
