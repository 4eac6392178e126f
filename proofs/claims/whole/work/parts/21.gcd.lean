/-! ===== Euclid's way, in both ===== -/
def euc : Nat → Nat → Nat → Nat
  | 0, a, _ => a
  | n + 1, a, b => if b = 0 then a else euc n b (a % b)
theorem euc_0 (n a : Nat) : euc n a 0 = a := by
  cases n with
  | zero => rfl
  | succ n => simp [euc]
theorem euc_gcd : ∀ n : Nat, (∀ a b, b < fib (n + 1) → euc n a b = Nat.gcd a b) ∧ ∀ a b, b < fib (n + 2) → euc (n + 1) a b = Nat.gcd a b := by
  have key : ∀ a b : Nat, b ≠ 0 → Nat.gcd a b = Nat.gcd b (a % b) := fun a b h => by
    rw [Nat.gcd_comm a b, Nat.gcd_rec b a, Nat.gcd_comm]
  intro n
  induction n with
  | zero =>
    refine ⟨fun a b h => ?_, fun a b h => ?_⟩
    · have h : b < 1 := h
      have : b = 0 := by omega
      subst this; simp [euc]
    · have h : b < 1 := h
      have : b = 0 := by omega
      subst this; simp [euc]
  | succ n ih =>
    refine ⟨ih.2, fun a b h => ?_⟩
    by_cases hb : b = 0
    · subst hb; rw [euc_0]; simp
    · have hr : a % b < b := Nat.mod_lt _ (by omega)
      show (if b = 0 then a else euc (n + 1) b (a % b)) = _
      rw [if_neg hb, key a b hb]
      by_cases h1 : a % b < fib (n + 2)
      · exact ih.2 _ _ h1
      · have hrn : a % b ≠ 0 := by
          intro q
          rw [q] at h1
          have : 0 < fib (n + 2) := by
            have e : fib (n + 3) = fib (n + 1) + fib (n + 2) := fib_2 (n + 1)
            have e2 : fib (n + 2) = fib n + fib (n + 1) := fib_2 n
            have h : b < fib (n + 3) := h
            omega
          omega
        show (if a % b = 0 then b else euc n (a % b) (b % (a % b))) = _
        rw [if_neg hrn, key b (a % b) hrn]
        refine ih.1 _ _ ?_
        have e : fib (n + 3) = fib (n + 1) + fib (n + 2) := fib_2 (n + 1)
        have h : b < fib (n + 3) := h
        have h5 : b % (a % b) ≤ b - a % b := by
          have h6 : b % (a % b) = (b - a % b) % (a % b) := Nat.mod_eq_sub_mod (by omega)
          rw [h6]
          exact Nat.mod_le _ _
        omega
theorem euc_100 (a : Nat) {b : Nat} (h : b < 9223372036854775808) : euc 100 a b = Nat.gcd a b := (euc_gcd 100).1 a b (Nat.lt_trans h fib_101)
def jg (x y : Int64) : Nat := Nat.gcd (nA x) (nA y)
theorem J_abs {x : Int64} {G : Wd} {Q : Int64 → Wd → Prop} (hm : -9223372036854775808 < x.toInt) (h : Q (lN (nA x)) G) : wpJ9_abs_067f4 x G Q := by
  unfold wpJ9_abs_067f4
  split
  · rename_i h0; rw [jabs_neg h0 hm]; exact h
  · rename_i h0; rw [← jabs_pos h0] at h; exact h
theorem X2_cd_loop {G : Wd} {Q : Int64 → Wd → Prop} : ∀ (n i a b : Nat), i + n = 100 → a < 9223372036854775808 → b < 9223372036854775808 → Q (lN (max (euc n a b) 1)) G → wpX2_commonDivisor_15 Q (n + 1) (lN a) (lN b) (nI i) G := by
  have fin : ∀ a : Nat, a < 9223372036854775808 → Q (lN (max a 1)) G → wpX2_commonDivisor_50 Q (lN a) G := by
    intro a ha h
    unfold wpX2_commonDivisor_50 wpJ9_max_f86c9
    by_cases h0 : a = 0
    · subst h0
      rw [if_pos (by decide)]; exact h
    · have : ¬ lN a < 1 := by rw [← lN1, lN_ltI ha (by omega)]; omega
      rw [if_neg this]
      rw [Nat.max_eq_left (by omega)] at h
      exact h
  intro n
  induction n with
  | zero =>
    intro i a b hi ha hb h
    unfold wpX2_commonDivisor_15
    have : i = 100 := by omega
    subst this
    rw [if_pos (by decide)]
    exact fin a ha h
  | succ n ih =>
    intro i a b hi ha hb h
    unfold wpX2_commonDivisor_15
    have hi0 : ¬ (100 : Int32) ≤ nI i := by
      rw [show (100 : Int32) = nI 100 from rfl, nI_leI (by omega) (by omega)]; omega
    rw [if_neg hi0]
    by_cases hb0 : b = 0
    · subst hb0
      rw [if_neg (by decide)]
      rw [euc_0] at h
      exact fin a ha h
    · rw [if_pos ((lN_pos hb).mpr (by omega))]
      refine ⟨fun q => hb0 ((lN_z hb).mp q), fun x4 hx4 x5 hx5 => ?_⟩
      subst hx4; subst hx5
      rw [lN_mod ha hb, nI_1]
      have hr : a % b < b := Nat.mod_lt _ (by omega)
      refine ih (i + 1) b (a % b) (by omega) hb (by omega) ?_
      simpa [euc, hb0] using h
theorem X2_cd {a b : Int64} {G : Wd} {Q : Int64 → Wd → Prop} (ha : -9223372036854775808 < a.toInt) (hb : -9223372036854775808 < b.toInt) (h : Q (lN (max (jg a b) 1)) G) : wpX2_commonDivisor a b G Q := by
  unfold wpX2_commonDivisor
  refine J_abs ha (J_abs hb ⟨101, ?_⟩)
  exact X2_cd_loop 100 0 _ _ rfl (nA_lt ha) (nA_lt hb) (by rw [euc_100 _ (nA_lt hb)]; exact h)
theorem X11_common_loop {G : Wd} {Q : Int64 → Wd → Prop} : ∀ (n a b : Nat), b ≤ n → a < 9223372036854775808 → b < 9223372036854775808 → Q (lN (Nat.gcd a b)) G → wpX11_common_28 Q (n + 1) (lN a) (lN b) G := by
  intro n
  induction n with
  | zero =>
    intro a b hn ha hb h
    have : b = 0 := by omega
    subst this
    unfold wpX11_common_28
    rw [if_pos lN0]
    simpa using h
  | succ n ih =>
    intro a b hn ha hb h
    unfold wpX11_common_28
    by_cases hb0 : b = 0
    · subst hb0
      rw [if_pos lN0]
      simpa using h
    · have hz : ¬ lN b = 0 := fun q => hb0 ((lN_z hb).mp q)
      rw [if_neg hz]
      refine ⟨hz, fun x2 hx2 => ?_⟩
      subst hx2
      rw [lN_mod ha hb]
      have hr : a % b < b := Nat.mod_lt _ (by omega)
      refine ih b (a % b) (by omega) hb (by omega) ?_
      rw [Nat.gcd_comm b, ← Nat.gcd_rec b a, Nat.gcd_comm]
      exact h
theorem X11_common {a b : Int64} {G : Wd} {Q : Int64 → Wd → Prop} (ha : -9223372036854775808 < a.toInt) (hb : -9223372036854775808 < b.toInt) (h : Q (lN (jg a b)) G) : wpX11_common a b G Q := by
  have f26 : ∀ x y : Nat, x < 9223372036854775808 → y < 9223372036854775808 → Q (lN (Nat.gcd x y)) G → wpX11_common_26 Q (lN x) (lN y) G := fun x y hx hy hq => ⟨y + 1, X11_common_loop y x y (Nat.le_refl _) hx hy hq⟩
  have f12 : ∀ x : Nat, x < 9223372036854775808 → Q (lN (Nat.gcd x (nA b))) G → wpX11_common_12 Q b (lN x) G := by
    intro x hx hq
    unfold wpX11_common_12
    split
    · rename_i h0
      rw [jabs_neg h0 hb]; exact f26 _ _ hx (nA_lt hb) hq
    · rename_i h0
      have e := jabs_pos h0
      generalize hn : nA b = m at e hq
      rw [e]; exact f26 _ _ hx (by rw [← hn]; exact nA_lt hb) hq
  unfold wpX11_common
  split
  · rename_i h0
    rw [jabs_neg h0 ha]; exact f12 _ (nA_lt ha) h
  · rename_i h0
    have e := jabs_pos h0
    have h2 : Q (lN (Nat.gcd (nA a) (nA b))) G := h
    have hl := nA_lt ha
    generalize hn : nA a = m at e h2 hl
    rw [e]; exact f12 _ hl h2
/-- whether a product is of a size of t or more -/
theorem X2_reaches {x y c : Int64} {t : Nat} {G : Wd} {Q : Int32 → Wd → Prop} (hx : -9223372036854775808 < x.toInt) (hy : -9223372036854775808 < y.toInt) (hc : c = lN t) (h0 : 0 < t) (ht : t < 9223372036854775808) (h : Q (if t ≤ nA x * nA y then 1 else 0) G) : wpX2_reaches x y c G Q := by
  subst hc
  unfold wpX2_reaches
  refine J_abs hx ?_
  by_cases hz : nA x = 0
  · rw [hz] at h ⊢
    rw [if_neg (by decide)]
    rw [if_neg (by omega)] at h
    exact h
  · rw [if_pos ((lN_pos (nA_lt hx)).mpr (by omega))]
    refine J_abs hy ⟨fun q => hz ((lN_z (nA_lt hx)).mp q), ?_⟩
    have e : lN t - 1 = lN (t - 1) := by rw [← lN1]; exact lN_subI h0
    rw [e, lN_div (by omega) (nA_lt hx)]
    have hd : (t - 1) / nA x ≤ t - 1 := Nat.div_le_self _ _
    have hiff : lN ((t - 1) / nA x) < lN (nA y) ↔ t ≤ nA x * nA y := by
      rw [lN_ltI (by omega) (nA_lt hy), Nat.div_lt_iff_lt_mul (by omega), Nat.mul_comm]
      omega
    by_cases hq : t ≤ nA x * nA y
    · rw [if_pos (hiff.mpr hq)]; rw [if_pos hq] at h; exact h
    · rw [if_neg (fun z => hq (hiff.mp z))]; rw [if_neg hq] at h; exact h
