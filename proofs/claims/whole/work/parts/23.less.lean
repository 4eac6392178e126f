/-! ===== which fraction is less, as the class finds it; floors ===== -/
theorem less_mod {a b c d : Nat} (h : a / b = c / d) : (a * d < c * b ↔ (a % b) * d < (c % d) * b) := by
  have e1 : a * d = b * (a / b) * d + (a % b) * d := by
    conv => lhs; rw [← Nat.div_add_mod a b]
    rw [Nat.add_mul]
  have e2 : c * b = b * (a / b) * d + (c % d) * b := by
    conv => lhs; rw [← Nat.div_add_mod c d]
    rw [Nat.add_mul, ← h]
    congr 1
    rw [Nat.mul_assoc, Nat.mul_comm d, Nat.mul_comm (a / b) b]
  rw [e1, e2]
  exact Nat.add_lt_add_iff_left
theorem less_div {a b c d : Nat} (hb : 0 < b) (h : a / b < c / d) : a * d < c * b := by
  have h1 : a < (c / d) * b := (Nat.div_lt_iff_lt_mul hb).mp h
  by_cases hd : d = 0
  · subst hd; simp at h
  · have h2 : c / d * d ≤ c := Nat.div_mul_le_self c d
    calc a * d < (c / d * b) * d := Nat.mul_lt_mul_of_pos_right h1 (by omega)
      _ = (c / d * d) * b := by rw [Nat.mul_assoc, Nat.mul_comm b d, ← Nat.mul_assoc]
      _ ≤ c * b := Nat.mul_le_mul_right b h2
theorem less_step {G : Wd} {Q : Int32 → Wd → Prop} {n i a b c d : Nat} (hi : i < 100) (hb : 0 < b) (hd : 0 < d) (ha' : a < 9223372036854775808) (hb' : b < 9223372036854775808) (hc' : c < 9223372036854775808) (hd' : d < 9223372036854775808)
    (hq : Q (if a * d < c * b then 1 else 0) G) (hk : a / b = c / d → a % b ≠ 0 → c % d ≠ 0 → wpX2_isLess_26 Q n (lN d) (lN (c % d)) (lN b) (lN (a % b)) (nI (i + 1)) G) : wpX2_isLess_26 Q (n + 1) (lN a) (lN b) (lN c) (lN d) (nI i) G := by
  unfold wpX2_isLess_26
  have hi0 : ¬ (100 : Int32) ≤ nI i := by
    rw [show (100 : Int32) = nI 100 from rfl, nI_leI (by omega) (by omega)]; omega
  have zb : ¬ lN b = 0 := fun q => by have := (lN_z hb').mp q; omega
  have zd : ¬ lN d = 0 := fun q => by have := (lN_z hd').mp q; omega
  have q1 : a / b ≤ a := Nat.div_le_self a b
  have q2 : c / d ≤ c := Nat.div_le_self c d
  have m1 : a % b < b := Nat.mod_lt a hb
  have m2 : c % d < d := Nat.mod_lt c hd
  rw [if_neg hi0, if_pos ((lN_pos hb').mpr hb), if_pos ((lN_pos hd').mpr hd)]
  refine ⟨zb, zd, ?_⟩
  rw [lN_div ha' hb', lN_div hc' hd']
  by_cases he : a / b = c / d
  · rw [if_pos (by rw [he])]
    refine ⟨zb, fun x4 hx4 => ⟨zd, fun x6 hx6 => ?_⟩⟩
    rw [lN_mod ha' hb'] at hx4
    rw [lN_mod hc' hd'] at hx6
    subst hx4; subst hx6
    have f106 : a % b = 0 ∨ c % d = 0 → wpX2_isLess_106 Q (lN (a % b)) (lN (c % d)) G := by
      intro h0
      unfold wpX2_isLess_106
      have hiff : a * d < c * b ↔ a % b < c % d := by
        rw [less_mod he]
        rcases h0 with h0 | h0
        · rw [h0, Nat.zero_mul]
          refine ⟨fun h => ?_, fun h => Nat.mul_pos h hb⟩
          by_cases hz : c % d = 0
          · rw [hz] at h; simp at h
          · omega
        · rw [h0, Nat.zero_mul]; simp
      by_cases hl : a % b < c % d
      · rw [if_pos ((lN_ltI (by omega) (by omega)).mpr hl)]; rw [if_pos (hiff.mpr hl)] at hq; exact hq
      · rw [if_neg (fun q => hl ((lN_ltI (by omega) (by omega)).mp q))]; rw [if_neg (fun q => hl (hiff.mp q))] at hq; exact hq
    by_cases z1 : a % b = 0
    · rw [if_pos ((lN_z (by omega)).mpr z1)]; exact f106 (Or.inl z1)
    · rw [if_neg (fun q => z1 ((lN_z (by omega)).mp q))]
      by_cases z2 : c % d = 0
      · rw [if_pos ((lN_z (by omega)).mpr z2)]; exact f106 (Or.inr z2)
      · rw [if_neg (fun q => z2 ((lN_z (by omega)).mp q))]
        intro x7 hx7
        subst hx7
        rw [nI_1]
        exact hk he z1 z2
  · rw [if_neg (fun q => he ((lN_eqI (by omega) (by omega)).mp q))]
    refine ⟨zb, zd, ?_⟩
    by_cases hl : a / b < c / d
    · rw [if_pos ((lN_ltI (by omega) (by omega)).mpr hl)]; rw [if_pos (less_div hb hl)] at hq; exact hq
    · rw [if_neg (fun q => hl ((lN_ltI (by omega) (by omega)).mp q))]
      have := less_div (a := c) (b := d) (c := a) (d := b) hd (by omega)
      rw [if_neg (by omega)] at hq; exact hq
theorem less_loop {G : Wd} {Q : Int32 → Wd → Prop} : ∀ n : Nat, (∀ i a b c d, i + n = 100 → 0 < b → 0 < d → a < 9223372036854775808 → b < 9223372036854775808 → c < 9223372036854775808 → d < 9223372036854775808 → (b < fib (n + 1) ∨ d < fib (n + 1)) → Q (if a * d < c * b then 1 else 0) G → wpX2_isLess_26 Q (n + 1) (lN a) (lN b) (lN c) (lN d) (nI i) G) ∧
    (∀ i a b c d, i + (n + 1) = 100 → 0 < b → 0 < d → a < 9223372036854775808 → b < 9223372036854775808 → c < 9223372036854775808 → d < 9223372036854775808 → (b < fib (n + 2) ∨ d < fib (n + 2)) → Q (if a * d < c * b then 1 else 0) G → wpX2_isLess_26 Q (n + 2) (lN a) (lN b) (lN c) (lN d) (nI i) G) := by
  intro n
  induction n with
  | zero =>
    refine ⟨fun i a b c d hi hb hd _ _ _ _ hf _ => ?_, fun i a b c d hi hb hd _ _ _ _ hf _ => ?_⟩
    · have hf : b < 1 ∨ d < 1 := hf
      omega
    · have hf : b < 1 ∨ d < 1 := hf
      omega
  | succ n ih =>
    refine ⟨ih.2, fun i a b c d hi hb hd ha' hb' hc' hd' hf hq => ?_⟩
    have e : fib (n + 3) = fib (n + 1) + fib (n + 2) := fib_2 (n + 1)
    have m1 : a % b < b := Nat.mod_lt a hb
    have m2 : c % d < d := Nat.mod_lt c hd
    refine less_step (by omega) hb hd ha' hb' hc' hd' hq (fun he z1 z2 => ?_)
    have hq2 : Q (if d * (a % b) < b * (c % d) then 1 else 0) G := by
      have := less_mod he
      rw [Nat.mul_comm d, Nat.mul_comm b]
      by_cases hl : a * d < c * b
      · rw [if_pos (this.mp hl)]; rw [if_pos hl] at hq; exact hq
      · rw [if_neg (fun q => hl (this.mpr q))]; rw [if_neg hl] at hq; exact hq
    by_cases hs : c % d < fib (n + 2) ∨ a % b < fib (n + 2)
    · exact ih.2 (i + 1) d (c % d) b (a % b) (by omega) (by omega) (by omega) hd' (by omega) hb' (by omega) hs hq2
    · have hs1 : ¬ c % d < fib (n + 2) := fun q => hs (Or.inl q)
      have hs2 : ¬ a % b < fib (n + 2) := fun q => hs (Or.inr q)
      refine less_step (by omega) (by omega) (by omega) hd' (by omega) hb' (by omega) hq2 (fun he2 z3 z4 => ?_)
      have h5 : b % (a % b) ≤ b - a % b := by
        have h6 : b % (a % b) = (b - a % b) % (a % b) := Nat.mod_eq_sub_mod (by omega)
        rw [h6]; exact Nat.mod_le _ _
      have h7 : d % (c % d) ≤ d - c % d := by
        have h6 : d % (c % d) = (d - c % d) % (c % d) := Nat.mod_eq_sub_mod (by omega)
        rw [h6]; exact Nat.mod_le _ _
      have hq3 : Q (if a % b * (d % (c % d)) < c % d * (b % (a % b)) then 1 else 0) G := by
        have := less_mod he2
        rw [Nat.mul_comm (a % b), Nat.mul_comm (c % d)]
        by_cases hl : d * (a % b) < b * (c % d)
        · rw [if_pos (this.mp hl)]; rw [if_pos hl] at hq2; exact hq2
        · rw [if_neg (fun q => hl (this.mpr q))]; rw [if_neg hl] at hq2; exact hq2
      have h3 : b % (a % b) < a % b := Nat.mod_lt _ (by omega)
      have h4 : d % (c % d) < c % d := Nat.mod_lt _ (by omega)
      have hf : b < fib (n + 3) ∨ d < fib (n + 3) := hf
      exact ih.1 (i + 2) (a % b) (b % (a % b)) (c % d) (d % (c % d)) (by omega) (by omega) (by omega) (by omega) (by omega) (by omega) (by omega) (by omega) hq3
theorem X2_isLess {G : Wd} {x y a b c d : Nat} {Q : Int32 → Wd → Prop} (h1 : isF G x (some (lN a, lN b))) (h2 : isF G y (some (lN c, lN d))) (hb : 0 < b) (hd : 0 < d) (ha' : a < 9223372036854775808) (hb' : b < 9223372036854775808) (hc' : c < 9223372036854775808) (hd' : d < 9223372036854775808) (h : Q (if a * d < c * b then 1 else 0) G) : wpX2_isLess x y G Q := by
  unfold wpX2_isLess
  obtain ⟨k1, -, e1, e2⟩ := h1
  obtain ⟨k2, -, e3, e4⟩ := h2
  refine ⟨k1, fun x11 q1 x12 q2 => ⟨k2, fun x14 q3 x15 q4 => ⟨101, ?_⟩⟩⟩
  subst q1; subst q2; subst q3; subst q4
  rw [e1, e2, e3, e4]
  exact (less_loop 100).1 0 a b c d rfl hb hd ha' hb' hc' hd' (Or.inl (Nat.lt_trans hb' fib_101)) h
theorem l_xor_neg {x y : Int64} (hy : 0 ≤ y.toInt) : x ^^^ y < 0 ↔ x < 0 := by
  have hm : ∀ z : Int64, z < 0 ↔ z.toBitVec.msb = true := by
    intro z
    rw [l_lt, BitVec.msb_eq_toInt]
    simp only [decide_eq_true_eq]
    exact Iff.rfl
  have h0 : y.toBitVec.msb = false := by
    rw [BitVec.msb_eq_toInt]
    simp only [decide_eq_false_iff_not]
    show ¬ y.toInt < 0
    omega
  rw [hm, hm, Int64.toBitVec_xor, BitVec.msb_xor, h0]
  simp
theorem J_floorDiv {x y : Int64} {G : Wd} {Q : Int64 → Wd → Prop} (hx : -9223372036854775808 < x.toInt) (hy : 0 < y.toInt) (h : ∀ r : Int64, r.toInt = x.toInt / y.toInt → Q r G) : wpJ9_floorDiv_f86c9 x y G Q := by
  unfold wpJ9_floorDiv_f86c9
  have hq : (x / y).toInt = x.toInt.tdiv y.toInt := by
    refine Int64.toInt_div_of_ne_left x y (fun q => ?_)
    rw [q] at hx
    exact absurd hx (by decide)
  have rx := l_rng x
  have habs : (x.toInt.tdiv y.toInt).natAbs ≤ x.toInt.natAbs := by
    rw [Int.natAbs_tdiv]; exact Nat.div_le_self _ _
  have hdm : y.toInt * x.toInt.tdiv y.toInt + x.toInt.tmod y.toInt = x.toInt := Int.mul_tdiv_add_tmod x.toInt y.toInt
  refine ⟨fun q => by rw [q] at hy; exact absurd hy (by decide), fun x2 hx2 => ?_⟩
  subst hx2
  by_cases hn : x < 0
  · rw [if_pos ((l_xor_neg (by omega)).mpr hn)]
    have hn' : x.toInt < 0 := l_lt.mp hn
    have hprod : (x / y * y).toInt = x.toInt.tdiv y.toInt * y.toInt := by
      have hm : x.toInt.tmod y.toInt ≤ 0 := by
        have := Int.tmod_nonneg (a := -x.toInt) y.toInt (by omega)
        rw [Int.neg_tmod] at this
        omega
      have hm2 : -x.toInt.tmod y.toInt < y.toInt := by
        have := Int.tmod_lt_of_pos (-x.toInt) hy
        rw [Int.neg_tmod] at this
        exact this
      have e : x.toInt.tdiv y.toInt * y.toInt = x.toInt - x.toInt.tmod y.toInt := by rw [Int.mul_comm]; omega
      rw [l_mul (by rw [hq, e]; omega) (by rw [hq, e]; have := (l_rng y).2; omega), hq]
    have hr : -y.toInt < x.toInt.tmod y.toInt ∧ x.toInt.tmod y.toInt ≤ 0 := by
      have h1 := Int.tmod_nonneg (a := -x.toInt) y.toInt (by omega)
      have h2 := Int.tmod_lt_of_pos (-x.toInt) hy
      rw [Int.neg_tmod] at h1 h2
      omega
    by_cases he : x / y * y = x
    · rw [if_pos he]
      refine h _ ?_
      have e2 : x.toInt.tdiv y.toInt * y.toInt = x.toInt := by rw [← hprod, he]
      rw [hq]
      conv => rhs; rw [← e2]
      rw [Int.mul_ediv_cancel _ (by omega)]
    · rw [if_neg he]
      refine h _ ?_
      have hne : x.toInt.tmod y.toInt ≠ 0 := by
        intro q
        apply he
        rw [l_eq, hprod, Int.mul_comm]
        omega
      have hs : (x / y - 1).toInt = x.toInt.tdiv y.toInt - 1 := by
        rw [l_sub (by rw [hq]; show _ ≤ _ - (1 : Int); omega) (by rw [hq]; show _ - (1 : Int) < _; omega), hq]; rfl
      rw [hs]
      symm
      rw [Int.ediv_eq_iff_of_pos hy]
      rw [Int.sub_mul, Int.mul_comm]
      omega
  · rw [if_neg (fun q => hn ((l_xor_neg (by omega)).mp q))]
    have hn' : 0 ≤ x.toInt := by
      have : ¬ x.toInt < 0 := fun q => hn (l_lt.mpr q)
      omega
    refine h _ ?_
    rw [hq, Int.tdiv_eq_ediv_of_nonneg hn']
