/-! ===== numbers: Int64, Int32 and whole numbers ===== -/
theorem bm64 {z : Int} (h1 : -9223372036854775808 ≤ z) (h2 : z < 9223372036854775808) : z.bmod (2 ^ 64) = z := by
  show z.bmod 18446744073709551616 = z
  exact Int.bmod_eq_of_le (by omega) (by omega)
theorem bm32 {z : Int} (h1 : -2147483648 ≤ z) (h2 : z < 2147483648) : z.bmod (2 ^ 32) = z := by
  show z.bmod 4294967296 = z
  exact Int.bmod_eq_of_le (by omega) (by omega)
theorem l_add {x y : Int64} (h1 : -9223372036854775808 ≤ x.toInt + y.toInt) (h2 : x.toInt + y.toInt < 9223372036854775808) : (x + y).toInt = x.toInt + y.toInt := by
  rw [Int64.toInt_add]; exact bm64 h1 h2
theorem l_sub {x y : Int64} (h1 : -9223372036854775808 ≤ x.toInt - y.toInt) (h2 : x.toInt - y.toInt < 9223372036854775808) : (x - y).toInt = x.toInt - y.toInt := by
  rw [Int64.toInt_sub]; exact bm64 h1 h2
theorem l_mul {x y : Int64} (h1 : -9223372036854775808 ≤ x.toInt * y.toInt) (h2 : x.toInt * y.toInt < 9223372036854775808) : (x * y).toInt = x.toInt * y.toInt := by
  rw [Int64.toInt_mul]; exact bm64 h1 h2
theorem l_neg {x : Int64} (h : -9223372036854775808 < x.toInt) : (-x).toInt = -x.toInt := by
  have := Int64.toInt_lt x
  rw [Int64.toInt_neg]; exact bm64 (by omega) (by omega)
theorem l_rng (x : Int64) : -9223372036854775808 ≤ x.toInt ∧ x.toInt < 9223372036854775808 := ⟨by have := Int64.le_toInt x; omega, by have := Int64.toInt_lt x; omega⟩
theorem i_rng (x : Int32) : -2147483648 ≤ x.toInt ∧ x.toInt < 2147483648 := ⟨by have := Int32.le_toInt x; omega, by have := Int32.toInt_lt x; omega⟩
theorem l_lt {x y : Int64} : x < y ↔ x.toInt < y.toInt := Int64.lt_iff_toInt_lt
theorem l_le {x y : Int64} : x ≤ y ↔ x.toInt ≤ y.toInt := Int64.le_iff_toInt_le
theorem l_eq {x y : Int64} : x = y ↔ x.toInt = y.toInt := Int64.toInt_inj.symm
theorem i_lt {x y : Int32} : x < y ↔ x.toInt < y.toInt := Int32.lt_iff_toInt_lt
theorem i_le {x y : Int32} : x ≤ y ↔ x.toInt ≤ y.toInt := Int32.le_iff_toInt_le
theorem i_eq {x y : Int32} : x = y ↔ x.toInt = y.toInt := Int32.toInt_inj.symm
theorem lT {n : Nat} (h : n < 9223372036854775808) : (lN n).toInt = (n : Int) := pk_lT (by simpa using h)
theorem l_of {x : Int64} (h : 0 ≤ x.toInt) : x = lN x.toInt.toNat := by
  have := (l_rng x).2
  rw [l_eq, lT (by omega)]
  omega
theorem l_of' {x : Int64} {n : Nat} (h : x.toInt = n) : x = lN n := by
  have := (l_rng x).2
  rw [l_eq, lT (by omega), h]
theorem l_ofneg {x : Int64} {n : Nat} (hn : n < 9223372036854775808) (h : x.toInt = -n) : x = -lN n := by
  rw [l_eq, l_neg (by rw [lT hn]; omega), lT hn, h]
theorem lN0 : lN 0 = 0 := rfl
theorem lN1 : lN 1 = 1 := rfl
theorem lN_pos {n : Nat} (h : n < 9223372036854775808) : 0 < lN n ↔ 0 < n := by
  rw [l_lt, lT h]
  show (0 : Int) < _ ↔ _
  omega
theorem lN_z {n : Nat} (h : n < 9223372036854775808) : lN n = 0 ↔ n = 0 := by
  rw [l_eq, lT h]
  show _ = (0 : Int) ↔ _
  omega
theorem lN_ltI {a b : Nat} (ha : a < 9223372036854775808) (hb : b < 9223372036854775808) : lN a < lN b ↔ a < b := by
  rw [l_lt, lT ha, lT hb]; omega
theorem lN_leI {a b : Nat} (ha : a < 9223372036854775808) (hb : b < 9223372036854775808) : lN a ≤ lN b ↔ a ≤ b := by
  rw [l_le, lT ha, lT hb]; omega
theorem lN_eqI {a b : Nat} (ha : a < 9223372036854775808) (hb : b < 9223372036854775808) : lN a = lN b ↔ a = b := by
  rw [l_eq, lT ha, lT hb]; omega
theorem lN_div {a b : Nat} (ha : a < 9223372036854775808) (hb : b < 9223372036854775808) : lN a / lN b = lN (a / b) := by
  have hd : a / b ≤ a := Nat.div_le_self a b
  have e : (a : Int).tdiv b = ((a / b : Nat) : Int) := by
    rw [Int.tdiv_eq_ediv_of_nonneg (by omega)]; rfl
  generalize a / b = q at hd e ⊢
  rw [l_eq, lT (by omega), Int64.toInt_div, lT ha, lT hb, e]
  exact bm64 (by omega) (by omega)
theorem lN_mod {a b : Nat} (ha : a < 9223372036854775808) (hb : b < 9223372036854775808) : lN a % lN b = lN (a % b) := by
  have hd : a % b ≤ a := Nat.mod_le a b
  rw [l_eq, lT (by omega), Int64.toInt_mod, lT ha, lT hb, Int.tmod_eq_emod_of_nonneg (by omega)]
  rfl
theorem lN_mulI {a b : Nat} : lN a * lN b = lN (a * b) := lN_mul a b
theorem lN_addI {a b : Nat} : lN a + lN b = lN (a + b) := lN_add a b
theorem lN_subI {a b : Nat} (h : b ≤ a) : lN a - lN b = lN (a - b) := lN_sub h
theorem neg_neg64 (x : Int64) : - -x = x := Int64.neg_neg
/-- the size of a number -/
def nA (x : Int64) : Nat := x.toInt.natAbs
theorem nA_lN {n : Nat} (h : n < 9223372036854775808) : nA (lN n) = n := by unfold nA; rw [lT h]; rfl
theorem nA_neg {x : Int64} (h : -9223372036854775808 < x.toInt) : nA (-x) = nA x := by unfold nA; rw [l_neg h]; omega
/-- a number is the size, or the size turned -/
theorem jabs_neg {x : Int64} (h : x < 0) (hm : -9223372036854775808 < x.toInt) : -x = lN (nA x) := by
  have h0 : x.toInt < 0 := l_lt.mp h
  have := (l_rng x).1
  apply l_of'
  rw [l_neg hm]
  unfold nA
  omega
theorem jabs_pos {x : Int64} (h : ¬ x < 0) : x = lN (nA x) := by
  have h0 : ¬ x.toInt < 0 := fun q => h (l_lt.mpr q)
  apply l_of'
  unfold nA
  omega
theorem nA_lt {x : Int64} (hm : -9223372036854775808 < x.toInt) : nA x < 9223372036854775808 := by
  have := (l_rng x).2
  unfold nA
  omega
/-! Fibonacci's numbers bound Euclid's way -/
def fibp : Nat → Nat × Nat
  | 0 => (0, 1)
  | n + 1 => ((fibp n).2, (fibp n).1 + (fibp n).2)
def fib (n : Nat) : Nat := (fibp n).1
theorem fib_2 (n : Nat) : fib (n + 2) = fib n + fib (n + 1) := rfl
theorem fib_101 : 9223372036854775808 < fib 101 := by decide +kernel
theorem fib_91 : 1000000000000000000 < fib 91 := by decide +kernel
