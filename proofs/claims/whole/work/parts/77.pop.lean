/-! ===== Long.bitCount of numbers below 2^24 ===== -/
theorem and_split (x y n m : Nat) (hy : y < 256) (hm : m < 256) : (256 * x + y) &&& (256 * n + m) = 256 * (x &&& n) + (y &&& m) := by
  have hym : y &&& m < 2 ^ 8 := Nat.lt_of_le_of_lt Nat.and_le_left hy
  refine Nat.eq_of_testBit_eq (fun j => ?_)
  rw [Nat.testBit_and, show (256 : Nat) = 2 ^ 8 from rfl, Nat.testBit_two_pow_mul_add x (i := 8) hy, Nat.testBit_two_pow_mul_add n (i := 8) hm, Nat.testBit_two_pow_mul_add (x &&& n) (i := 8) hym]
  by_cases c : j < 8
  · rw [if_pos c, if_pos c, if_pos c, Nat.testBit_and]
  · rw [if_neg c, if_neg c, if_neg c, Nat.testBit_and]
def p1 (M x : Nat) : Nat := x - ((x / 2) &&& M)
def p2 (M x : Nat) : Nat := (x &&& M) + ((x / 4) &&& M)
def p3 (M x : Nat) : Nat := (x + x / 16) &&& M
theorem t1 : ∀ y, y < 256 → ∀ t, t < 2 → (y / 2 + 128 * t) &&& 85 = (y / 2) &&& 85 := by decide +kernel
theorem t2 : ∀ y, y < 256 → ∀ t, t < 4 → (y / 4 + 64 * t) &&& 51 = (y / 4) &&& 51 := by decide +kernel
theorem t3 : ∀ y, y < 69 → ∀ t, t < 5 → (y + y / 16 + 16 * t) &&& 15 = (y + y / 16) &&& 15 := by decide +kernel
theorem p1_s (q a n : Nat) (ha : a < 256) : p1 (256 * n + 85) (256 * q + a) = 256 * p1 n q + p1 85 a ∧ p1 85 a < 256 := by
  have e : (256 * q + a) / 2 = 256 * (q / 2) + (a / 2 + 128 * (q % 2)) := by omega
  have h1 : (q / 2 &&& n) ≤ q / 2 := Nat.and_le_left
  have h2 : (a / 2 &&& 85) ≤ a / 2 := Nat.and_le_left
  unfold p1
  rw [e, and_split _ _ _ _ (by omega) (by omega), t1 a ha (q % 2) (by omega)]
  omega
theorem p2_s (q a n : Nat) (ha : a < 256) : p2 (256 * n + 51) (256 * q + a) = 256 * p2 n q + p2 51 a := by
  have e : (256 * q + a) / 4 = 256 * (q / 4) + (a / 4 + 64 * (q % 4)) := by omega
  unfold p2
  rw [e, and_split _ _ _ _ ha (by omega), and_split _ _ _ _ (by omega) (by omega), t2 a ha (q % 4) (by omega)]
  omega
theorem p3_s (q a n : Nat) (ha : a < 69) (hq : q % 16 < 5) : p3 (256 * n + 15) (256 * q + a) = 256 * p3 n q + p3 15 a := by
  have e : 256 * q + a + (256 * q + a) / 16 = 256 * (q + q / 16) + (a + a / 16 + 16 * (q % 16)) := by omega
  unfold p3
  rw [e, and_split _ _ _ _ (by omega) (by omega), t3 a ha (q % 16) hq]
theorem b8 : ∀ a, a < 256 → p2 51 (p1 85 a) < 69 ∧ p2 51 (p1 85 a) % 16 < 5 ∧ p3 15 (p2 51 (p1 85 a)) = pcI a 8 := by decide +kernel
/-- three steps over three bytes -/
theorem top8 : ∀ a, a < 256 → p2 (3689348814741910323 / 65536) (p1 (6148914691236517205 / 65536) a) % 16 < 5 ∧ p3 (1085102592571150095 / 65536) (p2 (3689348814741910323 / 65536) (p1 (6148914691236517205 / 65536) a)) = pcI a 8 := by decide +kernel
theorem three (a b c : Nat) (ha : a < 256) (hb : b < 256) (hc : c < 256) : p3 1085102592571150095 (p2 3689348814741910323 (p1 6148914691236517205 (256 * (256 * c + b) + a))) = 256 * (256 * pcI c 8 + pcI b 8) + pcI a 8 := by
  obtain ⟨a1, a2⟩ := p1_s (256 * c + b) a (6148914691236517205 / 256) ha
  obtain ⟨b1, b2⟩ := p1_s c b (6148914691236517205 / 65536) hb
  obtain ⟨c1, c2, c3⟩ := b8 a ha
  obtain ⟨d1, d2, d3⟩ := b8 b hb
  obtain ⟨e1, e2⟩ := top8 c hc
  have m1 : 256 * (6148914691236517205 / 256) + 85 = 6148914691236517205 := by decide
  have m1' : 256 * (6148914691236517205 / 65536) + 85 = 6148914691236517205 / 256 := by decide
  have m2 : 256 * (3689348814741910323 / 256) + 51 = 3689348814741910323 := by decide
  have m2' : 256 * (3689348814741910323 / 65536) + 51 = 3689348814741910323 / 256 := by decide
  have m3 : 256 * (1085102592571150095 / 256) + 15 = 1085102592571150095 := by decide
  have m3' : 256 * (1085102592571150095 / 65536) + 15 = 1085102592571150095 / 256 := by decide
  rw [m1] at a1
  rw [m1'] at b1
  have q1 := p2_s (p1 (6148914691236517205 / 256) (256 * c + b)) (p1 85 a) (3689348814741910323 / 256) a2
  rw [m2] at q1
  have q2 := p2_s (p1 (6148914691236517205 / 65536) c) (p1 85 b) (3689348814741910323 / 65536) b2
  rw [m2', ← b1] at q2
  have nb : p2 (3689348814741910323 / 256) (p1 (6148914691236517205 / 256) (256 * c + b)) % 16 < 5 := by rw [q2]; omega
  have q3 := p3_s (p2 (3689348814741910323 / 256) (p1 (6148914691236517205 / 256) (256 * c + b))) (p2 51 (p1 85 a)) (1085102592571150095 / 256) c1 nb
  rw [m3] at q3
  have q4 := p3_s (p2 (3689348814741910323 / 65536) (p1 (6148914691236517205 / 65536) c)) (p2 51 (p1 85 b)) (1085102592571150095 / 65536) d1 e1
  rw [m3', ← q2] at q4
  rw [a1, q1, q3, q4, c3, d3, e2]
theorem pcI_8 (q a : Nat) (ha : a < 256) (i : Nat) : pcI (256 * q + a) (8 + i) = pcI a 8 + pcI q i := by
  have tb := Nat.testBit_two_pow_mul_add q (i := 8) (b := a) ha
  have e8 : (2 : Nat) ^ 8 = 256 := rfl
  rw [e8] at tb
  have base : ∀ j, j ≤ 8 → pcI (256 * q + a) j = pcI a j := by
    intro j
    induction j with
    | zero => intro _; rfl
    | succ j ih =>
      intro hj
      show (if (256 * q + a).testBit j then pcI (256 * q + a) j + 1 else pcI (256 * q + a) j) = (if a.testBit j then pcI a j + 1 else pcI a j)
      have e := tb j
      rw [if_pos (show j < 8 by omega)] at e
      rw [e, ih (by omega)]
  induction i with
  | zero => exact base 8 (Nat.le_refl _)
  | succ i ih =>
    show (if (256 * q + a).testBit (8 + i) then pcI (256 * q + a) (8 + i) + 1 else pcI (256 * q + a) (8 + i)) = pcI a 8 + (if q.testBit i then pcI q i + 1 else pcI q i)
    have e := tb (8 + i)
    rw [if_neg (show ¬ 8 + i < 8 by omega), show 8 + i - 8 = i by omega] at e
    rw [e, ih]
    split <;> omega
theorem ushr (a c : Nat) (ha : a < 18446744073709551616) (k : UInt64) (hk : k.toBitVec % 64 = BitVec.ofNat 64 c) (hc : c < 64) : ((lN a).toUInt64 >>> k).toInt64 = lN (a / 2 ^ c) := by
  apply Int64.toBitVec_inj.mp
  show ((lN a).toUInt64 >>> k).toBitVec = BitVec.ofNat 64 (a / 2 ^ c)
  rw [UInt64.toBitVec_shiftRight, hk]
  show BitVec.ofNat 64 a >>> BitVec.ofNat 64 c = BitVec.ofNat 64 (a / 2 ^ c)
  apply BitVec.eq_of_toNat_eq
  have hd : a / 2 ^ c ≤ a := Nat.div_le_self _ _
  rw [BitVec.ushiftRight_eq', BitVec.toNat_ushiftRight, BitVec.toNat_ofNat, BitVec.toNat_ofNat, BitVec.toNat_ofNat, Nat.mod_eq_of_lt (show a < 2 ^ 64 from ha), Nat.mod_eq_of_lt (show c < 2 ^ 64 by omega), Nat.mod_eq_of_lt (show a / 2 ^ c < 2 ^ 64 by omega), Nat.shiftRight_eq_div_pow]
theorem J13_bc {m : Nat} {G : Wd} {Q : Int32 → Wd → Prop} (hm : m < 2 ^ 24) (hQ : Q (nI (pcI m 24)) G) : wpJ13_bitCount_95d88 (lN m) G Q := by
  have e16 : (2 : Nat) ^ 24 = 16777216 := rfl
  unfold wpJ13_bitCount_95d88
  intro x1 h1 x2 h2 x3 h3 x4 h4 x5 h5 x6 h6
  have k1 : (((1 : Int32)).toInt64.toUInt64 &&& Int64.toUInt64 63).toBitVec % 64 = BitVec.ofNat 64 1 := by decide
  have k2 : (((2 : Int32)).toInt64.toUInt64 &&& Int64.toUInt64 63).toBitVec % 64 = BitVec.ofNat 64 2 := by decide
  have k4 : (((4 : Int32)).toInt64.toUInt64 &&& Int64.toUInt64 63).toBitVec % 64 = BitVec.ofNat 64 4 := by decide
  have k8 : (((8 : Int32)).toInt64.toUInt64 &&& Int64.toUInt64 63).toBitVec % 64 = BitVec.ofNat 64 8 := by decide
  have k16 : (((16 : Int32)).toInt64.toUInt64 &&& Int64.toUInt64 63).toBitVec % 64 = BitVec.ofNat 64 16 := by decide
  have k32 : (((32 : Int32)).toInt64.toUInt64 &&& Int64.toUInt64 63).toBitVec % 64 = BitVec.ofNat 64 32 := by decide
  -- step 1
  have l1 : (m / 2 ^ 1 &&& 6148914691236517205) ≤ m / 2 ^ 1 := Nat.and_le_left
  rw [ushr m 1 (by omega) _ k1 (by omega), show (6148914691236517205 : Int64) = lN 6148914691236517205 from rfl, lN_and, lN_subI (by omega)] at h1
  have e1 : x1 = lN (p1 6148914691236517205 m) := h1
  have b1 : p1 6148914691236517205 m < 16777216 := by unfold p1; omega
  -- step 2
  rw [e1, ushr _ 2 (by omega) _ k2 (by omega), show (3689348814741910323 : Int64) = lN 3689348814741910323 from rfl, lN_and, lN_and, lN_addI] at h2
  have e2 : x2 = lN (p2 3689348814741910323 (p1 6148914691236517205 m)) := h2
  have l2 : (p1 6148914691236517205 m &&& 3689348814741910323) ≤ p1 6148914691236517205 m := Nat.and_le_left
  have l2' : (p1 6148914691236517205 m / 4 &&& 3689348814741910323) ≤ p1 6148914691236517205 m / 4 := Nat.and_le_left
  have b2 : p2 3689348814741910323 (p1 6148914691236517205 m) < 33554432 := by unfold p2; omega
  -- step 3
  rw [e2, ushr _ 4 (by omega) _ k4 (by omega), lN_addI, show (1085102592571150095 : Int64) = lN 1085102592571150095 from rfl, lN_and] at h3
  have e3 : x3 = lN (p3 1085102592571150095 (p2 3689348814741910323 (p1 6148914691236517205 m))) := h3
  have em : m = 256 * (256 * (m / 65536) + m / 256 % 256) + m % 256 := by omega
  have t := three (m % 256) (m / 256 % 256) (m / 65536) (by omega) (by omega) (by omega)
  rw [← em] at t
  rw [t] at e3
  have pa := pcI_le (m % 256) 8
  have pb := pcI_le (m / 256 % 256) 8
  have pc := pcI_le (m / 65536) 8
  have ep : pcI m 24 = pcI (m % 256) 8 + (pcI (m / 256 % 256) 8 + pcI (m / 65536) 8) := by
    have q1 := pcI_8 (256 * (m / 65536) + m / 256 % 256) (m % 256) (by omega) 16
    rw [← em] at q1
    have q2 := pcI_8 (m / 65536) (m / 256 % 256) (by omega) 8
    rw [show pcI m 24 = _ from q1, show pcI (256 * (m / 65536) + m / 256 % 256) 16 = _ from q2]
  rw [ep] at hQ
  generalize pcI (m % 256) 8 = A at e3 hQ pa
  generalize pcI (m / 256 % 256) 8 = B at e3 hQ pb
  generalize pcI (m / 65536) 8 = C at e3 hQ pc
  rw [e3, ushr _ 8 (by omega) _ k8 (by omega), lN_addI] at h4
  rw [h4, ushr _ 16 (by omega) _ k16 (by omega), lN_addI] at h5
  rw [h5, ushr _ 32 (by omega) _ k32 (by omega), lN_addI] at h6
  have e6 : x6 = lN (65536 * C + 256 * (B + C) + (A + (B + C))) := by
    rw [h6]
    congr 1
    have g1 : (256 * (256 * C + B) + A) / 2 ^ 8 = 256 * C + B := by omega
    rw [g1]
    have g2 : (256 * (256 * C + B) + A + (256 * C + B)) / 2 ^ 16 = C := by omega
    rw [g2]
    have g3 : (256 * (256 * C + B) + A + (256 * C + B) + C) / 2 ^ 32 = 0 := by omega
    rw [g3]
    omega
  have e7 : x6.toInt32 &&& 127 = nI (A + (B + C)) := by
    have c1 : x6.toInt32 = nI (65536 * C + 256 * (B + C) + (A + (B + C))) := by
      rw [e6, i_eq, Int64.toInt_toInt32, lT (by omega), nI_toInt (by omega)]
      exact bm32 (by omega) (by omega)
    rw [c1, show (127 : Int32) = nI 127 from rfl, nI_and, show (127 : Nat) = 2 ^ 7 - 1 from rfl, Nat.and_two_pow_sub_one_eq_mod]
    congr 1
    omega
  rw [e7]
  exact hQ
