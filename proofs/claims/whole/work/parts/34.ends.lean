/-! ===== the ends of a likeness: likeness, doubt, end ===== -/
theorem dbK {x : Int32} (h : rng x 0 4) : isK x 2 ↔ isDb (nv x) = true := by
  rcases kd5 h with e | e | e | e | e <;> subst e <;> decide
theorem hpK {x : Int32} (h : rng x 0 4) : isK x 1 ↔ isHp (nv x) = true := by
  rcases kd5 h with e | e | e | e | e <;> subst e <;> decide
theorem wdK {x : Int32} (h : rng x 0 4) : x = 4 ↔ nv x = 4 := by
  rcases kd5 h with e | e | e | e | e <;> subst e <;> decide
theorem nI_nv {x : Int32} (h : 0 ≤ x.toInt) : x = nI (nv x) := by
  rw [i_eq, nI_toInt (by have := i_rng x; unfold nv; omega)]
  exact nv_i h
theorem jg_lN {n d : Nat} (hn : n < 9223372036854775808) (hd : d < 9223372036854775808) : jg (lN n) (lN d) = Nat.gcd n d := by
  unfold jg; rw [nA_lN hn, nA_lN hd]
theorem red_eq {n d : Nat} (hn : n < 9223372036854775808) (hd : d < 9223372036854775808) (h0 : 0 < d) : (lN n / lN (max (jg (lN n) (lN d)) 1), lN d / lN (max (jg (lN n) (lN d)) 1)) = red n d := by
  have h1 := Nat.gcd_le_right n h0
  have h2 := Nat.gcd_pos_of_pos_right n h0
  rw [jg_lN hn hd, show max (Nat.gcd n d) 1 = Nat.gcd n d by omega, lN_div hn (by omega), lN_div hd (by omega)]
  rfl
theorem nmL {n : Nat} (h : n < 9223372036854775808) : -9223372036854775808 < (lN n).toInt := by rw [lT h]; omega
theorem X5_r86 {a P q L H w : Nat} {G : Wd} {Q : Wd → Prop} (hK : gK G a = 5) (hp : gI G a 4 = nI P) (hq : gI G a 5 = nI q) (r6 : gR G a 6 = some (a + 1)) (r7 : gR G a 7 = some (a + 2)) (k1 : gK G (a + 1) = 3) (k2 : gK G (a + 2) = 3) (bP : P ≤ 1000) (bq : q ≤ 1000) (bq0 : 0 < q) (bL : L ≤ 1500) (bH : H ≤ 1500) (bw : w ≤ 2) (bw0 : 0 < w)
    (hQ : Q (wF (wF G (a + 1) (some (red (P * L) (q * 1000 * w)))) (a + 2) (some (red (P * H * w) (q * 1000))))) : wpX5_reckonEnds_86 Q a (nI L) (nI H) (nI w) G := by
  have m1 : P * L ≤ 1000 * 1500 := Nat.mul_le_mul bP bL
  have m2 : q * 1000 * w ≤ 1000 * 1000 * 2 := Nat.mul_le_mul (Nat.mul_le_mul bq (Nat.le_refl _)) bw
  have m3 : P * H * w ≤ 1000 * 1500 * 2 := Nat.mul_le_mul (Nat.mul_le_mul bP bH) bw
  have m4 : 0 < q * 1000 * w := Nat.mul_pos (by omega) bw0
  unfold wpX5_reckonEnds_86
  rw [hp, hq, nI_l (by omega), nI_l (by omega), nI_l (by omega), nI_l (by omega), nI_l (by omega), show (1000 : Int64) = lN 1000 from rfl, lN_mulI, lN_mulI, lN_mulI]
  refine ⟨hK, a + 1, r6, k1, X2_become k1 (nmL (by omega)) (nmL (by omega)) ?_⟩
  rw [red_eq (by omega) (by omega) m4]
  refine ⟨by rw [wF_K]; exact hK, a + 2, by rw [wF_R]; exact r7, by rw [wF_K]; exact k2, ?_⟩
  rw [wF_I (by omega), wF_I (by omega), hp, hq, nI_l (by omega), nI_l (by omega), lN_mulI, lN_mulI, lN_mulI]
  refine X2_become (by rw [wF_K]; exact k2) (nmL (by omega)) (nmL (by omega)) ?_
  rw [red_eq (by omega) (by omega) (by omega)]
  exact hQ
/-- reckonEnds, over a state that the fields of the cell hold -/
theorem X5_ends {a k : Nat} {G : Wd} {S : St} {Q : Wd → Prop} (hK : gK G a = 5) (h1 : gI G a 1 = sA S 2 k) (h4 : gI G a 4 = sA S 5 k) (h5 : gI G a 5 = sA S 6 k) (h12 : gI G a 12 = sA S 11 k) (r6 : gR G a 6 = some (a + 1)) (r7 : gR G a 7 = some (a + 2)) (k1 : gK G (a + 1) = 3) (k2 : gK G (a + 2) = 3)
    (g2 : rng (sA S 2 k) 0 4) (g5 : rng (sA S 5 k) 1 1000) (g6 : rng (sA S 6 k) 1 1000) (g11 : rng (sA S 11 k) 0 500)
    (hQ : Q (wF (wF G (a + 1) (some (endL S k))) (a + 2) (some (endH S k)))) : wpX5_reckonEnds a G Q := by
  have e5 : sA S 5 k = nI (nv (sA S 5 k)) := nI_nv (by have := g5.1; omega)
  have e6 : sA S 6 k = nI (nv (sA S 6 k)) := nI_nv (by have := g6.1; omega)
  have e11 : sA S 11 k = nI (nv (sA S 11 k)) := nI_nv g11.1
  have v5 := nv_i (x := sA S 5 k) (by have := g5.1; omega)
  have v6 := nv_i (x := sA S 6 k) (by have := g6.1; omega)
  have v11 := nv_i g11.1
  have b5 := g5.2
  have b6 := g6.1
  have b6' := g6.2
  have b11 := g11.2
  have R72 : ∀ L H : Nat, L = lsh S k → H = hsh S k → L ≤ 1500 → H ≤ 1500 → wpX5_reckonEnds_72 Q a (nI L) (nI H) G := by
    intro L H eL eH bL bH
    unfold wpX5_reckonEnds_72
    unfold endL endH wid at hQ
    rw [← eL, ← eH] at hQ
    refine ⟨hK, ?_⟩
    rw [h1]
    refine ifE (fun c => ?_) (fun c => ?_)
    · rw [if_pos ((wdK g2).mp c)] at hQ
      exact X5_r86 (w := 2) hK (by rw [h4]; exact e5) (by rw [h5]; exact e6) r6 r7 k1 k2 (by omega) (by omega) (by omega) bL bH (by omega) (by omega) hQ
    · rw [if_neg (fun q => c ((wdK g2).mpr q))] at hQ
      exact X5_r86 (w := 1) hK (by rw [h4]; exact e5) (by rw [h5]; exact e6) r6 r7 k1 k2 (by omega) (by omega) (by omega) bL bH (by omega) (by omega) hQ
  have R41 : ∀ L : Nat, L = lsh S k → L ≤ 1500 → wpX5_reckonEnds_41 Q a (nI L) G := by
    intro L eL bL
    have R58 : hsh S k = 1000 + nv (sA S 11 k) → wpX5_reckonEnds_58 Q a (nI L) G := fun eH => by
      unfold wpX5_reckonEnds_58
      refine ⟨hK, ?_⟩
      rw [h12, e11, show (1000 : Int32) = nI 1000 from rfl, nI_add]
      exact R72 L _ eL eH.symm bL (by omega)
    unfold wpX5_reckonEnds_41
    refine ⟨hK, X5_is hK h1 g2 (fun c => ifN (fun e => n10 e) (R58 ?_)) (fun c => ifP rfl ⟨hK, X5_is hK h1 g2 (fun d => ifN (fun e => n10 e) (R58 ?_)) (fun d => ifP rfl (R72 L 1000 eL ?_ bL (by omega)))⟩)⟩
    · unfold hsh; rw [(dbK g2).mp c]; rfl
    · unfold hsh; rw [(hpK g2).mp d, Bool.or_true]; rfl
    · have c' : isDb (nv (sA S 2 k)) = false := by
        cases q : isDb (nv (sA S 2 k)) with
        | false => rfl
        | true => exact absurd ((dbK g2).mpr q) c
      have d' : isHp (nv (sA S 2 k)) = false := by
        cases q : isHp (nv (sA S 2 k)) with
        | false => rfl
        | true => exact absurd ((hpK g2).mpr q) d
      unfold hsh; rw [c', d']; rfl
  unfold wpX5_reckonEnds
  refine ⟨hK, X5_is hK h1 g2 (fun c => ifN (fun e => n10 e) ⟨hK, ?_⟩) (fun c => ifP rfl ⟨hK, X5_is hK h1 g2 (fun d => ifN (fun e => n10 e) ⟨hK, ?_⟩) (fun d => ifP rfl (R41 1000 ?_ (by omega)))⟩)⟩
  · rw [h12, e11, show (1000 : Int32) = nI 1000 from rfl, pk_sub (by omega)]
    exact R41 _ (by unfold lsh; rw [(dbK g2).mp c]; rfl) (by omega)
  · rw [h12, e11, show (1000 : Int32) = nI 1000 from rfl, nI_add]
    refine R41 _ ?_ (by omega)
    have c' : isDb (nv (sA S 2 k)) = false := by
      cases q : isDb (nv (sA S 2 k)) with
      | false => rfl
      | true => exact absurd ((dbK g2).mpr q) c
    unfold lsh; rw [c', (hpK g2).mp d]; rfl
  · have c' : isDb (nv (sA S 2 k)) = false := by
      cases q : isDb (nv (sA S 2 k)) with
      | false => rfl
      | true => exact absurd ((dbK g2).mpr q) c
    have d' : isHp (nv (sA S 2 k)) = false := by
      cases q : isHp (nv (sA S 2 k)) with
      | false => rfl
      | true => exact absurd ((hpK g2).mpr q) d
    unfold lsh; rw [c', d']; rfl
