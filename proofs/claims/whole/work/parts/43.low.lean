/-! ===== products and sums stay in lowest terms ===== -/
theorem nA_div {x : Int64} {n : Nat} (hx : nm x) (hn : n < 9223372036854775808) : nA (x / lN n) = nA x / n := by
  unfold nA
  have e : (x / lN n).toInt = x.toInt.tdiv (lN n).toInt := by
    refine Int64.toInt_div_of_ne_left x (lN n) (fun h => ?_)
    unfold nm at hx
    rw [h] at hx
    exact absurd hx (by decide)
  rw [e, lT hn, tdiv_natAbs]
theorem div_pos64 {x : Int64} {n : Nat} (hx : nm x) (h0 : 0 < x.toInt) (hn : n < 9223372036854775808) (hq : 0 < nA x / n) : 0 < (x / lN n).toInt := by
  have e : (x / lN n).toInt = x.toInt.tdiv (lN n).toInt := by
    refine Int64.toInt_div_of_ne_left x (lN n) (fun h => ?_)
    unfold nm at hx
    rw [h] at hx
    exact absurd hx (by decide)
  have h1 : 0 ≤ (x / lN n).toInt := by rw [e, lT hn]; exact Int.tdiv_nonneg (by omega) (by omega)
  have h2 := nA_div hx hn
  unfold nA at h2 hq
  omega
theorem nA_mul {x y : Int64} (h : nA x * nA y < 9223372036854775808) : nA (x * y) = nA x * nA y ∧ (x * y).toInt = x.toInt * y.toInt := by
  unfold nA at *
  have e := Int.natAbs_mul x.toInt y.toInt
  have m := l_mul (x := x) (y := y) (by omega) (by omega)
  exact ⟨by rw [m, e], m⟩
theorem wfF.mul {o : Fr} {a b : Int64} (h : wfF o) (ha : nm a) (hb : nm b) (hb0 : 0 < b.toInt) (hg : Nat.gcd (nA a) (nA b) = 1) : wfF (fmul o a b) := by
  intro r hr
  cases o with
  | none => cases hr
  | some q =>
    have ok := h.ok
    obtain ⟨h1, h2, h3, h4⟩ := h q rfl
    have ok1 : nm q.1 := ok.1
    have ok2 : nm q.2 := ok.2
    have hr' : (if T15 ≤ nA (q.1 / g1 q.1 b) * nA (a / g1 q.2 a) ∨ T15 ≤ nA (q.2 / g1 q.2 a) * nA (b / g1 q.1 b) then none
      else some (q.1 / g1 q.1 b * (a / g1 q.2 a), q.2 / g1 q.2 a * (b / g1 q.1 b))) = some r := hr
    have d0 : 0 < nA q.2 := by unfold nA; omega
    have y0 : 0 < nA b := by unfold nA; omega
    have gp : 0 < Nat.gcd (nA q.1) (nA b) := Nat.gcd_pos_of_pos_right _ y0
    have hp : 0 < Nat.gcd (nA q.2) (nA a) := Nat.gcd_pos_of_pos_left _ d0
    have yl := nA_lt hb
    have dl := nA_lt ok2
    have gl : Nat.gcd (nA q.1) (nA b) ≤ nA b := Nat.gcd_le_right _ y0
    have hl : Nat.gcd (nA q.2) (nA a) ≤ nA q.2 := Nat.gcd_le_left _ d0
    have eg : g1 q.1 b = lN (Nat.gcd (nA q.1) (nA b)) := by unfold g1 jg; rw [show max (Nat.gcd (nA q.1) (nA b)) 1 = Nat.gcd (nA q.1) (nA b) by omega]
    have eh : g1 q.2 a = lN (Nat.gcd (nA q.2) (nA a)) := by unfold g1 jg; rw [show max (Nat.gcd (nA q.2) (nA a)) 1 = Nat.gcd (nA q.2) (nA a) by omega]
    rw [eg, eh] at hr'
    have i1 := nA_div (n := Nat.gcd (nA q.1) (nA b)) ok1 (by omega)
    have i2 := nA_div (n := Nat.gcd (nA q.2) (nA a)) ha (by omega)
    have i3 := nA_div (n := Nat.gcd (nA q.2) (nA a)) ok2 (by omega)
    have i4 := nA_div (n := Nat.gcd (nA q.1) (nA b)) hb (by omega)
    by_cases c : T15 ≤ nA (q.1 / lN (Nat.gcd (nA q.1) (nA b))) * nA (a / lN (Nat.gcd (nA q.2) (nA a))) ∨ T15 ≤ nA (q.2 / lN (Nat.gcd (nA q.2) (nA a))) * nA (b / lN (Nat.gcd (nA q.1) (nA b)))
    · rw [if_pos c] at hr'; cases hr'
    · rw [if_neg c] at hr'
      have e := Option.some.inj hr'
      subst e
      have t15 : T15 = 1000000000000000 := rfl
      have k1 := nA_mul (x := q.1 / lN (Nat.gcd (nA q.1) (nA b))) (y := a / lN (Nat.gcd (nA q.2) (nA a))) (by omega)
      have k2 := nA_mul (x := q.2 / lN (Nat.gcd (nA q.2) (nA a))) (y := b / lN (Nat.gcd (nA q.1) (nA b))) (by omega)
      have p3 : 0 < nA q.2 / Nat.gcd (nA q.2) (nA a) := Nat.div_pos hl hp
      have p4 : 0 < nA b / Nat.gcd (nA q.1) (nA b) := Nat.div_pos gl gp
      have s3 := div_pos64 ok2 h3 (show Nat.gcd (nA q.2) (nA a) < 9223372036854775808 by omega) p3
      have s4 := div_pos64 hb hb0 (show Nat.gcd (nA q.1) (nA b) < 9223372036854775808 by omega) p4
      refine ⟨by rw [k1.1]; omega, by rw [k2.1]; omega, by rw [k2.2]; exact Int.mul_pos s3 s4, ?_⟩
      show Nat.gcd (nA _) (nA _) = 1
      rw [k1.1, k2.1, i1, i2, i3, i4]
      have c1 : Nat.Coprime (nA q.1 / Nat.gcd (nA q.1) (nA b)) (nA b / Nat.gcd (nA q.1) (nA b)) := Nat.coprime_div_gcd_div_gcd gp
      have c2 : Nat.Coprime (nA q.2 / Nat.gcd (nA q.2) (nA a)) (nA a / Nat.gcd (nA q.2) (nA a)) := Nat.coprime_div_gcd_div_gcd hp
      have v1 : nA q.1 / Nat.gcd (nA q.1) (nA b) ∣ nA q.1 := Nat.div_dvd_of_dvd (Nat.gcd_dvd_left _ _)
      have v2 : nA q.2 / Nat.gcd (nA q.2) (nA a) ∣ nA q.2 := Nat.div_dvd_of_dvd (Nat.gcd_dvd_left _ _)
      have v3 : nA a / Nat.gcd (nA q.2) (nA a) ∣ nA a := Nat.div_dvd_of_dvd (Nat.gcd_dvd_right _ _)
      have v4 : nA b / Nat.gcd (nA q.1) (nA b) ∣ nA b := Nat.div_dvd_of_dvd (Nat.gcd_dvd_right _ _)
      have c3 : Nat.Coprime (nA q.1 / Nat.gcd (nA q.1) (nA b)) (nA q.2 / Nat.gcd (nA q.2) (nA a)) := Nat.Coprime.coprime_dvd_left v1 (Nat.Coprime.coprime_dvd_right v2 h4)
      have c4 : Nat.Coprime (nA a / Nat.gcd (nA q.2) (nA a)) (nA b / Nat.gcd (nA q.1) (nA b)) := Nat.Coprime.coprime_dvd_left v3 (Nat.Coprime.coprime_dvd_right v4 hg)
      exact Nat.Coprime.mul_left (Nat.Coprime.mul_right c3 c1) (Nat.Coprime.mul_right c2.symm c4)
theorem wfF.add {x y : Fr} (hx : wfF x) (hy : wfF y) : wfF (fadd x y) := by
  intro r hr
  cases x with
  | none => cases hr
  | some p =>
    cases y with
    | none => cases hr
    | some q =>
      obtain ⟨a1, a2, a3, a4⟩ := hx p rfl
      obtain ⟨b1, b2, b3, b4⟩ := hy q rfl
      have hr' : (if sumL p.1.toInt q.1.toInt (nA p.2) (nA q.2) then none else some (Int64.ofInt ((sumS p.1.toInt q.1.toInt (nA p.2) (nA q.2)).tdiv (sumH p.1.toInt q.1.toInt (nA p.2) (nA q.2))), lN (sumW (nA p.2) (nA q.2) / sumH p.1.toInt q.1.toInt (nA p.2) (nA q.2)))) = some r := hr
      have d1 : 0 < nA p.2 := by unfold nA; omega
      have d2 : 0 < nA q.2 := by unfold nA; omega
      by_cases c : sumL p.1.toInt q.1.toInt (nA p.2) (nA q.2)
      · rw [if_pos c] at hr'; cases hr'
      · rw [if_neg c] at hr'
        have e := Option.some.inj hr'
        subst e
        have lo := sum_low (u1 := p.1.toInt) (u2 := q.1.toInt) d1 d2
        have h0 := sum_h0 (u1 := p.1.toInt) (u2 := q.1.toInt) d1 d2
        have w0 := sum_w0 d1 d2
        have ta := tdiv_natAbs (sumS p.1.toInt q.1.toInt (nA p.2) (nA q.2)) (sumH p.1.toInt q.1.toInt (nA p.2) (nA q.2))
        have hle : sumH p.1.toInt q.1.toInt (nA p.2) (nA q.2) ≤ sumW (nA p.2) (nA q.2) := Nat.gcd_le_right _ w0
        have wd : 0 < sumW (nA p.2) (nA q.2) / sumH p.1.toInt q.1.toInt (nA p.2) (nA q.2) := Nat.div_pos hle h0
        unfold sumL at c
        have t15 : T15 = 1000000000000000 := rfl
        generalize eS : (sumS p.1.toInt q.1.toInt (nA p.2) (nA q.2)).natAbs / sumH p.1.toInt q.1.toInt (nA p.2) (nA q.2) = s at *
        generalize eT : (sumS p.1.toInt q.1.toInt (nA p.2) (nA q.2)).tdiv (sumH p.1.toInt q.1.toInt (nA p.2) (nA q.2)) = t at *
        generalize eW : sumW (nA p.2) (nA q.2) / sumH p.1.toInt q.1.toInt (nA p.2) (nA q.2) = w at *
        have cs : s < T15 := Nat.lt_of_not_le (fun z => c (.inr (.inl z)))
        have cw : w < T15 := Nat.lt_of_not_le (fun z => c (.inr (.inr z)))
        have et : (Int64.ofInt t).toInt = t := ofInt64 (by omega) (by omega)
        have n1 : nA (Int64.ofInt t) = s := by unfold nA; rw [et]; exact ta
        have n2 : nA (lN w) = w := nA_lN (by omega)
        exact ⟨by rw [n1]; exact cs, by rw [n2]; exact cw, by rw [lT (by omega)]; omega, by rw [n1, n2]; exact lo⟩
theorem wfF_1 : wfF (some (1, 1)) := fun q hq => by
  have e := Option.some.inj hq
  subst e
  exact ⟨by decide, by decide, by decide, by decide⟩
theorem wfF_red {n d : Nat} (h0 : 0 < d) (hn : n < 1000000000000000) (hd : d < 1000000000000000) : wfF (some (red n d)) := fun q hq => by
  have e := Option.some.inj hq
  subst e
  have gp := Nat.gcd_pos_of_pos_right n h0
  have l1 : n / Nat.gcd n d ≤ n := Nat.div_le_self _ _
  have l2 : d / Nat.gcd n d ≤ d := Nat.div_le_self _ _
  have l3 : 0 < d / Nat.gcd n d := Nat.div_pos (Nat.gcd_le_right n h0) gp
  have t15 : T15 = 1000000000000000 := rfl
  unfold red
  refine ⟨by rw [nA_lN (by omega)]; omega, by rw [nA_lN (by omega)]; omega, by rw [lT (by omega)]; omega, ?_⟩
  show Nat.gcd (nA _) (nA _) = 1
  rw [nA_lN (by omega), nA_lN (by omega)]
  exact Nat.coprime_div_gcd_div_gcd gp
