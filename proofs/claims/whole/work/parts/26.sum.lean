/-! ===== the sum of two fractions ===== -/
def T18 : Nat := 1000000000000000000
def sumS (u1 u2 : Int) (d1 d2 : Nat) : Int := u1 * (d2 / Nat.gcd d1 d2 : Nat) + u2 * (d1 / Nat.gcd d1 d2 : Nat)
def sumW (d1 d2 : Nat) : Nat := d1 * (d2 / Nat.gcd d1 d2)
def sumH (u1 u2 : Int) (d1 d2 : Nat) : Nat := Nat.gcd (sumS u1 u2 d1 d2).natAbs (sumW d1 d2)
abbrev sumL (u1 u2 : Int) (d1 d2 : Nat) : Prop := ((T18 ≤ u1.natAbs * (d2 / Nat.gcd d1 d2) ∨ T18 ≤ u2.natAbs * (d1 / Nat.gcd d1 d2)) ∨ T18 ≤ sumW d1 d2) ∨ (T15 ≤ (sumS u1 u2 d1 d2).natAbs / sumH u1 u2 d1 d2 ∨ T15 ≤ sumW d1 d2 / sumH u1 u2 d1 d2)
/-- the sum: LARGE, or in lowest terms -/
def fadd (x y : Fr) : Fr := match x, y with
  | some p, some q => if sumL p.1.toInt q.1.toInt (nA p.2) (nA q.2) then none else some (Int64.ofInt ((sumS p.1.toInt q.1.toInt (nA p.2) (nA q.2)).tdiv (sumH p.1.toInt q.1.toInt (nA p.2) (nA q.2))), lN (sumW (nA p.2) (nA q.2) / sumH p.1.toInt q.1.toInt (nA p.2) (nA q.2)))
  | _, _ => none
/-- a fraction in lowest terms, far from the ends of a long -/
def wfF (o : Fr) : Prop := ∀ q, o = some q → nA q.1 < T15 ∧ nA q.2 < T15 ∧ 0 < q.2.toInt ∧ Nat.gcd (nA q.1) (nA q.2) = 1
theorem wfF.ok {o : Fr} (h : wfF o) : okF o := by
  cases o with
  | none => trivial
  | some q =>
    obtain ⟨h1, h2, h3, -⟩ := h q rfl
    unfold T15 nA at *
    exact ⟨by unfold nm; omega, by unfold nm; omega⟩
theorem wfF_none : wfF none := fun _ h => by cases h
theorem ofInt64 {z : Int} (h1 : -9223372036854775808 ≤ z) (h2 : z < 9223372036854775808) : (Int64.ofInt z).toInt = z := by
  rw [Int64.toInt_ofInt]
  show z.bmod 18446744073709551616 = z
  exact Int.bmod_eq_of_le (by omega) (by omega)
section SUM
variable {u1 u2 : Int} {d1 d2 : Nat}
theorem sum_w0 (h1 : 0 < d1) (h2 : 0 < d2) : 0 < sumW d1 d2 := Nat.mul_pos h1 (Nat.div_pos (Nat.gcd_le_right _ h2) (Nat.gcd_pos_of_pos_left _ h1))
theorem sum_h0 (h1 : 0 < d1) (h2 : 0 < d2) : 0 < sumH u1 u2 d1 d2 := Nat.gcd_pos_of_pos_right _ (sum_w0 h1 h2)
theorem tdiv_natAbs (z : Int) (n : Nat) : (z.tdiv n).natAbs = z.natAbs / n := by
  rw [Int.natAbs_tdiv]; rfl
/-- the sum is in lowest terms -/
theorem sum_low (h1 : 0 < d1) (h2 : 0 < d2) : Nat.gcd ((sumS u1 u2 d1 d2).natAbs / sumH u1 u2 d1 d2) (sumW d1 d2 / sumH u1 u2 d1 d2) = 1 := Nat.coprime_div_gcd_div_gcd (sum_h0 h1 h2)
/-- what divides the sum above and below the line divides the common divisor of what is below -/
theorem sum_gcd (h1 : 0 < d1) (h2 : 0 < d2) (c1 : Nat.gcd u1.natAbs d1 = 1) (c2 : Nat.gcd u2.natAbs d2 = 1) : sumH u1 u2 d1 d2 = Nat.gcd (Nat.gcd d1 d2) (sumS u1 u2 d1 d2).natAbs := by
  have hg : 0 < Nat.gcd d1 d2 := Nat.gcd_pos_of_pos_left _ h1
  have cp : Nat.Coprime (d1 / Nat.gcd d1 d2) (d2 / Nat.gcd d1 d2) := Nat.coprime_div_gcd_div_gcd hg
  have e1 : Nat.gcd d1 d2 * (d1 / Nat.gcd d1 d2) = d1 := Nat.mul_div_cancel' (Nat.gcd_dvd_left _ _)
  have e2 : Nat.gcd d1 d2 * (d2 / Nat.gcd d1 d2) = d2 := Nat.mul_div_cancel' (Nat.gcd_dvd_right _ _)
  unfold sumH sumW sumS
  generalize Nat.gcd d1 d2 = g at *
  generalize d1 / g = mi at *
  generalize d2 / g = o at *
  -- the sum shares no divisor with mi, nor with o
  have k1 : Nat.Coprime (u1 * (o : Nat) + u2 * (mi : Nat)).natAbs mi := by
    have hp := Nat.gcd_dvd_left (u1 * (o : Nat) + u2 * (mi : Nat)).natAbs mi
    have hq := Nat.gcd_dvd_right (u1 * (o : Nat) + u2 * (mi : Nat)).natAbs mi
    show Nat.gcd _ _ = 1
    generalize Nat.gcd (u1 * (o : Nat) + u2 * (mi : Nat)).natAbs mi = p at *
    have hp' : (p : Int) ∣ u1 * (o : Nat) + u2 * (mi : Nat) := Int.ofNat_dvd_left.mpr hp
    have hq' : (p : Int) ∣ u2 * (mi : Nat) := Int.dvd_mul_of_dvd_right (Int.natCast_dvd_natCast.mpr hq)
    have hr : (p : Int) ∣ u1 * (o : Nat) := (Int.dvd_add_left hq').mp hp'
    have hr' : p ∣ u1.natAbs * o := by
      have := Int.ofNat_dvd_left.mp hr
      rwa [Int.natAbs_mul, Int.natAbs_natCast] at this
    have c1' : Nat.Coprime u1.natAbs mi := by
      refine Nat.Coprime.coprime_mul_left_right (k := g) ?_
      rw [e1]; exact c1
    have cc : Nat.Coprime (u1.natAbs * o) mi := Nat.Coprime.mul_left c1' cp.symm
    have := Nat.dvd_gcd hr' hq
    rw [cc] at this
    exact Nat.dvd_one.mp this
  have k2 : Nat.Coprime (u1 * (o : Nat) + u2 * (mi : Nat)).natAbs o := by
    have hp := Nat.gcd_dvd_left (u1 * (o : Nat) + u2 * (mi : Nat)).natAbs o
    have hq := Nat.gcd_dvd_right (u1 * (o : Nat) + u2 * (mi : Nat)).natAbs o
    show Nat.gcd _ _ = 1
    generalize Nat.gcd (u1 * (o : Nat) + u2 * (mi : Nat)).natAbs o = p at *
    have hp' : (p : Int) ∣ u1 * (o : Nat) + u2 * (mi : Nat) := Int.ofNat_dvd_left.mpr hp
    have hq' : (p : Int) ∣ u1 * (o : Nat) := Int.dvd_mul_of_dvd_right (Int.natCast_dvd_natCast.mpr hq)
    have hr : (p : Int) ∣ u2 * (mi : Nat) := (Int.dvd_add_right hq').mp hp'
    have hr' : p ∣ u2.natAbs * mi := by
      have := Int.ofNat_dvd_left.mp hr
      rwa [Int.natAbs_mul, Int.natAbs_natCast] at this
    have c2' : Nat.Coprime u2.natAbs o := by
      refine Nat.Coprime.coprime_mul_left_right (k := g) ?_
      rw [e2]; exact c2
    have cc : Nat.Coprime (u2.natAbs * mi) o := Nat.Coprime.mul_left c2' cp
    have := Nat.dvd_gcd hr' hq
    rw [cc] at this
    exact Nat.dvd_one.mp this
  rw [← e1, Nat.Coprime.gcd_mul_right_cancel_right _ k2.symm, Nat.Coprime.gcd_mul_right_cancel_right _ k1.symm, Nat.gcd_comm]
end SUM
theorem X2_add {G : Wd} {a b : Nat} {x y : Fr} {Q : Wd → Prop} (hx : isF G a x) (hy : isF G b y) (wx : wfF x) (wy : wfF y) (h : Q (wF G a (fadd x y))) : wpX2_add a b G Q := by
  obtain ⟨ka, hx⟩ := hx
  obtain ⟨kb, hy⟩ := hy
  have f87 : (fadd x y = none) → wpX2_add_87 Q a G := by
    intro e
    rw [e] at h
    exact ⟨ka, X2_settle ka (Or.inr rfl) (by rw [if_neg (by decide)]; exact h)⟩
  have one : nm (1 : Int64) := by unfold nm; decide
  unfold wpX2_add
  cases x with
  | none =>
    obtain ⟨l1, l2, l3⟩ := hx
    refine ⟨ka, kb, ?_⟩
    rw [l3]
    have nd : nm (gJ G b 1) := by
      cases y with
      | none => rw [hy.2.2]; exact one
      | some q => rw [hy.2.2]; exact wy.ok.2
    refine X2_cd one nd ?_
    refine ⟨kb, g1_ne one nd, fun x15 _ => ⟨ka, g1_ne one nd, fun x18 _ => ?_⟩⟩
    rw [l1, if_neg (by decide)]
    exact f87 rfl
  | some p =>
    obtain ⟨l1, l2, l3⟩ := hx
    cases y with
    | none =>
      obtain ⟨m1, m2, m3⟩ := hy
      refine ⟨ka, kb, ?_⟩
      rw [l3, m3]
      refine X2_cd wx.ok.2 one ⟨kb, g1_ne wx.ok.2 one, fun x15 _ => ⟨ka, g1_ne wx.ok.2 one, fun x18 _ => ?_⟩⟩
      rw [l1, if_pos rfl, m1, if_neg (by decide)]
      exact f87 rfl
    | some q =>
      obtain ⟨m1, m2, m3⟩ := hy
      obtain ⟨u1, v1⟩ := p
      obtain ⟨u2, v2⟩ := q
      obtain ⟨a1, a2, a3, a4⟩ := wx _ rfl
      obtain ⟨b1, b2, b3, b4⟩ := wy _ rfl
      simp only at l2 l3 m2 m3 a1 a2 a3 a4 b1 b2 b3 b4
      have nu1 : nm u1 := wx.ok.1
      have nv1 : nm v1 := wx.ok.2
      have nu2 : nm u2 := wy.ok.1
      have nv2 : nm v2 := wy.ok.2
      have ev1 : v1 = lN (nA v1) := jabs_pos (fun z => by have := l_lt.mp z; simp at this; omega)
      have ev2 : v2 = lN (nA v2) := jabs_pos (fun z => by have := l_lt.mp z; simp at this; omega)
      have p1 : 0 < nA v1 := by unfold nA; omega
      have p2 : 0 < nA v2 := by unfold nA; omega
      change Q (wF G a (if sumL u1.toInt u2.toInt (nA v1) (nA v2) then none else some (Int64.ofInt ((sumS u1.toInt u2.toInt (nA v1) (nA v2)).tdiv (sumH u1.toInt u2.toInt (nA v1) (nA v2))), lN (sumW (nA v1) (nA v2) / sumH u1.toInt u2.toInt (nA v1) (nA v2))))) at h
      have f87' : sumL u1.toInt u2.toInt (nA v1) (nA v2) → wpX2_add_87 Q a G := fun e => f87 (by show (if sumL u1.toInt u2.toInt (nA v1) (nA v2) then none else _) = none; rw [if_pos e])
      have e1 : u1.toInt.natAbs = nA u1 := rfl
      have e2 : u2.toInt.natAbs = nA u2 := rfl
      generalize hd1 : nA v1 = d1 at *
      generalize hd2 : nA v2 = d2 at *
      unfold T15 at a1 a2 b1 b2
      have hg : 0 < Nat.gcd d1 d2 := Nat.gcd_pos_of_pos_left _ p1
      have hgl : Nat.gcd d1 d2 ≤ d1 := Nat.gcd_le_left _ p1
      have hw := sum_w0 p1 p2
      have hH : 0 < sumH u1.toInt u2.toInt d1 d2 := sum_h0 p1 p2
      have eg : g1 v1 v2 = lN (Nat.gcd d1 d2) := by unfold g1 jg; rw [hd1, hd2, Nat.max_eq_left hg]
      have ho : d2 / Nat.gcd d1 d2 ≤ d2 := Nat.div_le_self _ _
      have hm : d1 / Nat.gcd d1 d2 ≤ d1 := Nat.div_le_self _ _
      refine ⟨ka, kb, ?_⟩
      rw [l3, m3]
      refine X2_cd nv1 nv2 ?_
      show _ ∧ _
      rw [show lN (max (jg v1 v2) 1) = g1 v1 v2 from rfl, eg, l3, m3]
      have zg : ¬ lN (Nat.gcd d1 d2) = 0 := fun z => by have := (lN_z (by omega)).mp z; omega
      refine ⟨kb, zg, fun x15 h15 => ⟨ka, zg, fun x18 h18 => ?_⟩⟩
      rw [ev2, lN_div (by omega) (by omega)] at h15
      rw [ev1, lN_div (by omega) (by omega)] at h18
      subst h15; subst h18
      rw [l1, if_pos rfl, m1, if_pos rfl, l2]
      have nN : ∀ {n : Nat}, n < 9223372036854775808 → nm (lN n) := fun {n} hn => by unfold nm; rw [lT hn]; omega
      refine X2_reaches (t := T18) nu1 (nN (by omega)) rfl (by decide) (by decide) ?_
      rw [nA_lN (by omega)]
      by_cases c1 : T18 ≤ nA u1 * (d2 / Nat.gcd d1 d2)
      · rw [if_pos c1, if_neg (by decide)]
        exact f87' (Or.inl (Or.inl (Or.inl c1)))
      rw [if_neg c1, if_pos rfl]
      refine ⟨kb, ?_⟩
      rw [m2]
      refine X2_reaches (t := T18) nu2 (nN (by omega)) rfl (by decide) (by decide) ?_
      rw [nA_lN (by omega)]
      by_cases c2 : T18 ≤ nA u2 * (d1 / Nat.gcd d1 d2)
      · rw [if_pos c2, if_neg (by decide)]
        exact f87' (Or.inl (Or.inl (Or.inr c2)))
      rw [if_neg c2, if_pos rfl]
      refine ⟨ka, ?_⟩
      rw [l3]
      refine X2_reaches (t := T18) nv1 (nN (by omega)) rfl (by decide) (by decide) ?_
      rw [nA_lN (by omega), hd1]
      by_cases c3 : T18 ≤ d1 * (d2 / Nat.gcd d1 d2)
      · rw [if_pos c3, if_neg (by decide)]
        exact f87' (Or.inl (Or.inr c3))
      rw [if_neg c3, if_pos rfl]
      refine ⟨ka, kb, fun x29 h29 x30 h30 => ?_⟩
      rw [l2, m2] at h29
      rw [l3, ev1, lN_mulI] at h30
      have ew : d1 * (d2 / Nat.gcd d1 d2) = sumW d1 d2 := rfl
      rw [ew] at h30 c3
      subst h30
      unfold T18 at c1 c2 c3
      have q1 : (u1 * lN (d2 / Nat.gcd d1 d2)).toInt = u1.toInt * ((d2 / Nat.gcd d1 d2 : Nat) : Int) := by
        have : (u1.toInt * ((d2 / Nat.gcd d1 d2 : Nat) : Int)).natAbs = nA u1 * (d2 / Nat.gcd d1 d2) := by rw [Int.natAbs_mul, Int.natAbs_natCast]; rfl
        have t := lT (n := d2 / Nat.gcd d1 d2) (by omega)
        rw [l_mul (by rw [t]; omega) (by rw [t]; omega), t]
      have q2 : (u2 * lN (d1 / Nat.gcd d1 d2)).toInt = u2.toInt * ((d1 / Nat.gcd d1 d2 : Nat) : Int) := by
        have : (u2.toInt * ((d1 / Nat.gcd d1 d2 : Nat) : Int)).natAbs = nA u2 * (d1 / Nat.gcd d1 d2) := by rw [Int.natAbs_mul, Int.natAbs_natCast]; rfl
        have t := lT (n := d1 / Nat.gcd d1 d2) (by omega)
        rw [l_mul (by rw [t]; omega) (by rw [t]; omega), t]
      have bs1 : (u1.toInt * ((d2 / Nat.gcd d1 d2 : Nat) : Int)).natAbs < 1000000000000000000 := by rw [Int.natAbs_mul, Int.natAbs_natCast]; rw [e1]; omega
      have bs2 : (u2.toInt * ((d1 / Nat.gcd d1 d2 : Nat) : Int)).natAbs < 1000000000000000000 := by rw [Int.natAbs_mul, Int.natAbs_natCast]; rw [e2]; omega
      have es : x29.toInt = sumS u1.toInt u2.toInt d1 d2 := by
        rw [h29, l_add (by rw [q1, q2]; omega) (by rw [q1, q2]; omega), q1, q2]; rfl
      have bs : (sumS u1.toInt u2.toInt d1 d2).natAbs < 2000000000000000000 := by unfold sumS; omega
      have ns : nm x29 := by unfold nm; rw [es]; omega
      have nAs : nA x29 = (sumS u1.toInt u2.toInt d1 d2).natAbs := by unfold nA; rw [es]
      have hHl : sumH u1.toInt u2.toInt d1 d2 ≤ sumW d1 d2 := Nat.gcd_le_right _ hw
      have eH : lN (max (jg x29 (lN (sumW d1 d2))) 1) = lN (sumH u1.toInt u2.toInt d1 d2) := by
        unfold jg
        rw [nAs, nA_lN (by omega)]
        show lN (max (sumH u1.toInt u2.toInt d1 d2) 1) = _
        rw [Nat.max_eq_left hH]
      refine X2_cd ns (nN (by omega)) ?_
      rw [eH]
      have zH : ¬ lN (sumH u1.toInt u2.toInt d1 d2) = 0 := fun z => by have := (lN_z (by omega)).mp z; omega
      have tq : (x29 / lN (sumH u1.toInt u2.toInt d1 d2)).toInt = (sumS u1.toInt u2.toInt d1 d2).tdiv (sumH u1.toInt u2.toInt d1 d2) := by
        rw [Int64.toInt_div_of_ne_left _ _ (fun z => by rw [z] at ns; exact absurd ns (by unfold nm; decide)), es, lT (by omega)]
      have nq : nA (x29 / lN (sumH u1.toInt u2.toInt d1 d2)) = (sumS u1.toInt u2.toInt d1 d2).natAbs / sumH u1.toInt u2.toInt d1 d2 := by
        unfold nA; rw [tq, tdiv_natAbs]
      have eq2 : lN (sumW d1 d2) / lN (sumH u1.toInt u2.toInt d1 d2) = lN (sumW d1 d2 / sumH u1.toInt u2.toInt d1 d2) := lN_div (by omega) (by omega)
      have hwl : sumW d1 d2 / sumH u1.toInt u2.toInt d1 d2 ≤ sumW d1 d2 := Nat.div_le_self _ _
      have e64 : x29 / lN (sumH u1.toInt u2.toInt d1 d2) = Int64.ofInt ((sumS u1.toInt u2.toInt d1 d2).tdiv (sumH u1.toInt u2.toInt d1 d2)) := by
        have : ((sumS u1.toInt u2.toInt d1 d2).tdiv (sumH u1.toInt u2.toInt d1 d2)).natAbs ≤ (sumS u1.toInt u2.toInt d1 d2).natAbs := by rw [tdiv_natAbs]; exact Nat.div_le_self _ _
        rw [l_eq, tq, ofInt64 (by omega) (by omega)]
      have f166 : ∀ f : Int32, isB f → (f = 0 ↔ ¬ sumL u1.toInt u2.toInt d1 d2) → wpX2_add_166 Q x29 (lN (sumW d1 d2)) (lN (sumH u1.toInt u2.toInt d1 d2)) a f G := by
        intro f hf hff
        refine ⟨zH, zH, ka, X2_settle ka hf ?_⟩
        rw [eq2, e64]
        by_cases hL : sumL u1.toInt u2.toInt d1 d2
        · rw [if_neg (fun z => (hff.mp z) hL)]; rw [if_pos hL] at h; exact h
        · rw [if_pos (hff.mpr hL)]; rw [if_neg hL] at h; exact h
      refine ⟨zH, ?_⟩
      refine X2_reaches (t := T15) (nm_div ns) one rfl (by decide) (by decide) ?_
      rw [nq, show nA (1 : Int64) = 1 from rfl, Nat.mul_one]
      by_cases c4 : T15 ≤ (sumS u1.toInt u2.toInt d1 d2).natAbs / sumH u1.toInt u2.toInt d1 d2
      · rw [if_pos c4, if_neg (by decide)]
        exact f166 1 (Or.inr rfl) ⟨fun z => absurd z (by decide), fun z => absurd (Or.inr (Or.inl c4)) z⟩
      rw [if_neg c4, if_pos rfl]
      refine ⟨zH, ?_⟩
      rw [eq2]
      refine X2_reaches (t := T15) (nN (by omega)) one rfl (by decide) (by decide) ?_
      rw [nA_lN (by omega), show nA (1 : Int64) = 1 from rfl, Nat.mul_one]
      by_cases c5 : T15 ≤ sumW d1 d2 / sumH u1.toInt u2.toInt d1 d2
      · rw [if_pos c5, if_neg (by decide)]
        exact f166 1 (Or.inr rfl) ⟨fun z => absurd z (by decide), fun z => absurd (Or.inr (Or.inr c5)) z⟩
      rw [if_neg c5, if_pos rfl]
      refine f166 0 (Or.inl rfl) ⟨fun _ z => ?_, fun _ => rfl⟩
      rcases z with (( z | z) | z) | z | z
      · exact c1 z
      · exact c2 z
      · exact c3 z
      · exact c4 z
      · exact c5 z
