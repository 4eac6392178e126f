/-! ===== the reference's sum ===== -/
theorem lN_subneg {a b : Nat} (h : a < b) (hb : b < 9223372036854775808) : (lN a - lN b).toInt = (a : Int) - b := by
  rw [l_sub (by rw [lT (by omega), lT hb]; omega) (by rw [lT (by omega), lT hb]; omega), lT (by omega), lT hb]
theorem lN_subadd {a b c : Nat} (hc : b ≤ a + c) (ha : a < 1000000000000000000) (hb : b < 1000000000000000000) (hcc : c < 1000000000000000000) : lN a - lN b + lN c = lN (a + c - b) := by
  rw [l_eq, lT (by omega)]
  have e : (lN a - lN b).toInt = (a : Int) - b := by
    rw [l_sub (by rw [lT (by omega), lT (by omega)]; omega) (by rw [lT (by omega), lT (by omega)]; omega), lT (by omega), lT (by omega)]
  rw [l_add (by rw [e, lT (by omega)]; omega) (by rw [e, lT (by omega)]; omega), e, lT (by omega)]
  omega
theorem nm_lN {n : Nat} (h : n < 9223372036854775808) : nm (lN n) := by unfold nm; rw [lT h]; omega
theorem X11_plus {G : Wd} {m d1 d2 : Nat} {u a : Int64} {Q : Wd → Prop} (hd : digOk G m) (eu : gJ G m 20 = u) (ed : gJ G m 21 = lN d1) (el : gI G m 22 = 0) (hu : nA u < 1000000000000000) (ha : nA a < 1000000000000000) (p1 : 0 < d1) (p2 : 0 < d2) (b1 : d1 < 1000000000000000) (b2 : d2 < 1000000000000000) (c1 : Nat.gcd (nA u) d1 = 1) (c2 : Nat.gcd (nA a) d2 = 1)
    (hs : ∀ q, fadd (some (u, lN d1)) (some (a, lN d2)) = some q → ∀ G', fxM m [22] [20, 21, 23, 24] [19] G G' → gI G' m 22 = 0 → gJ G' m 20 = q.1 → gJ G' m 21 = q.2 → Q G')
    (hn : fadd (some (u, lN d1)) (some (a, lN d2)) = none → ∀ G', fxM m [22] [20, 21, 23, 24] [19] G G' → gI G' m 22 = 1 → Q G') : wpX11_plus m a (lN d2) G Q := by
  have efa : fadd (some (u, lN d1)) (some (a, lN d2)) = if sumL u.toInt a.toInt d1 d2 then none else some (Int64.ofInt ((sumS u.toInt a.toInt d1 d2).tdiv (sumH u.toInt a.toInt d1 d2)), lN (sumW d1 d2 / sumH u.toInt a.toInt d1 d2)) := by
    show (if sumL u.toInt a.toInt (nA (lN d1)) (nA (lN d2)) then none else _) = _
    rw [nA_lN (by omega), nA_lN (by omega)]
  have hs' : ¬ sumL u.toInt a.toInt d1 d2 → ∀ G', fxM m [22] [20, 21, 23, 24] [19] G G' → gI G' m 22 = 0 → gJ G' m 20 = Int64.ofInt ((sumS u.toInt a.toInt d1 d2).tdiv (sumH u.toInt a.toInt d1 d2)) → gJ G' m 21 = lN (sumW d1 d2 / sumH u.toInt a.toInt d1 d2) → Q G' := fun hL G' q1 q2 q3 q4 => hs _ (by rw [efa, if_neg hL]) G' q1 q2 q3 q4
  have hn' : sumL u.toInt a.toInt d1 d2 → ∀ G', fxM m [22] [20, 21, 23, 24] [19] G G' → gI G' m 22 = 1 → Q G' := fun hL G' q1 q2 => hn (by rw [efa, if_pos hL]) G' q1 q2
  clear hs hn efa
  have nmu : nm u := by unfold nm; unfold nA at hu; omega
  have nma : nm a := by unfold nm; unfold nA at ha; omega
  have hg : 0 < Nat.gcd d1 d2 := Nat.gcd_pos_of_pos_left _ p1
  have hgl : Nat.gcd d1 d2 ≤ d1 := Nat.gcd_le_left _ p1
  have eH := sum_gcd (u1 := u.toInt) (u2 := a.toInt) p1 p2 c1 c2
  have eW : sumW d1 d2 = (d1 / Nat.gcd d1 d2) * (d2 / Nat.gcd d1 d2) * Nat.gcd d1 d2 := by
    have e1 : Nat.gcd d1 d2 * (d1 / Nat.gcd d1 d2) = d1 := Nat.mul_div_cancel' (Nat.gcd_dvd_left _ _)
    unfold sumW
    rw [show d1 * (d2 / Nat.gcd d1 d2) = (Nat.gcd d1 d2 * (d1 / Nat.gcd d1 d2)) * (d2 / Nat.gcd d1 d2) by rw [e1]]
    generalize d1 / Nat.gcd d1 d2 = mi
    generalize d2 / Nat.gcd d1 d2 = o
    rw [Nat.mul_assoc, Nat.mul_comm]
  have ho : d2 / Nat.gcd d1 d2 ≤ d2 := Nat.div_le_self _ _
  have hm : d1 / Nat.gcd d1 d2 ≤ d1 := Nat.div_le_self _ _
  have pm : 0 < d1 / Nat.gcd d1 d2 := Nat.div_pos hgl hg
  have po : 0 < d2 / Nat.gcd d1 d2 := Nat.div_pos (Nat.gcd_le_right _ p2) hg
  have eS : sumS u.toInt a.toInt d1 d2 = u.toInt * ((d2 / Nat.gcd d1 d2 : Nat) : Int) + a.toInt * ((d1 / Nat.gcd d1 d2 : Nat) : Int) := rfl
  have eL : sumL u.toInt a.toInt d1 d2 ↔ (((T18 ≤ nA u * (d2 / Nat.gcd d1 d2) ∨ T18 ≤ nA a * (d1 / Nat.gcd d1 d2)) ∨ T18 ≤ d1 * (d2 / Nat.gcd d1 d2)) ∨ (T15 ≤ (sumS u.toInt a.toInt d1 d2).natAbs / sumH u.toInt a.toInt d1 d2 ∨ T15 ≤ sumW d1 d2 / sumH u.toInt a.toInt d1 d2)) := Iff.rfl
  generalize hS : sumS u.toInt a.toInt d1 d2 = s at *
  generalize hW : sumW d1 d2 = w at *
  generalize hHH : sumH u.toInt a.toInt d1 d2 = k at *
  generalize hLL : sumL u.toInt a.toInt d1 d2 = LL at *
  have hgd1 : Nat.gcd d1 d2 ∣ d1 := Nat.gcd_dvd_left _ _
  generalize hgg : Nat.gcd d1 d2 = g at *
  generalize hoo : d2 / g = o at *
  generalize hmm : d1 / g = mi at *
  have hk0 : 0 < k := by rw [eH]; exact Nat.gcd_pos_of_pos_left _ hg
  have hkg : k ∣ g := by rw [eH]; exact Nat.gcd_dvd_left _ _
  have hkl : k ≤ g := Nat.le_of_dvd hg hkg
  have hgk : 0 < g / k := Nat.div_pos hkl hk0
  have hgkl : g / k ≤ g := Nat.div_le_self _ _
  have ewk : w / k = mi * o * (g / k) := by rw [eW, Nat.mul_div_assoc _ hkg]
  -- the end, once the sum is spelled by two halves
  have f307 : ∀ (bf : Int32) (hi lo : Nat) (G1 : Wd), hi < 9000000000000000 → lo < 1000000000000000 → s.natAbs = hi * 1000000000000000 + lo → (bf = 0 → 0 ≤ s) → (¬ bf = 0 → s ≤ 0) → fxM m [22] [20, 21, 23, 24] [19] G G1 → isB (gI G1 m 22) → (gI G1 m 22 = 0 ↔ ¬ ((T18 ≤ nA u * o ∨ T18 ≤ nA a * mi) ∨ T18 ≤ d1 * o)) → wpX11_plus_307 Q m (lN g) (lN mi) (lN o) bf (lN hi) (lN lo) G1 := by
    intro bf hi lo G1 hhi hlo es sp sn F1 B1 fl1
    have d1k : digOk G1 m := hd.fx F1
    unfold wpX11_plus_307
    refine ⟨d1k.1, X11_spell (by omega) hlo d1k (fun G7 F7 s7 => ?_)⟩
    rw [← es] at s7
    have d7 : digOk G7 m := d1k.fx F7
    have nb : s.natAbs < 1000000000000000000000000000000000000 := by omega
    refine ⟨d7.1, X11_restBy hg (by omega) nb d7 s7 ?_⟩
    have hr : s.natAbs % g < g := Nat.mod_lt _ hg
    refine X11_common (nm_lN (by omega)) (nm_lN (by omega)) ?_
    have ek : jg (lN g) (lN (s.natAbs % g)) = k := by
      unfold jg
      rw [nA_lN (by omega), nA_lN (by omega), eH, Nat.gcd_comm, ← Nat.gcd_rec, ]
    rw [ek]
    have F7' : fxM m [22] [20, 21, 23, 24] [19] G G7 := F1.tr (F7.mono (by simp) (by simp) (by simp))
    have e22 : gI G7 m 22 = gI G1 m 22 := F7.I 22 (by simp)
    -- the last rows: the two numbers are kept
    have fin : ∀ (r14 r21 : Int64) (G22 : Wd), fxM m [22] [20, 21, 23, 24] [19] G G22 → (LL → gI G22 m 22 = 1) → (¬ LL → gI G22 m 22 = 0 ∧ r14 = lN (s.natAbs / k) ∧ r21 = lN (w / k)) → (if bf = 0 then wpX11_plus_369 Q m r21 m r14 G22 else wpX11_plus_369 Q m r21 m (-r14) G22) := by
      intro r14 r21 G22 F22 hl1 hl2
      have k22 : gK G22 m = 11 := by rw [F22.K]; exact hd.1
      have f369 : ∀ r : Int64, (¬ LL → r = Int64.ofInt (s.tdiv k)) → wpX11_plus_369 Q m r21 m r G22 := by
        intro r er
        refine ⟨k22, fun G2 h2 => ⟨by rw [h2]; exact k22, fun G4 h4 => ?_⟩⟩
        have F4 : fxM m [22] [20, 21, 23, 24] [19] G G4 := by
          rw [h4, h2]
          exact (F22.wJ 20 _ (by simp)).wJ 21 _ (by simp)
        have i4 : gI G4 m 22 = gI G22 m 22 := by rw [h4, h2]; rfl
        have j20 : gJ G4 m 20 = r := by rw [h4, gJ_uJ, if_neg (by omega), h2, gJ_uJ, if_pos ⟨rfl, rfl⟩]
        have j21 : gJ G4 m 21 = r21 := by rw [h4, gJ_uJ, if_pos ⟨rfl, rfl⟩]
        by_cases hL : LL
        · exact hn' hL G4 F4 (by rw [i4]; exact hl1 hL)
        · obtain ⟨q1, q2, q3⟩ := hl2 hL
          refine hs' hL G4 F4 (by rw [i4]; exact q1) ?_ ?_
          · rw [j20]; exact er hL
          · rw [j21]; exact q3
      have hql : s.natAbs / k ≤ s.natAbs := Nat.div_le_self _ _
      have tn : (s.tdiv k).natAbs = s.natAbs / k := tdiv_natAbs s k
      have big : ¬ LL → s.natAbs / k < 1000000000000000 := by
        intro hL
        have : ¬ T15 ≤ s.natAbs / k := fun z => hL (eL.mpr (Or.inr (Or.inl z)))
        unfold T15 at this
        omega
      by_cases hb : bf = 0
      · rw [if_pos hb]
        refine f369 r14 (fun hL => ?_)
        obtain ⟨-, q2, -⟩ := hl2 hL
        have := big hL
        have h0 : 0 ≤ s.tdiv k := Int.tdiv_nonneg (sp hb) (by omega)
        rw [q2, l_eq, lT (by omega), ofInt64 (by omega) (by omega)]
        omega
      · rw [if_neg hb]
        refine f369 (-r14) (fun hL => ?_)
        obtain ⟨-, q2, -⟩ := hl2 hL
        have := big hL
        have h0 : s.tdiv k ≤ 0 := by
          have h5 := Int.tdiv_nonneg (a := -s) (b := k) (by have := sn hb; omega) (by omega)
          rw [Int.neg_tdiv] at h5
          omega
        rw [q2, l_eq, l_neg (by rw [lT (by omega)]; omega), lT (by omega), ofInt64 (by omega) (by omega)]
        omega
    -- what is below the line
    have bot : ∀ (r14 : Int64) (G15 : Wd), fxM m [22] [20, 21, 23, 24] [19] G G15 → isB (gI G15 m 22) → (gI G15 m 22 = 0 ↔ ¬ (((T18 ≤ nA u * o ∨ T18 ≤ nA a * mi) ∨ T18 ≤ d1 * o) ∨ T15 ≤ s.natAbs / k)) → (¬ T15 ≤ s.natAbs / k → r14 = lN (s.natAbs / k)) → wpX11_below m (lN mi) (lN o) G15 (fun r17 G18 => ¬ lN k = 0 ∧ gK G18 m = 11 ∧ wpX11_below m r17 (lN g / lN k) G18 (fun r21 G22 => if bf = 0 then wpX11_plus_369 Q m r21 m r14 G22 else wpX11_plus_369 Q m r21 m (-r14) G22)) := by
      intro r14 G15 F15 B15 fl15 er14
      have k15 : gK G15 m = 11 := by rw [F15.K]; exact hd.1
      have zk : ¬ lN k = 0 := fun z => by have := (lN_z (by omega)).mp z; omega
      have egk : lN g / lN k = lN (g / k) := lN_div (by omega) (by omega)
      have hB15 : ∀ {x : Int32}, isB x → ¬ x = 0 → x = 1 := fun {x} hx h0 => hx.elim (fun z => absurd z h0) id
      refine X11_below k15 (nm_lN (by omega)) (nm_lN (by omega)) (fun q5 => ⟨zk, k15, ?_⟩) (fun q5 => ⟨zk, k15, ?_⟩)
      · rw [egk]
        rw [nA_lN (by omega), nA_lN (by omega)] at q5
        have hLL5 : LL := eL.mpr (Or.inr (Or.inr (by rw [ewk]; exact Nat.le_trans q5 (Nat.le_mul_of_pos_right _ hgk))))
        have F16 : fxM m [22] [20, 21, 23, 24] [19] G (uI G15 m 22 1) := F15.wI 22 _ (by simp)
        refine X11_below k15 (nm_lN (n := 1) (by omega)) (nm_lN (by omega)) (fun q6 => ?_) (fun q6 => ?_)
        · exact fin r14 1 _ (F16.wI 22 _ (by simp)) (fun _ => by simp [gI_uI]) (fun z => absurd hLL5 z)
        · exact fin r14 _ _ F16 (fun _ => by simp [gI_uI]) (fun z => absurd hLL5 z)
      · rw [egk, lN_mulI]
        rw [nA_lN (by omega), nA_lN (by omega)] at q5
        have hmo : mi * o < 1000000000000000 := by unfold T15 at q5; omega
        refine X11_below k15 (nm_lN (by omega)) (nm_lN (by omega)) (fun q6 => ?_) (fun q6 => ?_)
        · rw [nA_lN (by omega), nA_lN (by omega)] at q6
          have hLL6 : LL := eL.mpr (Or.inr (Or.inr (by rw [ewk]; exact q6)))
          exact fin r14 1 _ (F15.wI 22 _ (by simp)) (fun _ => by simp [gI_uI]) (fun z => absurd hLL6 z)
        · rw [nA_lN (by omega), nA_lN (by omega)] at q6
          rw [lN_mulI, ← ewk]
          rw [← ewk] at q6
          refine fin r14 _ _ F15 (fun hL => ?_) (fun hL => ?_)
          · refine hB15 B15 (fun z => (fl15.mp z) ?_)
            rcases eL.mp hL with z | z | z
            · exact Or.inl z
            · exact Or.inr z
            · exact absurd z q6
          · have h7 : ¬ T15 ≤ s.natAbs / k := fun z => hL (eL.mpr (Or.inr (Or.inl z)))
            refine ⟨fl15.mpr (fun z => hL (eL.mpr ?_)), er14 h7, rfl⟩
            rcases z with z | z
            · exact Or.inl z
            · exact Or.inr (Or.inl z)
    refine ⟨d7.1, X11_divided hk0 (by omega) nb d7 s7 (fun q4 => ?_) (fun q4 => ?_)⟩
    · refine ⟨by exact d7.1, bot 1 _ (F7'.wI 22 _ (by simp)) ?_ ?_ (fun z => absurd q4 z)⟩
      · rw [gI_uI, if_pos ⟨rfl, rfl⟩]; exact Or.inr rfl
      · rw [gI_uI, if_pos ⟨rfl, rfl⟩]
        exact ⟨fun z => absurd z (by decide), fun z => absurd (Or.inr q4) z⟩
    · refine ⟨d7.1, bot _ G7 F7' (by rw [e22]; exact B1) ?_ (fun _ => rfl)⟩
      rw [e22, fl1]
      exact ⟨fun z w => w.elim z q4, fun z w => z (Or.inl w)⟩
  have f18 : ∀ {hi lo P : Nat}, hi * 1000000000000000 + lo = P → lo < 1000000000000000 → (hi < 1000 ↔ ¬ T18 ≤ P) := by
    intro hi lo P e1 e2
    unfold T18
    omega
  have bnd : ∀ {x y : Nat}, x < 1000000000000000 → y < 1000000000000000 → x * y < 1000000000000000000000000000000 := by
    intro x y hx hy
    have : x * y ≤ 999999999999999 * 999999999999999 := Nat.mul_le_mul (by omega) (by omega)
    omega
  have lmi : mi < 1000000000000000 := by omega
  have lo' : o < 1000000000000000 := by omega
  -- the two products with their signs
  have f119 : ∀ (bf ag : Int32) (h1 l1 h2' : Nat) (G1 : Wd), isB bf → isB ag → fxM m [22] [20, 21, 23, 24] [19] G G1 → isB (gI G1 m 22) → (gI G1 m 22 = 0 ↔ ¬ (T18 ≤ d1 * o ∨ T18 ≤ nA u * o)) → h1 * 1000000000000000 + l1 = nA u * o → l1 < 1000000000000000 → u.toInt = (if bf = 0 then (nA u : Int) else -(nA u : Int)) → a.toInt = (if ag = 0 then (nA a : Int) else -(nA a : Int)) → wpX11_plus_119 Q m (lN g) (lN mi) (lN o) bf (lN h1) (lN l1) ag m (lN (nA a)) G1 := by
    intro bf ag h1 l1 h2' G1 Bb Ba F1 B1 fl1 e1 hl1 su sa
    have k1 : gK G1 m = 11 := by rw [F1.K]; exact hd.1
    refine ⟨k1, X11_multiply k1 ha lmi (fun G31 h2 l2 F31 e2 hl2 r23 r24 => ?_)⟩
    have k31 : gK G31 m = 11 := by rw [F31.K]; exact k1
    have hh1 := hi_lt hu lo' e1
    have hh2 := hi_lt ha lmi e2
    have e31 : gI G31 m 22 = gI G1 m 22 := F31.I 22 (by simp)
    refine ⟨k31, X11_bound k31 (by rw [e31]; exact B1) (by omega) r23 (fun G34 F34 e34 => ?_)⟩
    have k34 : gK G34 m = 11 := by rw [F34.K]; exact k31
    have F34' : fxM m [22] [20, 21, 23, 24] [19] G G34 := (F1.tr (F31.mono (by simp) (by simp) (by simp))).tr (F34.mono (by simp) (by simp) (by simp))
    have j23 : gJ G34 m 23 = lN h2 := by rw [F34.J 23 (by simp)]; exact r23
    have j24 : gJ G34 m 24 = lN l2 := by rw [F34.J 24 (by simp)]; exact r24
    have B34 : isB (gI G34 m 22) := by rw [e34]; split <;> first | exact Or.inl rfl | exact Or.inr rfl
    have fl34 : gI G34 m 22 = 0 ↔ ¬ ((T18 ≤ nA u * o ∨ T18 ≤ nA a * mi) ∨ T18 ≤ d1 * o) := by
      rw [e34, e31]
      have t1 := f18 e2 hl2
      constructor
      · intro z w
        split at z
        · rename_i hc
          have t2 := fl1.mp hc.1
          have t3 := t1.mp hc.2
          rcases w with (w | w) | w
          · exact t2 (Or.inr w)
          · exact t3 w
          · exact t2 (Or.inl w)
        · exact absurd z (by decide)
      · intro z
        rw [if_pos ⟨fl1.mpr (fun w => z (w.elim Or.inr (fun w => Or.inl (Or.inl w)))), t1.mpr (fun w => z (Or.inl (Or.inr w)))⟩]
    have sA : s = (if bf = 0 then ((nA u * o : Nat) : Int) else -((nA u * o : Nat) : Int)) + (if ag = 0 then ((nA a * mi : Nat) : Int) else -((nA a * mi : Nat) : Int)) := by
      rw [eS, su, sa]
      split <;> split <;> simp [Int.neg_mul]
    generalize nA u * o = A1 at *
    generalize nA a * mi = A2 at *
    by_cases hsame : bf = ag
    · rw [if_pos hsame]
      refine ⟨k34, fun x37 h37 x38 h38 => ?_⟩
      rw [j23, lN_addI] at h37
      rw [j24, lN_addI] at h38
      subst h37; subst h38
      rw [show (1000000000000000 : Int64) = lN 1000000000000000 from rfl]
      subst hsame
      have hpos : bf = 0 → 0 ≤ s := fun z => by rw [sA, if_pos z, if_pos z]; omega
      have hneg : ¬ bf = 0 → s ≤ 0 := fun z => by rw [sA, if_neg z, if_neg z]; omega
      have habs : s.natAbs = A1 + A2 := by
        by_cases z : bf = 0
        · rw [sA, if_pos z, if_pos z]; omega
        · rw [sA, if_neg z, if_neg z]; omega
      by_cases hc : l1 + l2 < 1000000000000000
      · rw [if_pos ((lN_ltI (by omega) (by omega)).mpr hc)]
        exact f307 bf (h1 + h2) (l1 + l2) G34 (by omega) hc (by omega) hpos hneg F34' B34 fl34
      · rw [if_neg (fun z => hc ((lN_ltI (by omega) (by omega)).mp z))]
        intro x39 h39 x40 h40
        rw [lN_subI (by omega)] at h39
        rw [← lN1, lN_addI] at h40
        subst h39; subst h40
        exact f307 bf (h1 + h2 + 1) (l1 + l2 - 1000000000000000) G34 (by omega) (by omega) (by omega) hpos hneg F34' B34 fl34
    · rw [if_neg hsame]
      refine ⟨k34, ?_⟩
      rw [j23, j24]
      have hlx := lex_lt (a := h1) (c := h2) hl1 hl2
      rw [e1, e2] at hlx
      have hag : (bf = 0 ∧ ag = 1) ∨ (bf = 1 ∧ ag = 0) := by
        rcases Bb with z | z <;> rcases Ba with w | w
        · exact absurd (z.trans w.symm) hsame
        · exact Or.inl ⟨z, w⟩
        · exact Or.inr ⟨z, w⟩
        · exact absurd (z.trans w.symm) hsame
      -- the greater less the less
      have f276 : ∀ (f : Int32) (x y p q : Nat), y * 1000000000000000 + q ≤ x * 1000000000000000 + p → p < 1000000000000000 → q < 1000000000000000 → x < 1000000000000000 → y < 1000000000000000 → s.natAbs = (x * 1000000000000000 + p) - (y * 1000000000000000 + q) → (f = 0 → 0 ≤ s) → (¬ f = 0 → s ≤ 0) → wpX11_plus_276 Q m (lN g) (lN mi) (lN o) (lN x - lN y) (lN p - lN q) f G34 := by
        intro f x y p q hle hp hq hx hy es sp sn
        unfold wpX11_plus_276
        by_cases hc : p < q
        · have hneg : lN p - lN q < 0 := by rw [l_lt, lN_subneg hc (by omega)]; show _ < (0 : Int); omega
          rw [if_pos hneg]
          intro x23 h23 x24 h24
          rw [show (1000000000000000 : Int64) = lN 1000000000000000 from rfl, lN_subadd (by omega) (by omega) (by omega) (by omega)] at h23
          rw [lN_subI (by omega), ← lN1, lN_subI (by omega)] at h24
          subst h23; subst h24
          exact f307 f (x - y - 1) (p + 1000000000000000 - q) G34 (by omega) (by omega) (by omega) sp sn F34' B34 fl34
        · rw [lN_subI (by omega), lN_subI (by omega)]
          have hn0 : ¬ lN (p - q) < 0 := by rw [l_lt, lT (by omega)]; show ¬ _ < (0 : Int); omega
          rw [if_neg hn0]
          exact f307 f (x - y) (p - q) G34 (by omega) (by omega) (by omega) sp sn F34' B34 fl34
      have less : A1 < A2 → wpX11_plus_209 Q m (lN g) (lN mi) (lN o) bf (lN h1) (lN l1) ag G34 := by
        intro hlt
        unfold wpX11_plus_209 wpX11_plus_214
        rw [if_neg (by decide), j23]
        refine ⟨k34, ?_⟩
        unfold wpX11_plus_238
        rw [if_neg (by decide), j24]
        refine ⟨k34, ?_⟩
        unfold wpX11_plus_262
        rw [if_neg (by decide)]
        refine f276 ag h2 h1 l2 l1 (by omega) hl2 hl1 hh2 hh1 ?_ (fun z => ?_) (fun z => ?_)
        · rcases hag with ⟨z, w⟩ | ⟨z, w⟩
          · rw [sA, if_pos z, if_neg (by rw [w]; decide)]; omega
          · rw [sA, if_neg (by rw [z]; decide), if_pos w]; omega
        · rcases hag with ⟨z', w⟩ | ⟨z', w⟩
          · rw [w] at z; exact absurd z (by decide)
          · rw [sA, if_neg (by rw [z']; decide), if_pos w]; omega
        · rcases hag with ⟨z', w⟩ | ⟨z', w⟩
          · rw [sA, if_pos z', if_neg (by rw [w]; decide)]; omega
          · exact absurd w z
      have more : ¬ A1 < A2 → wpX11_plus_213 Q m (lN g) (lN mi) (lN o) bf (lN h1) (lN l1) ag G34 := by
        intro hlt
        unfold wpX11_plus_213 wpX11_plus_214
        rw [if_pos rfl, j23]
        refine ⟨k34, ?_⟩
        unfold wpX11_plus_238
        rw [if_pos rfl, j24]
        refine ⟨k34, ?_⟩
        unfold wpX11_plus_262
        rw [if_pos rfl]
        refine f276 bf h1 h2 l1 l2 (by omega) hl1 hl2 hh1 hh2 ?_ (fun z => ?_) (fun z => ?_)
        · rcases hag with ⟨z, w⟩ | ⟨z, w⟩
          · rw [sA, if_pos z, if_neg (by rw [w]; decide)]; omega
          · rw [sA, if_neg (by rw [z]; decide), if_pos w]; omega
        · rcases hag with ⟨z', w⟩ | ⟨z', w⟩
          · rw [sA, if_pos z', if_neg (by rw [w]; decide)]; omega
          · rw [z'] at z; exact absurd z (by decide)
        · rcases hag with ⟨z', w⟩ | ⟨z', w⟩
          · exact absurd z' z
          · rw [sA, if_neg (by rw [z']; decide), if_pos w]; omega
      by_cases q1 : h1 < h2
      · rw [if_pos ((lN_ltI (by omega) (by omega)).mpr q1)]
        exact less (hlx.mpr (Or.inl q1))
      · rw [if_neg (fun z => q1 ((lN_ltI (by omega) (by omega)).mp z))]
        by_cases q2 : h1 = h2
        · rw [if_pos (by rw [q2])]
          by_cases q3 : l1 < l2
          · rw [if_pos ((lN_ltI (by omega) (by omega)).mpr q3)]
            exact less (hlx.mpr (Or.inr ⟨q2, q3⟩))
          · rw [if_neg (fun z => q3 ((lN_ltI (by omega) (by omega)).mp z))]
            exact more (fun z => (hlx.mp z).elim q1 (fun w => q3 w.2))
        · rw [if_neg (fun z => q2 ((lN_eqI (by omega) (by omega)).mp z))]
          exact more (fun z => (hlx.mp z).elim q1 (fun w => q2 w.1))
  have f73 : ∀ (bf : Int32) (G1 : Wd), isB bf → fxM m [22] [20, 21, 23, 24] [19] G G1 → isB (gI G1 m 22) → (gI G1 m 22 = 0 ↔ ¬ T18 ≤ d1 * o) → u.toInt = (if bf = 0 then (nA u : Int) else -(nA u : Int)) → wpX11_plus_73 Q m a (lN g) (lN mi) (lN o) bf m (lN (nA u)) G1 := by
    intro bf G1 Bb F1 B1 fl1 su
    have k1 : gK G1 m = 11 := by rw [F1.K]; exact hd.1
    refine ⟨k1, X11_multiply k1 hu lo' (fun G43 h1 l1 F43 e1 hl1 r23 r24 => ?_)⟩
    have k43 : gK G43 m = 11 := by rw [F43.K]; exact k1
    have e43 : gI G43 m 22 = gI G1 m 22 := F43.I 22 (by simp)
    have hh1 := hi_lt hu lo' e1
    refine ⟨k43, X11_bound k43 (by rw [e43]; exact B1) (by omega) r23 (fun G46 F46 e46 => ?_)⟩
    have k46 : gK G46 m = 11 := by rw [F46.K]; exact k43
    have F46' : fxM m [22] [20, 21, 23, 24] [19] G G46 := (F1.tr (F43.mono (by simp) (by simp) (by simp))).tr (F46.mono (by simp) (by simp) (by simp))
    have B46 : isB (gI G46 m 22) := by rw [e46]; split <;> first | exact Or.inl rfl | exact Or.inr rfl
    have fl46 : gI G46 m 22 = 0 ↔ ¬ (T18 ≤ d1 * o ∨ T18 ≤ nA u * o) := by
      rw [e46, e43]
      have t1 := f18 e1 hl1
      constructor
      · intro z w
        split at z
        · rename_i hc
          exact w.elim (fl1.mp hc.1) (t1.mp hc.2)
        · exact absurd z (by decide)
      · intro z
        rw [if_pos ⟨fl1.mpr (fun w => z (Or.inl w)), t1.mpr (fun w => z (Or.inr w))⟩]
    refine ⟨k46, fun x48 h48 x49 h49 => ?_⟩
    rw [F46.J 23 (by simp), r23] at h48
    rw [F46.J 24 (by simp), r24] at h49
    subst h48; subst h49
    by_cases hneg : a < 0
    · rw [if_pos hneg]
      unfold wpX11_plus_105
      rw [if_neg (by decide), jabs_neg hneg nma]
      exact f119 bf 1 h1 l1 0 G46 Bb (Or.inr rfl) F46' B46 fl46 e1 hl1 su (by rw [if_neg (by decide)]; unfold nA; have := l_lt.mp hneg; have : a.toInt < 0 := this; omega)
    · rw [if_neg hneg]
      unfold wpX11_plus_105
      rw [if_pos rfl]
      have e := jabs_pos hneg
      have := f119 bf 0 h1 l1 0 G46 Bb (Or.inl rfl) F46' B46 fl46 e1 hl1 su (by rw [if_pos rfl]; unfold nA; have : ¬ a.toInt < 0 := fun z => hneg (l_lt.mpr z); omega)
      rw [← e] at this
      exact this
  have f39 : ∀ (bf : Int32), isB bf → u.toInt = (if bf = 0 then (nA u : Int) else -(nA u : Int)) → (bf = 0 → ¬ u < 0) → (¬ bf = 0 → u < 0) → wpX11_plus_39 Q m a (lN g) (lN mi) (lN o) bf G := by
    intro bf Bb su s0 s1
    unfold wpX11_plus_39
    rw [ed]
    refine ⟨hd.1, X11_multiply hd.1 b1 lo' (fun G52 h0 l0 F52 e0 hl0 r23 r24 => ?_)⟩
    have k52 : gK G52 m = 11 := by rw [F52.K]; exact hd.1
    have e52 : gI G52 m 22 = 0 := by rw [F52.I 22 (by simp)]; exact el
    have hh0 := hi_lt b1 lo' e0
    refine ⟨k52, X11_bound k52 (by rw [e52]; exact Or.inl rfl) (by omega) r23 (fun G55 F55 e55 => ?_)⟩
    have k55 : gK G55 m = 11 := by rw [F55.K]; exact k52
    have F55' : fxM m [22] [20, 21, 23, 24] [19] G G55 := (F52.mono (by simp) (by simp) (by simp)).tr (F55.mono (by simp) (by simp) (by simp))
    have B55 : isB (gI G55 m 22) := by rw [e55]; split <;> first | exact Or.inl rfl | exact Or.inr rfl
    have fl55 : gI G55 m 22 = 0 ↔ ¬ T18 ≤ d1 * o := by
      rw [e55]
      have t1 := f18 e0 hl0
      constructor
      · intro z
        split at z
        · rename_i hc
          exact t1.mp hc.2
        · exact absurd z (by decide)
      · intro z
        rw [if_pos ⟨e52, t1.mpr z⟩]
    have j20 : gJ G55 m 20 = u := by rw [F55.J 20 (by simp), F52.J 20 (by simp)]; exact eu
    rw [j20]
    have := f73 bf G55 Bb F55' B55 fl55 su
    by_cases hb : bf = 0
    · rw [if_pos hb]
      rw [← jabs_pos (s0 hb)] at this
      exact ⟨k55, this⟩
    · rw [if_neg hb]
      rw [← jabs_neg (s1 hb) nmu] at this
      exact ⟨k55, this⟩
  unfold wpX11_plus
  rw [ed]
  refine ⟨hd.1, X11_common (nm_lN (by omega)) (nm_lN (by omega)) ?_⟩
  have ejg : jg (lN d1) (lN d2) = g := by unfold jg; rw [nA_lN (by omega), nA_lN (by omega)]; exact hgg
  rw [ejg, ed, eu]
  have zg : ¬ lN g = 0 := fun z => by have := (lN_z (by omega)).mp z; omega
  refine ⟨hd.1, zg, fun x63 h63 => ⟨zg, fun x65 h65 => ?_⟩⟩
  rw [lN_div (by omega) (by omega), hmm] at h63
  rw [lN_div (by omega) (by omega), hoo] at h65
  subst h63; subst h65
  by_cases hneg : u < 0
  · rw [if_pos hneg]
    exact f39 1 (Or.inr rfl) (by rw [if_neg (by decide)]; unfold nA; have := l_lt.mp hneg; have : u.toInt < 0 := this; omega) (fun z => absurd z (by decide)) (fun _ => hneg)
  · rw [if_neg hneg]
    exact f39 0 (Or.inl rfl) (by rw [if_pos rfl]; unfold nA; have : ¬ u.toInt < 0 := fun z => hneg (l_lt.mpr z); omega) (fun _ => hneg) (fun z => absurd rfl z)
