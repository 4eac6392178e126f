/-! ===== slip ===== -/
def rgt (u v : Int64 × Int64) (t : Int) : Bool := decide (¬ t * u.2.toInt < u.1.toInt ∧ ¬ v.1.toInt < t * v.2.toInt)
def vd (S : St) (b : Nat) (vv : Nat → Int64) (t : Int) : Int64 := match sm S b vv false (sL S), sm S b vv true (sL S) with
  | some u, some v => if rgt u v t then 1 else 0
  | _, _ => -9000000000000000004
theorem vd_some {S : St} {b : Nat} {vv : Nat → Int64} {t : Int} {u v : Int64 × Int64} (h1 : sm S b vv false (sL S) = some u) (h2 : sm S b vv true (sL S) = some v) : vd S b vv t = if rgt u v t then 1 else 0 := by
  unfold vd; rw [h1, h2]
theorem vd_none {S : St} {b : Nat} {vv : Nat → Int64} {t : Int} (h : sm S b vv false (sL S) = none ∨ sm S b vv true (sL S) = none) : vd S b vv t = -9000000000000000004 := by
  unfold vd
  rcases h with h | h
  · rw [h]
  · rw [h]; cases sm S b vv false (sL S) <;> rfl
theorem X10_tryAmount {z b : Nat} {G0 : Wd} {S : St} {la lb : Nat → Nat} {ch : Int32} {am : Int64} {vv : Nat → Int64} {told : Int32} {Q : Int64 → Wd → Prop} (h0 : CR z G0 S la lb) (hi : Inv S) (hw : wghd G0 S lb b (sL S)) (hvv : ∀ i, i < sL S → (if nI i = ch then am else (sA S 15 i).toInt64) = vv i) (hnm : ∀ i, i < sL S → nm (vv i)) (ht : rng told (-1000000000) 1000000000)
    (hQ : ∀ G', chg (fun b => z + 43 ≤ b ∧ b ≤ z + 45) (fun _ => False) G0 G' → Q (vd S b vv told.toInt) G') : wpX10_tryAmount z ch am told G0 Q := by
  unfold wpX10_tryAmount
  refine ⟨h0.K, X10_sumLines h0 hi hw hvv hnm (fun G1 f1 j43 j44 => ?_)⟩
  have c1 := h0.dst (f1.mono (fun b q => by omega) (fun _ q => q))
  have hQ1 := hQ G1 f1
  have w43 := sm_wf hi b (vv := vv) false (sL S) hnm
  have w44 := sm_wf hi b (vv := vv) true (sL S) hnm
  refine ⟨c1.K, z + 43, c1.1.R 0 11 43 (by decide), j43.1, ?_⟩
  rw [isF_lg j43]
  cases e1 : sm S b vv false (sL S) with
  | none =>
    rw [vd_none (Or.inl e1)] at hQ1
    exact ifN (by decide) hQ1
  | some u =>
    refine ifP rfl ⟨z + 44, c1.1.R 0 12 44 (by decide), j44.1, ?_⟩
    rw [isF_lg j44]
    cases e2 : sm S b vv true (sL S) with
    | none =>
      rw [vd_none (Or.inr e2)] at hQ1
      exact ifN (by decide) hQ1
    | some v =>
      rw [vd_some e1 e2] at hQ1
      rw [e1] at j43 w43
      rw [e2] at j44 w44
      obtain ⟨u1, u2, u3, _⟩ := w43 u rfl
      obtain ⟨v1, v2, v3, _⟩ := w44 v rfl
      have t15 : T15 = 1000000000000000 := rfl
      unfold nA at u1 v1
      refine ifP rfl ⟨z + 43, c1.1.R 0 11 43 (by decide), j43.1, j43.1, ?_⟩
      rw [j43.2.2.1, j43.2.2.2]
      have un : (-u.1).toInt = -u.1.toInt := l_neg (by omega)
      refine ifP (by rw [l_lt, ll0]; exact u3) (J_floorDiv (by rw [un]; omega) u3 (fun r hr => ?_))
      rw [un] at hr
      have rb := Int.natAbs_ediv_le_natAbs (-u.1.toInt) u.2.toInt
      rw [← hr] at rb
      have rn : (-r).toInt = -r.toInt := l_neg (by omega)
      have tb := ht.1
      have tb' := ht.2
      have k1 : told.toInt64 < -r ↔ told.toInt * u.2.toInt < u.1.toInt := by
        rw [l_lt, i64, rn, hr]
        have := Int.ediv_lt_iff_lt_mul (a := -u.1.toInt) (b := -told.toInt) u3
        rw [Int.neg_mul] at this
        omega
      refine ifE (fun c => ?_) (fun c => ⟨c1.K, z + 44, c1.1.R 0 12 44 (by decide), j44.1, j44.1, ?_⟩)
      · rw [show rgt u v told.toInt = false from decide_eq_false (fun q => q.1 (k1.mp c))] at hQ1
        exact hQ1
      · rw [j44.2.2.1, j44.2.2.2]
        refine ifP (by rw [l_lt, ll0]; exact v3) (J_floorDiv (by omega) v3 (fun r' hr' => ?_))
        have k2 : r' < told.toInt64 ↔ v.1.toInt < told.toInt * v.2.toInt := by
          rw [l_lt, i64, hr']
          exact Int.ediv_lt_iff_lt_mul v3
        refine ifE (fun d => ?_) (fun d => ?_)
        · rw [show rgt u v told.toInt = false from decide_eq_false (fun q => q.2 (k2.mp d))] at hQ1
          exact hQ1
        · rw [show rgt u v told.toInt = true from decide_eq_true ⟨fun q => c (k1.mpr q), fun q => d (k2.mpr q)⟩] at hQ1
          exact hQ1
/-- the reference: both ends, and whether the told total is right -/
theorem X11_try {z b : Nat} {G0 : Wd} {T S : St} {ch am : Int32} {vv : Nat → Int64} {told : Int32} {A B : Wd → Prop} {C : Int64 → Wd → Prop} (h0 : mid z G0 T S) (hi : Inv S) (he : endsH z G0 S b (sL S)) (hvv : ∀ i, i < sL S → (if nI i = ch then am else sA S 15 i).toInt64 = vv i) (hnm : ∀ i, i < sL S → nm (vv i)) (ht : rng told (-1000000000) 1000000000)
    (hA : vd S b vv told.toInt = 0 → ∀ G', fxM (z + 54) [22] beJ [19] G0 G' → A G') (hB : vd S b vv told.toInt = 1 → ∀ G', fxM (z + 54) [22] beJ [19] G0 G' → B G') (hC : vd S b vv told.toInt = -9000000000000000004 → ∀ G', fxM (z + 54) [22] beJ [19] G0 G' → C (-9000000000000000004) G') : wpX11_bothEnds (z + 54) ch am G0 (fun r3 G4 => if r3 = 0 then (gK G4 (z + 54) = 11 ∧ wpX11_isRight (z + 54) told G4 (fun r6 G7 => if r6 = 0 then A G7 else B G7)) else C r3 G4) := by
  refine X11_bothEnds h0 hi he hvv hnm (fun u v hu hv G1 f1 j1 j2 j3 j4 => ifP rfl ?_) (fun hx G1 f1 => ifN (by decide) (hC (vd_none hx) G1 f1))
  have m1 := h0.fx f1 (by decide) (by decide) (by decide)
  have w1 := sm_wf hi b (vv := vv) false (sL S) hnm
  have w2 := sm_wf hi b (vv := vv) true (sL S) hnm
  rw [hu] at w1
  rw [hv] at w2
  obtain ⟨u1, u2, u3, _⟩ := w1 u rfl
  obtain ⟨v1, v2, v3, _⟩ := w2 v rfl
  have t15 : T15 = 1000000000000000 := rfl
  have eu2 : u.2 = lN (nA u.2) := jabs_pos (by rw [l_lt, ll0]; omega)
  have ev2 : v.2 = lN (nA v.2) := jabs_pos (by rw [l_lt, ll0]; omega)
  have pu : 0 < nA u.2 := by unfold nA; omega
  have pv : 0 < nA v.2 := by unfold nA; omega
  have tu : (nA u.2 : Int) = u.2.toInt := by unfold nA; omega
  have tv : (nA v.2 : Int) = v.2.toInt := by unfold nA; omega
  have tb := ht.1
  have tb' := ht.2
  have nt : nA told.toInt64 < 1000000000000000 := by unfold nA; rw [i64]; omega
  have e := vd_some (t := told.toInt) hu hv
  refine ⟨m1.K, ?_⟩
  unfold wpX11_isRight
  refine ⟨m1.K, ?_⟩
  rw [j1, j2, eu2]
  refine X11_isLess (b := 1) (d := nA u.2) m1.K nt u1 (by omega) u2 (by omega) pu (fun G2 f2 => ?_)
  have f2' := f1.up f2 (fun _ q => nomatch q) (by decide) (fun _ q => nomatch q)
  have k2 : gK G2 (z + 54) = 11 := by rw [f2'.K]; exact h0.K
  rw [i64, tu]
  by_cases c : told.toInt * u.2.toInt < u.1.toInt
  · rw [if_pos (show told.toInt * u.2.toInt < u.1.toInt * ((1 : Nat) : Int) by omega)]
    refine ifN (by decide) (ifP rfl (hA ?_ G2 f2'))
    rw [e, show rgt u v told.toInt = false from decide_eq_false (fun q => q.1 c)]; rfl
  · rw [if_neg (show ¬ told.toInt * u.2.toInt < u.1.toInt * ((1 : Nat) : Int) by omega)]
    refine ifP rfl ⟨k2, ?_⟩
    rw [f2.J 39 (by decide), f2.J 40 (by decide), j3, j4, ev2]
    refine X11_isLess (b := nA v.2) (d := 1) k2 v1 nt v2 (by omega) pv (by omega) (fun G3 f3 => ?_)
    have f3' := f2'.up f3 (fun _ q => nomatch q) (by decide) (fun _ q => nomatch q)
    rw [i64, tv]
    by_cases d : v.1.toInt < told.toInt * v.2.toInt
    · rw [if_pos (show v.1.toInt * ((1 : Nat) : Int) < told.toInt * v.2.toInt by omega)]
      refine ifN (by decide) (ifP rfl (hA ?_ G3 f3'))
      rw [e, show rgt u v told.toInt = false from decide_eq_false (fun q => q.2 d)]; rfl
    · rw [if_neg (show ¬ v.1.toInt * ((1 : Nat) : Int) < told.toInt * v.2.toInt by omega)]
      refine ifP rfl (ifN (by decide) (hB ?_ G3 f3'))
      rw [e, show rgt u v told.toInt = true from decide_eq_true ⟨c, d⟩]; rfl
/-! the forms of a slip -/
def cbF (f : Nat) (v : Int32) : Bool := if f = 1 then true else if f = 2 then true else if f = 3 then decide (v % 10 = 0) else decide (v % 12 = 0)
def amI (f : Nat) (v : Int32) : Int32 := if f = 1 then 2 * v else if f = 2 then 0 else if f = 3 then v / 10 * 12 else v / 12 * 10
theorem amI_64 {f : Nat} {v : Int32} (hv : rng v (-1000000) 1000000) : (f = 1 → (amI f v).toInt64 = 2 * v.toInt64) ∧ (f = 3 → (amI f v).toInt64 = (v / 10).toInt64 * 12) ∧ (f = 4 → (amI f v).toInt64 = (v / 12).toInt64 * 10) := by
  have b1 := hv.1
  have b2 := hv.2
  have l2 : (2 : Int64).toInt = 2 := rfl
  have l12 : (12 : Int64).toInt = 12 := rfl
  have l10 : (10 : Int64).toInt = 10 := rfl
  have i2 : (2 : Int32).toInt = 2 := rfl
  have i12 : (12 : Int32).toInt = 12 := rfl
  have i10 : (10 : Int32).toInt = 10 := rfl
  have dv : ∀ d : Int32, d ≠ -1 → (v / d).toInt = v.toInt.tdiv d.toInt := fun d hd => Int32.toInt_div_of_ne_right v d hd
  have bd : ∀ n : Nat, (v.toInt.tdiv n).natAbs ≤ v.toInt.natAbs := fun n => by rw [tdiv_natAbs]; exact Nat.div_le_self _ _
  refine ⟨fun e => ?_, fun e => ?_, fun e => ?_⟩
  · subst e
    show (2 * v).toInt64 = _
    have m : (2 * v).toInt = 2 * v.toInt := by rw [Int32.toInt_mul, i2]; exact bm32 (by omega) (by omega)
    rw [l_eq, i64, m, l_mul (by rw [l2, i64]; omega) (by rw [l2, i64]; omega), l2, i64]
  · subst e
    show (v / 10 * 12).toInt64 = _
    have q := dv 10 (by decide)
    have q2 := bd 10
    rw [i10] at q
    have q3 : ((10 : Nat) : Int) = 10 := rfl
    rw [q3, ← q] at q2
    have m : (v / 10 * 12).toInt = (v / 10).toInt * 12 := by rw [Int32.toInt_mul, i12]; exact bm32 (by omega) (by omega)
    rw [l_eq, i64, m, l_mul (by rw [l12, i64]; omega) (by rw [l12, i64]; omega), l12, i64]
  · subst e
    show (v / 12 * 10).toInt64 = _
    have q := dv 12 (by decide)
    have q2 := bd 12
    rw [i12] at q
    have q3 : ((12 : Nat) : Int) = 12 := rfl
    rw [q3, ← q] at q2
    have m : (v / 12 * 10).toInt = (v / 12).toInt * 10 := by rw [Int32.toInt_mul, i10]; exact bm32 (by omega) (by omega)
    rw [l_eq, i64, m, l_mul (by rw [l10, i64]; omega) (by rw [l10, i64]; omega), l10, i64]
theorem X6_canBe {f : Nat} {v : Int32} {G : Wd} {Q : Int32 → Wd → Prop} (hf : f = 1 ∨ f = 2 ∨ f = 3 ∨ f = 4) (h1 : cbF f v = true → Q 1 G) (h0 : cbF f v = false → Q 0 G) : wpX6_canBe (nI f) v G Q := by
  unfold wpX6_canBe
  rcases hf with e | e | e | e <;> subst e
  · exact ifP rfl (h1 rfl)
  · exact ifN (by decide) (ifP rfl (h1 rfl))
  · exact ifN (by decide) (ifN (by decide) (ifP rfl (ifE (fun c => h1 (decide_eq_true c)) (fun c => h0 (decide_eq_false c)))))
  · exact ifN (by decide) (ifN (by decide) (ifN (by decide) (ifE (fun c => h1 (decide_eq_true c)) (fun c => h0 (decide_eq_false c)))))
theorem X6_amended {f : Nat} {v : Int32} {G : Wd} {Q : Int64 → Wd → Prop} (hf : f = 1 ∨ f = 2 ∨ f = 3 ∨ f = 4) (hv : rng v (-1000000) 1000000) (hQ : Q (amI f v).toInt64 G) : wpX6_amended (nI f) v G Q := by
  have k := amI_64 (f := f) hv
  unfold wpX6_amended
  rcases hf with e | e | e | e <;> subst e
  · rw [k.1 rfl] at hQ; exact ifP rfl hQ
  · exact ifN (by decide) (ifP rfl hQ)
  · rw [k.2.1 rfl] at hQ; exact ifN (by decide) (ifN (by decide) (ifP rfl hQ))
  · rw [k.2.2 rfl] at hQ; exact ifN (by decide) (ifN (by decide) (ifN (by decide) hQ))
def vvc (S : St) (k : Nat) (w : Int64) (j : Nat) : Int64 := if j = k then w else vv0 S j
theorem vvc_nm {S : St} {k : Nat} {w : Int32} (j : Nat) : nm (vvc S k w.toInt64 j) := by
  unfold vvc
  split
  · unfold nm; rw [i64]; have := i_rng w; omega
  · exact vv0_nm j
def sl1 (S : St) (b : Nat) (t : Int) (j f : Nat) : Option Int64 := if cbF f (sA S 15 j) then (if vd S b (vvc S j (amI f (sA S 15 j)).toInt64) t = 0 then none else if vd S b (vvc S j (amI f (sA S 15 j)).toInt64) t = 1 then some (lN (10 * j + f)) else some (-9000000000000000004)) else none
def slF (S : St) (b : Nat) (t : Int) (c j : Nat) : Option Int64 := match sl1 S b t j (2 * c - 1) with
  | some x => some x
  | none => sl1 S b t j (2 * c)
def slL (S : St) (b : Nat) (t : Int) (c : Nat) : Nat → Nat → Option Int64
  | _, 0 => none
  | i, n + 1 => match slF S b t c i with
    | some x => some x
    | none => slL S b t c (i + 1) n
theorem vd_or (S : St) (b : Nat) (vv : Nat → Int64) (t : Int) : vd S b vv t = 0 ∨ vd S b vv t = 1 ∨ vd S b vv t = -9000000000000000004 := by
  cases h1 : sm S b vv false (sL S) with
  | none => exact Or.inr (Or.inr (vd_none (Or.inl h1)))
  | some u =>
    cases h2 : sm S b vv true (sL S) with
    | none => exact Or.inr (Or.inr (vd_none (Or.inr h2)))
    | some v =>
      rw [vd_some h1 h2]
      split
      · exact Or.inr (Or.inl rfl)
      · exact Or.inl rfl
theorem sl1_ne {S : St} {b : Nat} {t : Int} {j f : Nat} {x : Int64} (hj : j < 20) (hf : f ≤ 4) (h : sl1 S b t j f = some x) : x ≠ -9000000000000000005 := by
  unfold sl1 at h
  split at h
  · split at h
    · cases h
    · split at h
      · have := Option.some.inj h
        rw [← this]
        intro q
        rw [l_eq, lT (by omega)] at q
        have e : (-9000000000000000005 : Int64).toInt = -9000000000000000005 := rfl
        omega
      · have := Option.some.inj h
        rw [← this]; decide
  · cases h
theorem slF_ne {S : St} {b : Nat} {t : Int} {c j : Nat} {x : Int64} (hj : j < 20) (hc : c ≤ 2) (h : slF S b t c j = some x) : x ≠ -9000000000000000005 := by
  unfold slF at h
  cases e : sl1 S b t j (2 * c - 1) with
  | some y =>
    rw [e] at h
    have := Option.some.inj h
    rw [← this]
    exact sl1_ne hj (by omega) e
  | none =>
    rw [e] at h
    exact sl1_ne hj (by omega) h
theorem lN_10 {j f : Nat} (hj : j < 20) (hf : f ≤ 4) : (10 : Int64) * (nI j).toInt64 + (nI f).toInt64 = lN (10 * j + f) := by
  rw [nI_64 (by omega), nI_64 (by omega), show (10 : Int64) = lN 10 from rfl, lN_mulI, lN_addI]
/-! the class's search for a slip -/
theorem sol_step {z b j f last n : Nat} {G0 G : Wd} {S : St} {la lb : Nat → Nat} {told : Int32} {Q : Int64 → Wd → Prop} (h0 : CR z G0 S la lb) (hi : Inv S) (hw : wghd G0 S lb b (sL S)) (ht : rng told (-1000000000) 1000000000) (hj : j < sL S) (hf : f = 1 ∨ f = 2 ∨ f = 3 ∨ f = 4) (hl : f ≤ last) (hl4 : last ≤ 4) (fr : chg (fun b => z + 43 ≤ b ∧ b ≤ z + 45) (fun _ => False) G0 G)
    (h1 : ∀ x, sl1 S b told.toInt j f = some x → ∀ G', chg (fun b => z + 43 ≤ b ∧ b ≤ z + 45) (fun _ => False) G0 G' → Q x G') (h2 : sl1 S b told.toInt j f = none → ∀ G', chg (fun b => z + 43 ≤ b ∧ b ≤ z + 45) (fun _ => False) G0 G' → wpX10_slipOfLine_11 Q n z (nI j) (sA S 15 j) told (nI last) (nI (f + 1)) G') : wpX10_slipOfLine_11 Q (n + 1) z (nI j) (sA S 15 j) told (nI last) (nI f) G := by
  have hN := hi.1.2
  have r15 := (hi.2.2.2.2.2 j hj).1
  have c := h0.dst (fr.mono (fun b q => by omega) (fun _ q => q))
  have w : wghd G S lb b (sL S) := fun k hk => by
    have := (h0.A.2.1 k hk).1
    exact ⟨(hw k hk).1.keep fr (by omega), (hw k hk).2.keep fr (by omega)⟩
  have nx : sl1 S b told.toInt j f = none → ∀ G', chg (fun b => z + 43 ≤ b ∧ b ≤ z + 45) (fun _ => False) G0 G' → wpX10_slipOfLine_73 Q (fun y0 y1 y2 y3 y4 y5 y6 => wpX10_slipOfLine_11 Q n y0 y1 y2 y3 y4 y5 y6) z (nI j) (sA S 15 j) told (nI last) (nI f) G' := fun e G' f' x hx => by
    rw [nI_1] at hx; subst hx
    exact h2 e G' f'
  unfold wpX10_slipOfLine_11
  refine ifN (by rw [i_lt, nI_toInt (by omega), nI_toInt (by omega)]; omega) ?_
  refine X6_canBe hf (fun hc => ifN (fun e => n10 e) ?_) (fun hc => ifP rfl (nx (by unfold sl1; rw [hc]; rfl) G fr))
  refine X6_amended hf r15 ⟨c.K, ?_⟩
  refine X10_tryAmount (vv := vvc S j (amI f (sA S 15 j)).toInt64) c hi w (fun i hi' => ?_) (fun i _ => vvc_nm i) ht (fun G1 f1 => ?_)
  · unfold vvc vv0
    by_cases q : i = j
    · rw [if_pos (by rw [q]), if_pos q]
    · rw [if_neg (fun e => q ((nI_eqI (by omega) (by omega)).mp e)), if_neg q]
  · have f1' := fr.tr f1
    have es : sl1 S b told.toInt j f = (if vd S b (vvc S j (amI f (sA S 15 j)).toInt64) told.toInt = 0 then none else if vd S b (vvc S j (amI f (sA S 15 j)).toInt64) told.toInt = 1 then some (lN (10 * j + f)) else some (-9000000000000000004)) := by unfold sl1; rw [hc]; rfl
    refine ifE (fun c0 => nx (by rw [es, if_pos c0]) G1 f1') (fun c0 => ifE (fun c1 => ?_) (fun c1 => ?_))
    · have := h1 _ (by rw [es, if_neg c0, if_pos c1]) G1 f1'
      rw [lN_10 (by omega) (by omega)]
      exact this
    · exact h1 _ (by rw [es, if_neg c0, if_neg c1]) G1 f1'
theorem C_sol {z b j c : Nat} {G0 G : Wd} {S : St} {la lb : Nat → Nat} {told : Int32} {Q : Int64 → Wd → Prop} (h0 : CR z G0 S la lb) (hi : Inv S) (hw : wghd G0 S lb b (sL S)) (ht : rng told (-1000000000) 1000000000) (hj : j < sL S) (hc : c = 1 ∨ c = 2) (fr : chg (fun b => z + 43 ≤ b ∧ b ≤ z + 45) (fun _ => False) G0 G)
    (h1 : ∀ x, slF S b told.toInt c j = some x → ∀ G', chg (fun b => z + 43 ≤ b ∧ b ≤ z + 45) (fun _ => False) G0 G' → Q x G') (h2 : slF S b told.toInt c j = none → ∀ G', chg (fun b => z + 43 ≤ b ∧ b ≤ z + 45) (fun _ => False) G0 G' → Q (-9000000000000000005) G') : wpX10_slipOfLine z (nI j) (sA S 15 j) (nI c) told G Q := by
  unfold wpX10_slipOfLine
  intro x9 hx9 x10 hx10
  have e9 : x9 = nI (2 * c) := by rw [hx9, show (2 : Int32) = nI 2 from rfl, pk_mul]
  have e10 : x10 = nI (2 * c - 1) := by rw [hx10, e9, nIs1 (by omega)]
  subst e9; subst e10
  refine ⟨3, sol_step h0 hi hw ht hj (by omega) (by omega) (by omega) fr (fun x hx => h1 x (by unfold slF; rw [hx])) (fun e1 G1 f1 => ?_)⟩
  rw [show 2 * c - 1 + 1 = 2 * c by omega]
  refine sol_step h0 hi hw ht hj (by omega) (by omega) (by omega) f1 (fun x hx => h1 x (by unfold slF; rw [e1]; exact hx)) (fun e2 G2 f2 => ?_)
  unfold wpX10_slipOfLine_11
  exact ifP (by rw [i_lt, nI_toInt (by omega), nI_toInt (by omega)]; omega) (h2 (by unfold slF; rw [e1]; exact e2) G2 f2)
theorem C_sll {z b c : Nat} {G0 : Wd} {S : St} {la lb : Nat → Nat} {told : Int32} {Q : Int64 → Wd → Prop} {k2 : Nat → Int32 → Int32 → Wd → Prop} (h0 : CR z G0 S la lb) (hi : Inv S) (hw : wghd G0 S lb b (sL S)) (ht : rng told (-1000000000) 1000000000) (hc : c = 1 ∨ c = 2) (n : Nat) : ∀ (i : Nat) (G : Wd), i ≤ sL S → i + n = sL S + 1 → chg (fun b => z + 43 ≤ b ∧ b ≤ z + 45) (fun _ => False) G0 G → (∀ x, slL S b told.toInt c i (sL S - i) = some x → ∀ G', chg (fun b => z + 43 ≤ b ∧ b ≤ z + 45) (fun _ => False) G0 G' → Q x G') → (slL S b told.toInt c i (sL S - i) = none → ∀ G', chg (fun b => z + 43 ≤ b ∧ b ≤ z + 45) (fun _ => False) G0 G' → k2 z told (nI (c + 1)) G') → wpX10_firstSlip_9 Q k2 n z told (nI c) (nI i) G := by
  have hN := hi.1.2
  induction n with
  | zero => intro i G le e; omega
  | succ n ih =>
    intro i G le e fr h1 h2
    have h := h0.dst (fr.mono (fun b q => by omega) (fun _ q => q))
    unfold wpX10_firstSlip_9
    refine ⟨h.K, ?_⟩
    rw [h.2.2.2.1.2]
    refine ifE (fun q x hx => ?_) (fun q => ?_)
    · rw [nI_leI (by omega) (by omega)] at q
      rw [nI_1] at hx; subst hx
      exact h2 (by rw [show sL S - i = 0 by omega]; rfl) G fr
    · rw [nI_leI (by omega) (by omega)] at q
      have hlt : i < sL S := by omega
      obtain ⟨a1, b1, b2, b3, b4, b5, _⟩ := h.2.2.2.2.2.1 i hlt
      rw [show sL S - i = (sL S - (i + 1)) + 1 by omega] at h1 h2
      refine ⟨z + 4, h.1.R 0 4 4 (by decide), h.1.K 4 (by omega), by rw [h.1.N 4 (by omega)]; exact vp_in_nI (by show i < 20; omega) (by decide), fun r hr => ?_⟩
      rw [nI_clamp (by omega), a1] at hr
      subst hr
      refine ⟨b1, ?_⟩
      rw [b5]
      refine C_sol h0 hi hw ht hlt hc fr (fun x hx G1 f1 => ifN (slF_ne (by omega) (by omega) hx) (h1 x (by unfold slL; rw [hx]) G1 f1)) (fun hx G1 f1 => ifP rfl (fun y hy => ?_))
      rw [nI_1] at hy; subst hy
      exact ih (i + 1) G1 (by omega) (by omega) f1 (fun x hx' => h1 x (by unfold slL; rw [hx]; exact hx')) (fun hx' => h2 (by unfold slL; rw [hx]; exact hx'))
def oSl2 (S : St) (b : Nat) (t : Int) : Int64 := match slL S b t 1 0 (sL S) with
  | some x => x
  | none => match slL S b t 2 0 (sL S) with
    | some x => x
    | none => -9000000000000000005
def oSlip (S : St) (p t : Int32) : Int64 := if rng p 0 9 ∧ rng t (-1000000000) 1000000000 then (if hasB S (nv p) (sL S) then (if vd S (nv p) (vv0 S) t.toInt = 1 then 0 else if vd S (nv p) (vv0 S) t.toInt = -9000000000000000004 then -9000000000000000004 else oSl2 S (nv p) t.toInt) else -9000000000000000005) else -9000000000000000001
theorem ilm9 : (-1000000000 : Int32).toInt = -1000000000 := rfl
theorem il9 : (1000000000 : Int32).toInt = 1000000000 := rfl
theorem C_slip {z : Nat} {G : Wd} {S T : St} {p t : Int32} {Q : Int64 → Wd → Prop} (h : mid z G S T) (hi : Inv S) (hQ : ∀ G', mid z G' S T → Q (oSlip S p t) G') : wpX10_slip z p t G Q := by
  unfold oSlip at hQ
  have hb : ¬ (rng p 0 9 ∧ rng t (-1000000000) 1000000000) → Q (-9000000000000000001) G := fun n => by have := hQ G h; rw [if_neg n] at this; exact this
  obtain ⟨⟨la, lb, hc⟩, hm⟩ := h
  unfold wpX10_slip
  refine X10_isMeasure (fun a => ifN (fun e => n10 e) (ifE (fun c1 => hb (fun c => ?_)) (fun c1 => ifE (fun c2 => ⟨hc.K, ?_⟩) (fun c2 => hb (fun c => ?_))))) (fun a => ifP rfl (hb (fun c => a c.1)))
  · rw [i_lt, ilm9] at c1
    have := c.2.1
    omega
  · rw [i_lt, ilm9] at c1
    rw [i_le, il9] at c2
    have ht : rng t (-1000000000) 1000000000 := ⟨by omega, c2⟩
    rw [if_pos ⟨a, ht⟩] at hQ
    have ep := nI_nv a.1
    have vp := nv_i a.1
    have lp := a.2
    rw [ep]
    refine X10_weighLines hc hi (by omega) (fun hw G1 f1 w1 => ifN (fun e => n10 e) ?_) (fun hw G1 f1 => ifP rfl ?_)
    · rw [if_pos ((hasB_iff _ _ _).mpr hw)] at hQ
      have c1 := hc.wgh f1
      have fin : ∀ G', chg (fun b => z + 43 ≤ b ∧ b ≤ z + 45) (fun _ => False) G1 G' → mid z G' S T := fun G' f' => mid.wgh hc hm (f1.tr (f'.mono (fun b q => Or.inl (by omega)) (fun _ q => absurd q id)))
      refine ⟨c1.K, X10_tryAmount (vv := vv0 S) c1 hi w1 (fun i hi' => by rw [if_neg (vv0_m1 hi i hi')]; rfl) (fun i _ => vv0_nm i) ht (fun G2 f2 => ?_)⟩
      refine ifE (fun d1 => ?_) (fun d1 => ifE (fun d2 => ?_) (fun d2 => ?_))
      · rw [if_pos d1] at hQ
        exact hQ G2 (fin G2 f2)
      · rw [if_neg d1, if_pos d2] at hQ
        exact hQ G2 (fin G2 f2)
      · rw [if_neg d1, if_neg d2] at hQ
        have c2 := c1.dst (f2.mono (fun b q => by omega) (fun _ q => q))
        refine ⟨c2.K, 3, ?_⟩
        unfold wpX10_firstSlip_2
        refine ifN (by decide) ⟨sL S + 1, C_sll (c := 1) c1 hi w1 ht (Or.inl rfl) (sL S + 1) 0 G2 (by omega) (by omega) f2 (fun x hx G3 f3 => ?_) (fun hx G3 f3 => ?_)⟩
        · have := hQ G3 (fin G3 f3)
          unfold oSl2 at this
          rw [show slL S (nv p) t.toInt 1 0 (sL S) = some x from hx] at this
          exact this
        · show wpX10_firstSlip_2 Q 2 z t (nI 2) G3
          unfold wpX10_firstSlip_2
          refine ifN (by decide) ⟨sL S + 1, C_sll (c := 2) c1 hi w1 ht (Or.inr rfl) (sL S + 1) 0 G3 (by omega) (by omega) f3 (fun x hx' G4 f4 => ?_) (fun hx' G4 f4 => ?_)⟩
          · have := hQ G4 (fin G4 f4)
            unfold oSl2 at this
            rw [show slL S (nv p) t.toInt 1 0 (sL S) = none from hx] at this
            dsimp only at this
            rw [show slL S (nv p) t.toInt 2 0 (sL S) = some x from hx'] at this
            exact this
          · show wpX10_firstSlip_2 Q 1 z t (nI 3) G4
            unfold wpX10_firstSlip_2
            refine ifP (by decide) ?_
            have := hQ G4 (fin G4 f4)
            unfold oSl2 at this
            rw [show slL S (nv p) t.toInt 1 0 (sL S) = none from hx] at this
            dsimp only at this
            rw [show slL S (nv p) t.toInt 2 0 (sL S) = none from hx'] at this
            exact this
    · rw [if_neg (fun q => hw ((hasB_iff _ _ _).mp q))] at hQ
      exact hQ G1 (mid.wgh hc hm f1)
  · rw [i_le, il9] at c2
    exact c2 c.2.2
/-! the reference's search for a slip -/
theorem msl_step {z b j f c n : Nat} {G0 G : Wd} {T S : St} {told : Int32} {Q : Int64 → Wd → Prop} {k72 : Nat → Int32 → Int32 → Wd → Prop} {k81 : Nat → Int32 → Int32 → Int32 → Wd → Prop} (h0 : mid z G0 T S) (hi : Inv S) (he : endsH z G0 S b (sL S)) (ht : rng told (-1000000000) 1000000000) (hj : j < sL S) (hf : f = 1 ∨ f = 2 ∨ f = 3 ∨ f = 4) (hl : f ≤ 2 * c) (hc : c ≤ 2) (fr : fxM (z + 54) [22] beJ [19] G0 G)
    (h1 : ∀ x, sl1 S b told.toInt j f = some x → ∀ G', fxM (z + 54) [22] beJ [19] G0 G' → Q x G') (h2 : sl1 S b told.toInt j f = none → ∀ G', fxM (z + 54) [22] beJ [19] G0 G' → wpX11_slip_98 Q k72 k81 n (z + 54) told (nI c) (nI j) (nI (f + 1)) G') : wpX11_slip_98 Q k72 k81 (n + 1) (z + 54) told (nI c) (nI j) (nI f) G := by
  have hN := hi.1.2
  have r15 := (hi.2.2.2.2.2 j hj).1
  have hm := h0.fx fr (by decide) (by decide) (by decide)
  have he' : endsH z G S b (sL S) := fun k hk => by
    obtain ⟨u, v, a1, a2, a3, a4, a5, a6⟩ := he k hk
    exact ⟨u, v, a1, a2, by rw [fr.AJ 26 _ (by omega) (by decide)]; exact a3, by rw [fr.AJ 26 _ (by omega) (by decide)]; exact a4, by rw [fr.AJ 26 _ (by omega) (by decide)]; exact a5, by rw [fr.AJ 26 _ (by omega) (by decide)]; exact a6⟩
  have nx : sl1 S b told.toInt j f = none → ∀ G', fxM (z + 54) [22] beJ [19] G0 G' → wpX11_slip_242 Q k72 k81 (fun y0 y1 y2 y3 y4 y5 => wpX11_slip_98 Q k72 k81 n y0 y1 y2 y3 y4 y5) (z + 54) told (nI c) (nI j) (nI f) G' := fun e G' f' x hx => by
    rw [nI_1] at hx; subst hx
    exact h2 e G' f'
  have s151 : cbF f (sA S 15 j) = false → wpX11_slip_151 Q k72 k81 (fun y0 y1 y2 y3 y4 y5 => wpX11_slip_98 Q k72 k81 n y0 y1 y2 y3 y4 y5) (z + 54) told (nI c) (nI j) (nI f) (sA S 15 j) G := fun hcb => by
    unfold wpX11_slip_151 wpX11_slip_152
    exact ifP rfl (nx (by unfold sl1; rw [hcb]; rfl) G fr)
  have s147 : cbF f (sA S 15 j) = true → wpX11_slip_147 Q k72 k81 (fun y0 y1 y2 y3 y4 y5 => wpX11_slip_98 Q k72 k81 n y0 y1 y2 y3 y4 y5) (z + 54) told (nI c) (nI j) (nI f) (sA S 15 j) G := fun hcb => by
    have es : sl1 S b told.toInt j f = (if vd S b (vvc S j (amI f (sA S 15 j)).toInt64) told.toInt = 0 then none else if vd S b (vvc S j (amI f (sA S 15 j)).toInt64) told.toInt = 1 then some (lN (10 * j + f)) else some (-9000000000000000004)) := by unfold sl1; rw [hcb]; rfl
    have s210 : wpX11_slip_210 Q k72 k81 (fun y0 y1 y2 y3 y4 y5 => wpX11_slip_98 Q k72 k81 n y0 y1 y2 y3 y4 y5) (z + 54) told (nI c) (nI j) (nI f) (z + 54) (nI j) (amI f (sA S 15 j)) G := by
      unfold wpX11_slip_210
      refine ⟨hm.K, ?_⟩
      refine X11_try (vv := vvc S j (amI f (sA S 15 j)).toInt64) hm hi he' (fun i hi' => ?_) (fun i _ => vvc_nm i) ht (fun e G1 f1 => nx (by rw [es, if_pos e]) G1 (fr.tr f1)) (fun e G1 f1 => ?_) (fun e G1 f1 => ?_)
      · unfold vvc vv0
        by_cases q : i = j
        · rw [if_pos (by rw [q]), if_pos q]
        · rw [if_neg (fun e => q ((nI_eqI (by omega) (by omega)).mp e)), if_neg q]
      · have := h1 _ (by rw [es, if_neg (by rw [e]; decide), if_pos e]) G1 (fr.tr f1)
        rw [lN_10 (by omega) (by omega)]
        exact this
      · exact h1 _ (by rw [es, if_neg (by rw [e]; decide), if_neg (by rw [e]; decide)]) G1 (fr.tr f1)
    unfold wpX11_slip_147 wpX11_slip_152
    refine ifN (fun e => n10 e) ?_
    rcases hf with e | e | e | e <;> subst e
    · exact ifP rfl s210
    · exact ifN (by decide) (ifP rfl s210)
    · exact ifN (by decide) (ifN (by decide) (ifP rfl s210))
    · exact ifN (by decide) (ifN (by decide) (ifN (by decide) s210))
  unfold wpX11_slip_98
  refine ifN (by rw [show (2 : Int32) * nI c = nI (2 * c) by rw [show (2 : Int32) = nI 2 from rfl, pk_mul], i_lt, nI_toInt (by omega), nI_toInt (by omega)]; omega) ⟨hm.K, ?_⟩
  refine hm.2.at 15 16 20 20 rfl rfl rfl (by omega) (by omega) (vp_in_nI (by omega) (by decide)) (fun x hx => ?_)
  rw [nI_clamp (by omega), hm.I 15 j (by omega) (by omega) (by show j < 20; omega)] at hx
  subst hx
  rcases hf with e | e | e | e <;> subst e
  · exact ifP (by decide) (s147 rfl)
  · exact ifP (by decide) (s147 rfl)
  · exact ifN (by decide) (ifP rfl (ifE (fun q => s147 (decide_eq_true q)) (fun q => s151 (decide_eq_false q))))
  · exact ifN (by decide) (ifN (by decide) (ifE (fun q => s147 (decide_eq_true q)) (fun q => s151 (decide_eq_false q))))
theorem M_sll {z b c : Nat} {G0 : Wd} {T S : St} {told : Int32} {Q : Int64 → Wd → Prop} {k72 : Nat → Int32 → Int32 → Wd → Prop} (h0 : mid z G0 T S) (hi : Inv S) (he : endsH z G0 S b (sL S)) (ht : rng told (-1000000000) 1000000000) (hc : c = 1 ∨ c = 2) (n : Nat) : ∀ (i : Nat) (G : Wd), i ≤ sL S → i + n = sL S + 1 → fxM (z + 54) [22] beJ [19] G0 G → (∀ x, slL S b told.toInt c i (sL S - i) = some x → ∀ G', fxM (z + 54) [22] beJ [19] G0 G' → Q x G') → (slL S b told.toInt c i (sL S - i) = none → ∀ G', fxM (z + 54) [22] beJ [19] G0 G' → k72 (z + 54) told (nI (c + 1)) G') → wpX11_slip_81 Q k72 n (z + 54) told (nI c) (nI i) G := by
  have hN := hi.1.2
  induction n with
  | zero => intro i G le e; omega
  | succ n ih =>
    intro i G le e fr h1 h2
    have hm := h0.fx fr (by decide) (by decide) (by decide)
    unfold wpX11_slip_81
    refine ⟨hm.K, ?_⟩
    rw [hm.L]
    refine ifE (fun q x hx => ?_) (fun q x hx => ⟨3, ?_⟩)
    · rw [nI_leI (by omega) (by omega)] at q
      rw [nI_1] at hx; subst hx
      exact h2 (by rw [show sL S - i = 0 by omega]; rfl) G fr
    · rw [nI_leI (by omega) (by omega)] at q
      have hlt : i < sL S := by omega
      rw [show sL S - i = (sL S - (i + 1)) + 1 by omega] at h1 h2
      have ex : x = nI (2 * c - 1) := by rw [hx, show (2 : Int32) = nI 2 from rfl, pk_mul, nIs1 (by omega)]
      subst ex
      refine msl_step h0 hi he ht hlt (by omega) (by omega) (by omega) fr (fun x hx => h1 x (by unfold slL slF; rw [hx])) (fun e1 G1 f1 => ?_)
      rw [show 2 * c - 1 + 1 = 2 * c by omega]
      have efr : ∀ y, sl1 S b told.toInt i (2 * c) = y → slF S b told.toInt c i = y := fun y hy => by unfold slF; rw [e1]; exact hy
      refine msl_step h0 hi he ht hlt (by omega) (by omega) (by omega) f1 (fun x hx => h1 x (by unfold slL; rw [efr _ hx])) (fun e2 G2 f2 => ?_)
      unfold wpX11_slip_98
      refine ifP (by rw [show (2 : Int32) * nI c = nI (2 * c) by rw [show (2 : Int32) = nI 2 from rfl, pk_mul], i_lt, nI_toInt (by omega), nI_toInt (by omega)]; omega) (fun y hy => ?_)
      rw [nI_1] at hy; subst hy
      exact ih (i + 1) G2 (by omega) (by omega) f2 (fun x hx' => h1 x (by unfold slL; rw [efr _ e2]; exact hx')) (fun hx' => h2 (by unfold slL; rw [efr _ e2]; exact hx'))
theorem M_slip {z : Nat} {G : Wd} {S T : St} {p t : Int32} {Q : Int64 → Wd → Prop} (h : mid z G T S) (hi : Inv S) (hQ : ∀ G', mid z G' T S → Q (oSlip S p t) G') : wpX11_slip (z + 54) p t G Q := by
  unfold oSlip at hQ
  have hb : ¬ (rng p 0 9 ∧ rng t (-1000000000) 1000000000) → Q (-9000000000000000001) G := fun n => by have := hQ G h; rw [if_neg n] at this; exact this
  unfold wpX11_slip
  refine X11_in 0 9 rfl rfl (fun a => ifN (fun e => n10 e) (X11_in (-1000000000) 1000000000 rfl rfl (fun ht => ifN (fun e => n10 e) ⟨h.K, ?_⟩) (fun ht => ifP rfl (hb (fun c => ht c.2))))) (fun a => ifP rfl (hb (fun c => a c.1)))
  rw [if_pos ⟨a, ht⟩] at hQ
  have ep := nI_nv a.1
  have vp := nv_i a.1
  have lp := a.2
  rw [ep]
  have fin : ∀ G', fxM (z + 54) skSI goSJ feA G G' → mid z G' T S := fun G' f' => h.fx f' (by decide) (by decide) (by decide)
  refine X11_findEnds h hi (by omega) (fun hw G1 f1 => ifN (by decide) ?_) (fun hw hx G1 f1 => ifN (by decide) ?_) (fun hw G1 f1 he => ifP rfl ?_)
  · rw [if_neg (fun q => hw ((hasB_iff _ _ _).mp q))] at hQ
    exact hQ G1 (fin G1 f1)
  · rw [if_pos ((hasB_iff _ _ _).mpr hw)] at hQ
    have e := vd_none (t := t.toInt) (lgE_sm hx (vv0 S))
    rw [if_neg (by rw [e]; decide), if_pos e] at hQ
    exact hQ G1 (fin G1 f1)
  · rw [if_pos ((hasB_iff _ _ _).mpr hw)] at hQ
    have m1 := fin G1 f1
    have fin2 : ∀ G', fxM (z + 54) [22] beJ [19] G1 G' → mid z G' T S := fun G' f' => m1.fx f' (by decide) (by decide) (by decide)
    refine ⟨m1.K, X11_try (C := fun r G' => Q (-9000000000000000004) G') (vv := vv0 S) m1 hi he (fun i hi' => by rw [if_neg (vv0_m1 hi i hi')]; rfl) (fun i _ => vv0_nm i) ht (fun e G2 f2 => ⟨3, ?_⟩) (fun e G2 f2 => ?_) (fun e G2 f2 => ?_)⟩
    · rw [if_neg (by rw [e]; decide), if_neg (by rw [e]; decide)] at hQ
      unfold wpX11_slip_72
      refine ifN (by decide) ⟨sL S + 1, M_sll (c := 1) m1 hi he ht (Or.inl rfl) (sL S + 1) 0 G2 (by omega) (by omega) f2 (fun x hx G3 f3 => ?_) (fun hx G3 f3 => ?_)⟩
      · have := hQ G3 (fin2 G3 f3)
        unfold oSl2 at this
        rw [show slL S (nv p) t.toInt 1 0 (sL S) = some x from hx] at this
        exact this
      · show wpX11_slip_72 Q 2 (z + 54) t (nI 2) G3
        unfold wpX11_slip_72
        refine ifN (by decide) ⟨sL S + 1, M_sll (c := 2) m1 hi he ht (Or.inr rfl) (sL S + 1) 0 G3 (by omega) (by omega) f3 (fun x hx' G4 f4 => ?_) (fun hx' G4 f4 => ?_)⟩
        · have := hQ G4 (fin2 G4 f4)
          unfold oSl2 at this
          rw [show slL S (nv p) t.toInt 1 0 (sL S) = none from hx] at this
          dsimp only at this
          rw [show slL S (nv p) t.toInt 2 0 (sL S) = some x from hx'] at this
          exact this
        · show wpX11_slip_72 Q 1 (z + 54) t (nI 3) G4
          unfold wpX11_slip_72
          refine ifP (by decide) ?_
          have := hQ G4 (fin2 G4 f4)
          unfold oSl2 at this
          rw [show slL S (nv p) t.toInt 1 0 (sL S) = none from hx] at this
          dsimp only at this
          rw [show slL S (nv p) t.toInt 2 0 (sL S) = none from hx'] at this
          exact this
    · rw [if_pos e] at hQ
      exact hQ G2 (fin2 G2 f2)
    · rw [if_neg (by rw [e]; decide), if_pos e] at hQ
      exact hQ G2 (fin2 G2 f2)
theorem ok_slip : ok2 wpX10_slip wpX11_slip := ⟨fun S p t => (oSlip S p t, S), fun _ _ _ _ _ _ _ h hi hQ => C_slip h hi hQ, fun _ _ _ _ _ _ _ h hi hQ => M_slip h hi hQ, fun _ _ _ hi => hi⟩
