/-! ===== rings: the reference's findRings ===== -/
def dck (S : St) (p d : Int32) (k : Nat) : Bool := decide (¬ cnt S k p d = 0 ∧ (sA S 2 k = 2 ∨ sA S 2 k = 4))
def dc (S : St) (p d : Int32) : Nat → Nat
  | 0 => 0
  | k + 1 => dc S p d k + (if dck S p d k then 1 else 0)
def cho (ch : Bool) (S : St) (p d : Int32) (k : Nat) : Option Nat := if ch && dck S p d k && decide (dc S p d k < 10) && decide (k < sM S) then some (dc S p d k) else none
theorem dc_s (S : St) (p d : Int32) (k : Nat) : dc S p d (k + 1) = dc S p d k + (if dck S p d k then 1 else 0) := rfl
theorem dc_le (S : St) (p d : Int32) (k : Nat) : dc S p d k ≤ k := by
  induction k with
  | zero => exact Nat.le_refl _
  | succ k ih => unfold dc; split <;> omega
theorem cho_10 (ch : Bool) (S : St) (p d : Int32) : ∀ k i, cho ch S p d k = some i → i < 10 := by
  intro k i h
  unfold cho at h
  split at h
  · next q =>
    have := Option.some.inj h
    simp only [Bool.and_eq_true, decide_eq_true_eq] at q
    omega
  · cases h
abbrev frI : List Nat := [22, 29, 33, 41, 44]
abbrev frA : List Nat := [20, 21, 22, 23, 24, 25]
abbrev jst0 : Jst := (false, none, fun _ => false)
theorem X11_findRings {z : Nat} {G0 : Wd} {T S : St} {p d v3 : Int32} {ch : Bool} {Q : Int32 → Wd → Prop} (h0 : mid z G0 T S) (hi : Inv S) (hp : rng p 0 7) (ev : v3 = if ch then 1 else 0)
    (hQ0 : ∀ G', fxM (z + 54) frI rgJ frA G0 G' → ((run (mstep S (boC (cho ch S p d))) jstop jst0 (rgL S (opl S p d (sM S)) 10)).1 = true ∨ ch = true ∧ 10 < dc S p d (sM S)) → Q 0 G')
    (hQ1 : ∀ G', fxM (z + 54) frI rgJ frA G0 G' → (run (mstep S (boC (cho ch S p d))) jstop jst0 (rgL S (opl S p d (sM S)) 10)).1 = false → (ch = true → dc S p d (sM S) ≤ 10) → mI z (run (mstep S (boC (cho ch S p d))) jstop jst0 (rgL S (opl S p d (sM S)) 10)) G' → chc z S (cho ch S p d) G' → gI G' (z + 54) 44 = nI (dc S p d (sM S)) → Q 1 G') : wpX11_findRings (z + 54) p d v3 G0 Q := by
  have hM := hi.1.1
  have hAR : ∀ o ∈ frA, 18 < o ∧ o ≤ 26 := by decide
  have hARg : ∀ x ∈ rgA, x ∈ frA := by decide
  unfold wpX11_findRings
  refine ⟨h0.K, X11_findCounted h0 hi hp (fun Ga fa ma ca => ⟨ma.K, fun Gb eb => ⟨sM S + 1, ?_⟩⟩)⟩
  have fb : fxM (z + 54) frI rgJ frA G0 Gb := by
    have := (fa.mono (SI' := frI) (SJ' := rgJ) (AR' := frA) (fun _ q => nomatch q) (fun _ q => nomatch q) (by decide)).wI 44 0 (by decide)
    rw [← eb] at this
    exact this
  have cb' : cntd (z + 54) Gb S p d (sM S) := fun k hk => by rw [eb, gI_uI, if_neg (by omega)]; exact ca k hk
  have b44 : gI Gb (z + 54) 44 = nI 0 := by rw [eb, gI_uI, if_pos ⟨rfl, rfl⟩]; rfl
  -- the lengths
  have l134 : ∀ (n j : Nat) (G : Wd), j ≤ 10 → j + n = 11 → fxM (z + 54) frI rgJ frA G0 G → cntd (z + 54) G S p d (sM S) → chc z S (cho ch S p d) G → gI G (z + 54) 44 = nI (dc S p d (sM S)) → gI G (z + 54) 29 = nI (j + 1) → mI z (run (mstep S (boC (cho ch S p d))) jstop jst0 (rgL S (opl S p d (sM S)) j)) G → wpX11_findRings_134 Q n (z + 54) v3 G := by
    intro n
    induction n with
    | zero => intro j G le e; omega
    | succ n ih =>
      intro j G le e fx hct hch e44 e29 hI
      have hm := h0.fx fx (by decide) (by decide) hAR
      unfold wpX11_findRings_134 wpX11_findRings_225
      rw [e29]
      refine ⟨hm.K, ifE (fun c => ?_) (fun c => ⟨sM S + 1, ?_⟩)⟩
      · rw [i_lt, nI_toInt (by omega), il10] at c
        have ej : j = 10 := by omega
        subst ej
        rw [hI.1, e44]
        have dl := dc_le S p d (sM S)
        cases cs : (run (mstep S (boC (cho ch S p d))) jstop jst0 (rgL S (opl S p d (sM S)) 10)).1 with
        | true => exact ifN (by decide) (hQ0 G fx (Or.inl cs))
        | false =>
          refine ifP rfl ?_
          subst ev
          cases ch with
          | false => exact ifP rfl (hQ1 G fx cs (fun q => by cases q) hI hch e44)
          | true =>
            refine ifN (fun e => n10 e) (ifE (fun c10 => ?_) (fun c10 => ?_))
            · rw [i_lt, nI_toInt (by omega), il10] at c10
              exact hQ0 G fx (Or.inr ⟨rfl, by omega⟩)
            · rw [i_lt, nI_toInt (by omega), il10] at c10
              exact hQ1 G fx cs (fun _ => by omega) hI hch e44
      · rw [i_lt, nI_toInt (by omega), il10] at c
        refine M_lenloop (cho := cho ch S p d) (len := j + 1) hm hi (by omega) (by omega) hct e29 hch (cho_10 ch S p d) (sM S + 1) 0 _ G (by omega) (by omega) fxM.rf hI (fun G1 f1 I1 => ?_)
        have f1' := fx.up f1 (by decide) (fun _ q => q) hARg
        unfold wpX11_findRings_192
        refine ⟨by rw [f1'.K]; exact h0.K, fun G2 e2 => ?_⟩
        rw [f1.I 29 (by decide), e29, nI_1] at e2
        have f2 : fxM (z + 54) [29] [] [] G1 G2 := by rw [e2]; exact fxM.rf.wI 29 _ (by decide)
        have f2' := f1'.up f2 (by decide) (fun _ q => nomatch q) (fun _ q => nomatch q)
        refine ih (j + 1) G2 (by omega) (by omega) f2' (fun k hk => by rw [f2.AI 20 k (by omega) (fun q => nomatch q), f1.AI 20 k (by omega) (by decide)]; exact hct k hk) (fun k hk => by rw [f2.AI 25 k (by omega) (fun q => nomatch q), f1.AI 25 k (by omega) (by decide)]; exact hch k hk) (by rw [f2.I 44 (by decide), f1.I 44 (by decide)]; exact e44) (by rw [e2, gI_uI, if_pos ⟨rfl, rfl⟩]) ?_
        have I2 := I1.keep f2 (by decide) (by decide) (by decide) (fun q => nomatch q) (fun q => nomatch q)
        rw [show sM S - 0 = sM S by omega, oq_opl, ← run_app] at I2
        exact I2
  -- the sets are cleared
  have l97 : ∀ (n i : Nat) (G : Wd), i ≤ 1024 → i + n = 1025 → fxM (z + 54) frI rgJ frA G0 G → cntd (z + 54) G S p d (sM S) → chc z S (cho ch S p d) G → gI G (z + 54) 44 = nI (dc S p d (sM S)) → (∀ j, j < i → gI G (z + 54 + 24) j = 0) → wpX11_findRings_97 Q n (z + 54) v3 (nI i) G := by
    intro n
    induction n with
    | zero => intro i G le e; omega
    | succ n ih =>
      intro i G le e fx hct hch e44 hz
      have hm := h0.fx fx (by decide) (by decide) hAR
      unfold wpX11_findRings_97
      have il1024 : (1024 : Int32).toInt = 1024 := rfl
      refine ifE (fun c => ⟨hm.K, fun G1 e1 G2 e2 G3 e3 => ⟨11, ?_⟩⟩) (fun c => ⟨hm.K, ?_⟩)
      · rw [i_le, nI_toInt (by omega), il1024] at c
        have f3s : fxM (z + 54) [22, 29, 41] [] [] G G3 := by rw [e3, e2, e1]; exact ((fxM.rf.wI 41 _ (by decide)).wI 22 _ (by decide)).wI 29 _ (by decide)
        have f3 := fx.up f3s (by decide) (fun _ q => nomatch q) (fun _ q => nomatch q)
        refine l134 11 0 G3 (by omega) (by omega) f3 (fun k hk => by rw [f3s.AI 20 k (by omega) (fun q => nomatch q)]; exact hct k hk) (fun k hk => by rw [f3s.AI 25 k (by omega) (fun q => nomatch q)]; exact hch k hk) (by rw [f3s.I 44 (by decide)]; exact e44) (by rw [e3, gI_uI, if_pos ⟨rfl, rfl⟩]; rfl) ⟨?_, fun _ => ⟨?_, fun k hk => ?_⟩⟩
        · rw [e3, gI_uI, if_neg (by omega), e2, gI_uI, if_pos ⟨rfl, rfl⟩]; rfl
        · show gI G3 (z + 54) 41 = 0
          rw [e3, gI_uI, if_neg (by omega), e2, gI_uI, if_neg (by omega), e1, gI_uI, if_pos ⟨rfl, rfl⟩]
        · rw [f3s.AI 24 k (by omega) (fun q => nomatch q)]
          exact ⟨fun _ => rfl, fun _ => hz k (by omega)⟩
      · rw [i_le, nI_toInt (by omega), il1024] at c
        refine hm.2.at 24 42 22 1024 rfl rfl rfl (by omega) (by omega) (vp_in_nI (by omega) (by decide)) (fun G1 e1 x hx => ?_)
        rw [nI_1] at hx; subst hx
        rw [nI_clamp (by omega)] at e1
        have f1s : fxM (z + 54) [] [] [24] G G1 := by rw [e1]; exact fxM.rf.aI 24 _ _ (by decide) (by omega)
        have f1 := fx.up f1s (fun _ q => nomatch q) (fun _ q => nomatch q) (by decide)
        refine ih (i + 1) G1 (by omega) (by omega) f1 (fun k hk => by rw [f1s.AI 20 k (by omega) (by decide)]; exact hct k hk) (fun k hk => by rw [f1s.AI 25 k (by omega) (by decide)]; exact hch k hk) (by rw [f1s.I 44 (fun q => nomatch q)]; exact e44) (fun j hj => ?_)
        rw [e1, gI_uI]
        by_cases q : j = i
        · rw [if_pos ⟨rfl, q⟩]
        · rw [if_neg (fun w => q w.2)]; exact hz j (by omega)
  -- the choices
  have l14 : ∀ (n i : Nat) (G : Wd), i ≤ sM S → i + n = sM S + 1 → fxM (z + 54) frI rgJ frA G0 G → cntd (z + 54) G S p d (sM S) → gI G (z + 54) 44 = nI (dc S p d i) → (∀ k, k < i → gI G (z + 54 + 25) k = (match cho ch S p d k with | none => -1 | some j => nI j)) → wpX11_findRings_14 Q n (z + 54) v3 (nI i) G := by
    intro n
    induction n with
    | zero => intro i G le e; omega
    | succ n ih =>
      intro i G le e fx hct e44 hch
      have hm := h0.fx fx (by decide) (by decide) hAR
      have dl := dc_le S p d i
      unfold wpX11_findRings_14
      refine ⟨hm.K, ?_⟩
      rw [hm.M]
      refine ifE (fun c => ⟨1025, ?_⟩) (fun c => ?_)
      · rw [nI_leI (by omega) (by omega)] at c
        have ei : i = sM S := by omega
        rw [ei] at e44 hch
        exact l97 1025 0 G (by omega) (by omega) fx hct hch e44 (fun j hj => absurd hj (Nat.not_lt_zero _))
      · rw [nI_leI (by omega) (by omega)] at c
        have hk : i < sM S := by omega
        have vi : vp_in (nI i) 24 := vp_in_nI (by omega) (by decide)
        obtain ⟨k25, l25, r25⟩ := hm.2.1.2 25 (by omega) (by omega)
        refine ⟨z + 54 + 25, r25, k25, by rw [l25]; exact vi, fun G1 e1 => ?_⟩
        rw [nI_clamp (by omega)] at e1
        have f1s : fxM (z + 54) [] [] [25] G G1 := by rw [e1]; exact fxM.rf.aI 25 _ _ (by decide) (by omega)
        have f1 := fx.up f1s (fun _ q => nomatch q) (fun _ q => nomatch q) (by decide)
        have m1 := h0.fx f1 (by decide) (by decide) hAR
        have g20 : gI G1 (z + 54 + 20) (nI i).toNatClampNeg = cnt S i p d := by rw [nI_clamp (by omega), f1s.AI 20 i (by omega) (by decide)]; exact hct i hk
        have i44 : gI G1 (z + 54) 44 = nI (dc S p d i) := by rw [f1s.I 44 (fun q => nomatch q)]; exact e44
        have next : ∀ G2, fxM (z + 54) [44] [] [25] G1 G2 → gI G2 (z + 54) 44 = nI (dc S p d (i + 1)) → (∀ k, k ≠ i → gI G2 (z + 54 + 25) k = gI G1 (z + 54 + 25) k) → gI G2 (z + 54 + 25) i = (match cho ch S p d i with | none => -1 | some j => nI j) → wpX11_findRings_88 Q (fun y0 y1 y2 y3 => wpX11_findRings_14 Q n y0 y1 y2 y3) (z + 54) v3 (nI i) G2 := by
          intro G2 f2 q44 qk qi x hx
          rw [nI_1] at hx; subst hx
          refine ih (i + 1) G2 (by omega) (by omega) (f1.up f2 (by decide) (fun _ q => nomatch q) (by decide)) (fun k hk => by rw [f2.AI 20 k (by omega) (by decide), f1s.AI 20 k (by omega) (by decide)]; exact hct k hk) q44 (fun k hk' => ?_)
          by_cases q : k = i
          · rw [q]; exact qi
          · rw [qk k q, e1, gI_uI, if_neg (fun w => q w.2)]; exact hch k (by omega)
        have skip : dck S p d i = false → wpX11_findRings_88 Q (fun y0 y1 y2 y3 => wpX11_findRings_14 Q n y0 y1 y2 y3) (z + 54) v3 (nI i) G1 := by
          intro hd
          refine next G1 fxM.rf (by rw [i44, dc_s, hd]; rfl) (fun _ _ => rfl) ?_
          rw [e1, gI_uI, if_pos ⟨rfl, rfl⟩, show cho ch S p d i = none by unfold cho; rw [hd, Bool.and_false]; rfl]
        refine m1.2.at 20 26 22 24 rfl rfl rfl (by omega) (by omega) vi ?_
        rw [g20]
        refine ifE (fun cz => skip (decide_eq_false (fun q => q.1 cz))) (fun cz => ?_)
        have nvi := nv_nI (n := i) (by omega)
        refine X11_isDoubtful m1 ⟨by rw [nI_toInt (by omega)]; omega, by rw [nI_toInt (by omega)]; omega⟩ (fun hd => ifN (fun e => n10 e) ⟨m1.K, z + 54 + 25, by rw [f1s.R]; exact r25, ?_⟩) (fun hd => ifP rfl (skip (decide_eq_false (fun q => hd (by rw [nvi]; exact q.2)))))
        rw [nvi] at hd
        have hdk : dck S p d i = true := decide_eq_true ⟨cz, hd⟩
        have s77 : ∀ v : Int32, v = (match cho ch S p d i with | none => -1 | some j => nI j) → wpX11_findRings_77 Q (fun y0 y1 y2 y3 => wpX11_findRings_14 Q n y0 y1 y2 y3) (z + 54) v3 (nI i) (z + 54 + 25) (nI i) v G1 := by
          intro v hv
          unfold wpX11_findRings_77
          refine ⟨by rw [f1s.K]; exact k25, by rw [f1s.N, l25]; exact vi, fun G2 e2 => ⟨by rw [e2, gK_uI]; exact m1.K, fun G3 e3 => ?_⟩⟩
          rw [nI_clamp (by omega)] at e2
          have j44 : gI G2 (z + 54) 44 = nI (dc S p d i) := by rw [e2, gI_uI, if_neg (by omega)]; exact i44
          rw [j44, nI_1] at e3
          refine next G3 (by rw [e3, e2]; exact (fxM.rf.aI 25 _ _ (by decide) (by omega)).wI 44 _ (by decide)) (by rw [e3, gI_uI, if_pos ⟨rfl, rfl⟩, dc_s, hdk]; rfl) (fun k q => by rw [e3, gI_uI, if_neg (by omega), e2, gI_uI, if_neg (fun w => q w.2)]) ?_
          rw [e3, gI_uI, if_neg (by omega), e2, gI_uI, if_pos ⟨rfl, rfl⟩]
          exact hv
        subst ev
        cases ch with
        | false => exact ifP rfl (s77 (-1) (by rw [show cho false S p d i = none from rfl]))
        | true =>
          rw [i44]
          refine ifN (fun e => n10 e) (ifE (fun c10 => ?_) (fun c10 => ?_))
          · rw [i_le, nI_toInt (by omega), il10] at c10
            refine s77 (-1) ?_
            rw [show cho true S p d i = none by unfold cho; rw [decide_eq_false (show ¬ dc S p d i < 10 by omega), Bool.and_false]; rfl]
          · rw [i_le, nI_toInt (by omega), il10] at c10
            refine s77 _ ?_
            rw [show cho true S p d i = some (dc S p d i) by unfold cho; rw [hdk, decide_eq_true (show dc S p d i < 10 by omega), decide_eq_true hk]; rfl]
  exact l14 (sM S + 1) 0 Gb (by omega) (by omega) fb cb' b44 (fun k hk => absurd hk (Nat.not_lt_zero _))
