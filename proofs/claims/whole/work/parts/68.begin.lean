/-! ===== rings: begin, findRings ===== -/
def rx1 (S : St) (j k : Nat) (t : Bool) (ld : List Nat) : List (List Nat) := dfx S (if t then tt S k else fr S k) ld (j - 1) (if t then fr S k else tt S k) [if t then fr S k else tt S k] [if t then k + 100 else k]
def rgx (S : St) (j : Nat) : List Nat → List (List Nat)
  | [] => []
  | k :: l => rx1 S j k false l ++ (rx1 S j k true l ++ rgx S j l)
def rgL (S : St) (l : List Nat) : Nat → List (List Nat)
  | 0 => []
  | j + 1 => rgL S l j ++ rgx S (j + 1) l
theorem X11_begin {z len k : Nat} {G0 : Wd} {T S : St} {p d : Int32} {cho : Nat → Option Nat} {t : Bool} {tv : Int32} {s : Jst} {Q : Wd → Prop} (h0 : mid z G0 T S) (hi : Inv S) (hl1 : 1 ≤ len) (hlen : len ≤ 10) (hc : cntd (z + 54) G0 S p d (sM S)) (e29 : gI G0 (z + 54) 29 = nI len) (hch : chc z S cho G0) (hc10 : ∀ k i, cho k = some i → i < 10) (hk : k < sM S) (et : tv = if t then 1 else 0) (hI : mI z s G0)
    (hQ : ∀ G', fxM (z + 54) rgI rgJ rgA G0 G' → mI z (run (mstep S (boC cho)) jstop s (rx1 S len k t (oq S p d (k + 1) (sM S - (k + 1))))) G' → Q G') : wpX11_begin (z + 54) (nI k) tv G0 Q := by
  have hM := hi.1.1
  have hAR : ∀ o ∈ rgA, 18 < o ∧ o ≤ 26 := by decide
  obtain ⟨q3, q4, w3, w4⟩ := fr_rng hi hk
  have vi : vp_in (nI k) 24 := vp_in_nI (by omega) (by decide)
  have a10 : (if t then fr S k else tt S k) < 10 := by split <;> assumption
  have b10 : (if t then tt S k else fr S k) < 10 := by split <;> assumption
  have rk : rok (sM S) [if t then k + 100 else k] := fun x hx => by
    rw [List.mem_singleton.mp hx]
    split <;> omega
  have b17 : wpX11_begin_17 Q (z + 54) (nI k) tv (z + 54 + 22) 0 (nI (if t then k + 100 else k)) G0 := by
    obtain ⟨k22, l22, r22⟩ := h0.2.1.2 22 (by omega) (by omega)
    obtain ⟨k21, l21, r21⟩ := h0.2.1.2 21 (by omega) (by omega)
    unfold wpX11_begin_17
    refine ⟨k22, by rw [l22]; unfold vp_in; decide, fun G1 e1 => ?_⟩
    have e1' : G1 = uI G0 (z + 54 + 22) 0 (nI (if t then k + 100 else k)) := e1
    have f1 : fxM (z + 54) rgI rgJ rgA G0 G1 := by rw [e1']; exact fxM.rf.aI 22 _ _ (by decide) (by omega)
    have f1s : fxM (z + 54) [] [] [21, 22] G0 G1 := by rw [e1']; exact fxM.rf.aI 22 _ _ (by decide) (by omega)
    have m1 := h0.fx f1 (by decide) (by decide) hAR
    have I1 := hI.keep f1s (fun q => nomatch q) (fun q => nomatch q) (fun q => nomatch q) (by decide) (by decide)
    have c1 : cel G1 (z + 54 + 22) [if t then k + 100 else k] := fun i hi' => by
      have e0 : i = 0 := by have : i < 1 := hi'; omega
      subst e0
      rw [e1', gI_uI, if_pos ⟨rfl, rfl⟩]; rfl
    have e291 : gI G1 (z + 54) 29 = nI len := by rw [f1.I 29 (by decide)]; exact e29
    have g3 : ∀ G', fxM (z + 54) rgI rgJ rgA G0 G' → gI G' (z + 54 + 3) (nI k).toNatClampNeg = nI (fr S k) := fun G' f' => by rw [nI_clamp (by omega), (h0.fx f' (by decide) (by decide) hAR).I 3 k (by omega) (by omega) (by show k < 24; omega)]; exact w3
    have g4 : ∀ G', fxM (z + 54) rgI rgJ rgA G0 G' → gI G' (z + 54 + 4) (nI k).toNatClampNeg = nI (tt S k) := fun G' f' => by rw [nI_clamp (by omega), (h0.fx f' (by decide) (by decide) hAR).I 4 k (by omega) (by omega) (by show k < 24; omega)]; exact w4
    refine ⟨m1.K, m1.2.at 3 3 20 24 rfl rfl rfl (by omega) (by omega) vi ?_⟩
    refine m1.2.at 4 4 20 24 rfl rfl rfl (by omega) (by omega) vi ?_
    rw [g3 G1 f1, g4 G1 f1]
    refine ifE (fun ce => ?_) (fun ce => ⟨z + 54 + 21, by rw [f1.R]; exact r21, ?_⟩)
    · rw [nI_eqI (by omega) (by omega)] at ce
      have eab : (if t then fr S k else tt S k) = (if t then tt S k else fr S k) := by split <;> omega
      refine ifE (fun c => ?_) (fun c => ?_)
      · rw [e291] at c
        have c' : nI len = nI 1 := c
        rw [nI_eqI (by omega) (by omega)] at c'
        have eR : rx1 S len k t (oq S p d (k + 1) (sM S - (k + 1))) = [[if t then k + 100 else k]] := by
          unfold rx1
          rw [c']
          show dfx S _ _ 0 _ _ _ = _
          unfold dfx; exact if_pos eab
        rw [eR] at hQ
        refine ring_visit m1 hi c1 e291 (by rw [c']; rfl) hl1 hlen rk (fun k' hk' => by rw [f1.AI 25 k' (by omega) (by decide)]; exact hch k' hk') hc10 I1 (fun G2 f2 I2 => ?_)
        exact hQ G2 (f1.up f2 (fun _ q => q) (fun _ q => q) (by decide)) I2
      · rw [e291] at c
        have c' : len ≠ 1 := fun q => c (by rw [q]; rfl)
        have eR : rx1 S len k t (oq S p d (k + 1) (sM S - (k + 1))) = [] := by
          unfold rx1
          rw [eab, show len - 1 = (len - 2) + 1 by omega]
          exact dfx_ab _ _ _ _ _ _
        rw [eR] at hQ
        exact hQ G1 f1 I1
    · rw [nI_eqI (by omega) (by omega)] at ce
      have nab : (if t then fr S k else tt S k) ≠ (if t then tt S k else fr S k) := by split <;> omega
      have b95 : ∀ G2, G2 = uI G1 (z + 54 + 21) 0 (nI (if t then tt S k else fr S k)) → wpX11_begin_95 Q (z + 54) (nI k) (z + 54 + 21) 1 (nI (if t then fr S k else tt S k)) G2 := by
        intro G2 e2
        unfold wpX11_begin_95
        refine ⟨by rw [e2, gK_uI, f1.K]; exact k21, by rw [e2, gN_uI, f1.N, l21]; unfold vp_in; decide, fun G3 e3 => ?_⟩
        have e3' : G3 = uI G2 (z + 54 + 21) 1 (nI (if t then fr S k else tt S k)) := e3
        have f3s : fxM (z + 54) [] [] [21, 22] G1 G3 := by rw [e3', e2]; exact (fxM.rf.aI 21 _ _ (by decide) (by omega)).aI 21 _ _ (by decide) (by omega)
        have f3 := f1.up f3s (fun _ q => nomatch q) (fun _ q => nomatch q) (by decide)
        have m3 := h0.fx f3 (by decide) (by decide) hAR
        have I3 := I1.keep f3s (fun q => nomatch q) (fun q => nomatch q) (fun q => nomatch q) (by decide) (by decide)
        have e293 : gI G3 (z + 54) 29 = nI len := by rw [f3.I 29 (by decide)]; exact e29
        rw [e293]
        refine ⟨m3.K, ifE (fun c => ?_) (fun c => ?_)⟩
        · rw [i_le, nI_toInt (by omega), il1] at c
          have eR : rx1 S len k t (oq S p d (k + 1) (sM S - (k + 1))) = [] := by
            unfold rx1
            rw [show len - 1 = 0 by omega]
            unfold dfx; exact if_neg nab
          rw [eR] at hQ
          exact hQ G3 f3 I3
        · rw [i_le, nI_toInt (by omega), il1] at c
          have c21 : cel G3 (z + 54 + 21) ((if t then tt S k else fr S k) :: ([] ++ [if t then fr S k else tt S k])) := fun i hi' => by
            have h2 : i < 2 := hi'
            rcases (show i = 0 ∨ i = 1 by omega) with q | q
            · subst q
              rw [e3', gI_uI, if_neg (by omega), e2, gI_uI, if_pos ⟨rfl, rfl⟩]; rfl
            · subst q
              rw [e3', gI_uI, if_pos ⟨rfl, rfl⟩]; rfl
          have c22 : cel G3 (z + 54 + 22) [if t then k + 100 else k] := c1.same (fun j => by rw [e3', gI_uI, if_neg (by omega), e2, gI_uI, if_neg (by omega)])
          have key := X11_round (p := p) (d := d) (cho := cho) m3 hi b10 hlen (fun i hi' => by rw [f3.AI 20 i (by omega) (by decide)]; exact hc i hi') e293 (fun k' hk' => by rw [f3.AI 25 k' (by omega) (by decide)]; exact hch k' hk') hc10 hk (len - 2) 12 (if t then fr S k else tt S k) [] [if t then k + 100 else k] s G3 Q (by omega) a10 (by show 1 + (len - 2 + 1) = len; omega) rfl (fun x hx => nomatch hx) (fun q => nab (List.mem_singleton.mp q).symm) rk (fun x hx => Or.inl (by rw [List.mem_singleton.mp hx]; split <;> omega)) fxM.rf I3 c21 c22 (fun G4 f4 I4 _ _ => hQ G4 (f3.tr f4) (by
              unfold rx1
              rw [show len - 1 = len - 2 + 1 by omega]
              exact I4))
          have e11 : nI ([if t then k + 100 else k] : List Nat).length = 1 := rfl
          rw [e11] at key
          exact key
      have b70 : wpX11_begin_70 Q (z + 54) (nI k) tv (z + 54 + 21) 0 (nI (if t then tt S k else fr S k)) G1 := by
        unfold wpX11_begin_70
        refine ⟨by rw [f1.K]; exact k21, by rw [f1.N, l21]; unfold vp_in; decide, fun G2 e2 => ?_⟩
        have e2' : G2 = uI G1 (z + 54 + 21) 0 (nI (if t then tt S k else fr S k)) := e2
        have f2 : fxM (z + 54) rgI rgJ rgA G0 G2 := by rw [e2']; exact f1.aI 21 _ _ (by decide) (by omega)
        have m2 := h0.fx f2 (by decide) (by decide) hAR
        refine ⟨m2.K, z + 54 + 21, by rw [f2.R]; exact r21, ?_⟩
        have k95 := b95 G2 e2'
        subst et
        cases t with
        | false =>
          refine ifP rfl (m2.2.at 4 4 20 24 rfl rfl rfl (by omega) (by omega) vi ?_)
          rw [g4 G2 f2]
          exact k95
        | true =>
          refine ifN (fun e => n10 e) (m2.2.at 3 3 20 24 rfl rfl rfl (by omega) (by omega) vi ?_)
          rw [g3 G2 f2]
          exact k95
      subst et
      cases t with
      | false =>
        refine ifP rfl (m1.2.at 3 3 20 24 rfl rfl rfl (by omega) (by omega) vi ?_)
        rw [g3 G1 f1]
        exact b70
      | true =>
        refine ifN (fun e => n10 e) (m1.2.at 4 4 20 24 rfl rfl rfl (by omega) (by omega) vi ?_)
        rw [g4 G1 f1]
        exact b70
  unfold wpX11_begin
  refine ⟨h0.K, z + 54 + 22, (h0.2.1.2 22 (by omega) (by omega)).2.2, ?_⟩
  subst et
  cases t with
  | false => exact ifP rfl b17
  | true =>
    refine ifN (fun e => n10 e) ?_
    rw [show (100 : Int32) + nI k = nI (k + 100) by rw [show (100 : Int32) = nI 100 from rfl, nI_add, Nat.add_comm]]
    exact b17
theorem M_lenloop {z len : Nat} {G0 : Wd} {T S : St} {p d v3 : Int32} {cho : Nat → Option Nat} {Q : Int32 → Wd → Prop} {k134 : Nat → Int32 → Wd → Prop} (h0 : mid z G0 T S) (hi : Inv S) (hl1 : 1 ≤ len) (hlen : len ≤ 10) (hc : cntd (z + 54) G0 S p d (sM S)) (e29 : gI G0 (z + 54) 29 = nI len) (hch : chc z S cho G0) (hc10 : ∀ k i, cho k = some i → i < 10) (n : Nat) : ∀ (i : Nat) (s : Jst) (G : Wd), i ≤ sM S → i + n = sM S + 1 → fxM (z + 54) rgI rgJ rgA G0 G → mI z s G → (∀ G', fxM (z + 54) rgI rgJ rgA G0 G' → mI z (run (mstep S (boC cho)) jstop s (rgx S len (oq S p d i (sM S - i)))) G' → wpX11_findRings_192 Q k134 (z + 54) v3 G') → wpX11_findRings_146 Q k134 n (z + 54) v3 (nI i) G := by
  have hM := hi.1.1
  have hAR : ∀ o ∈ rgA, 18 < o ∧ o ≤ 26 := by decide
  induction n with
  | zero => intro i s G le e; omega
  | succ n ih =>
    intro i s G le e fx hI hQ
    have hm := h0.fx fx (by decide) (by decide) hAR
    unfold wpX11_findRings_146
    refine ⟨hm.K, ?_⟩
    rw [hm.M]
    refine ifE (fun c => ?_) (fun c => ifE (fun c22 => ?_) (fun c22 => ?_))
    · rw [nI_leI (by omega) (by omega)] at c
      rw [show sM S - i = 0 by omega] at hQ
      exact hQ G fx hI
    · rw [nI_leI (by omega) (by omega)] at c
      have hk : i < sM S := by omega
      rw [show sM S - i = (sM S - (i + 1)) + 1 by omega, oq_s] at hQ
      have g20 : gI G (z + 54 + 20) (nI i).toNatClampNeg = cnt S i p d := by rw [nI_clamp (by omega), fx.AI 20 i (by omega) (by decide)]; exact hc i hk
      refine hm.2.at 20 26 22 24 rfl rfl rfl (by omega) (by omega) (vp_in_nI (by omega) (by decide)) ?_
      rw [g20]
      refine ifE (fun cz x hx => ?_) (fun cz => ?_)
      · rw [nI_1] at hx; subst hx
        rw [if_pos cz, List.nil_append] at hQ
        exact ih (i + 1) s G (by omega) (by omega) fx hI hQ
      · rw [if_neg cz, show ([i] : List Nat) ++ oq S p d (i + 1) (sM S - (i + 1)) = i :: oq S p d (i + 1) (sM S - (i + 1)) from rfl] at hQ
        have eR : rgx S len (i :: oq S p d (i + 1) (sM S - (i + 1))) = rx1 S len i false (oq S p d (i + 1) (sM S - (i + 1))) ++ (rx1 S len i true (oq S p d (i + 1) (sM S - (i + 1))) ++ rgx S len (oq S p d (i + 1) (sM S - (i + 1)))) := rfl
        rw [eR, run_app, run_app] at hQ
        have ctd : ∀ G', fxM (z + 54) rgI rgJ rgA G0 G' → cntd (z + 54) G' S p d (sM S) := fun G' f' j hj => by rw [f'.AI 20 j (by omega) (by decide)]; exact hc j hj
        have chd : ∀ G', fxM (z + 54) rgI rgJ rgA G0 G' → chc z S cho G' := fun G' f' j hj => by rw [f'.AI 25 j (by omega) (by decide)]; exact hch j hj
        refine X11_begin (t := false) (cho := cho) hm hi hl1 hlen (ctd G fx) (by rw [fx.I 29 (by decide)]; exact e29) (chd G fx) hc10 hk rfl hI (fun G1 f1 I1 => ?_)
        have f1' := fx.tr f1
        have m1 := h0.fx f1' (by decide) (by decide) hAR
        refine ⟨m1.K, ?_⟩
        refine X11_begin (t := true) (cho := cho) m1 hi hl1 hlen (ctd G1 f1') (by rw [f1'.I 29 (by decide)]; exact e29) (chd G1 f1') hc10 hk rfl I1 (fun G2 f2 I2 x hx => ?_)
        rw [nI_1] at hx; subst hx
        exact ih (i + 1) _ G2 (by omega) (by omega) (f1'.tr f2) I2 hQ
    · have hs : jstop s = true := by
        cases q : jstop s with
        | true => rfl
        | false => exact absurd (by rw [hI.1, show s.1 = false from q]; rfl) c22
      rw [run_stop hs] at hQ
      exact hQ G fx hI
