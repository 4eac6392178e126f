/-! ===== span: the reference ===== -/
def spF (z : Nat) (S : St) (h : List (List Nat)) (G : Wd) : Prop := ∃ u v, bst fltB (plr S false) h u ∧ bst gtB (plr S true) h v ∧ gJ G (z + 54) 37 = u.1 ∧ gJ G (z + 54) 38 = u.2 ∧ gJ G (z + 54) 39 = v.1 ∧ gJ G (z + 54) 40 = v.2
def IS (z : Nat) (S : St) (h : List (List Nat)) (G : Wd) : Prop := (gI G (z + 54) 31 = -1 ∧ gI G (z + 54) 35 = 1) ∧ (h.length ≤ 1000000000 → gI G (z + 54) 30 = nI h.length ∧ gI G (z + 54) 34 = 0) ∧ gI G (z + 54) 36 = (if h.isEmpty then 0 else 1) ∧ (gI G (z + 54) 22 = 1 ∧ (∃ r ∈ h, bad S r) ∨ gI G (z + 54) 22 = 0 ∧ (∀ r ∈ h, ¬ bad S r) ∧ (h.isEmpty = false → spF z S h G)) ∧ ∀ r ∈ h, rok (sM S) r
theorem spF.same {z : Nat} {S : St} {h : List (List Nat)} {G G' : Wd} (hs : spF z S h G) (e : ∀ j, 37 ≤ j → j ≤ 40 → gJ G' (z + 54) j = gJ G (z + 54) j) : spF z S h G' := by
  obtain ⟨u, v, a, b, c1, c2, c3, c4⟩ := hs
  exact ⟨u, v, a, b, by rw [e 37 (by omega) (by omega)]; exact c1, by rw [e 38 (by omega) (by omega)]; exact c2, by rw [e 39 (by omega) (by omega)]; exact c3, by rw [e 40 (by omega) (by omega)]; exact c4⟩
theorem IS_st {z : Nat} {S : St} (h : List (List Nat)) (G G' : Wd) (hI : IS z S h G) (f : fxM (z + 54) [29] [] [21, 22] G G') : IS z S h G' := by
  obtain ⟨⟨a1, a2⟩, a3, a4, a5, a6⟩ := hI
  refine ⟨⟨by rw [f.I 31 (by decide)]; exact a1, by rw [f.I 35 (by decide)]; exact a2⟩, fun q => ⟨by rw [f.I 30 (by decide)]; exact (a3 q).1, by rw [f.I 34 (by decide)]; exact (a3 q).2⟩, by rw [f.I 36 (by decide)]; exact a4, ?_, a6⟩
  rw [f.I 22 (by decide)]
  rcases a5 with w | ⟨w1, w2, w3⟩
  · exact Or.inl w
  · exact Or.inr ⟨w1, w2, fun q => (w3 q).same (fun j _ _ => f.J j (fun q => nomatch q))⟩
theorem IS_visit {z : Nat} {T S : St} (hi : Inv S) (len : Nat) (h : List (List Nat)) (pre : List Nat) (G : Wd) (Q : Wd → Prop) (rec : Nat → Int32 → Int32 → Wd → (Wd → Prop) → Prop) (h9 : len ≤ 9) (hm : mid z G T S) (e29 : gI G (z + 54) 29 = nI len) (hI : IS z S h G) (cp : cel G (z + 54 + 22) pre) (hp : pre.length = len) (hr : rok (sM S) pre) (hQ : ∀ G', fxM (z + 54) goSI goSJ [19, 23] G G' → IS z S (h ++ [pre]) G' → Q G') : (if (gI G (z + 54) 30) = (gI G (z + 54) 31) then (∀ G93 : Wd, G93 = uI G (z + 54) 34 1 → ∀ G95 : Wd, G95 = uI G93 (z + 54) 33 (nI len) → ∃ m, wpX11_go_41 rec Q m (z + 54) (nI len) 0 G95) else (wpX11_go_64 rec Q (z + 54) G)) := by
  obtain ⟨⟨a1, a2⟩, a3, a4, a5, a6⟩ := hI
  have el : (h ++ [pre]).length = h.length + 1 := by rw [List.length_append]; rfl
  have mp : pre ∈ h ++ [pre] := List.mem_append.mpr (Or.inr (List.mem_singleton.mpr rfl))
  have a6' : ∀ r ∈ h ++ [pre], rok (sM S) r := fun r hr' => by
    rcases List.mem_append.mp hr' with q | q
    · exact a6 r q
    · rw [List.mem_singleton.mp q]; exact hr
  have go64 : ∀ G1, fxM (z + 54) [33, 34] [] [23] G G1 → (h.length + 1 ≤ 1000000000 → gI G1 (z + 54) 34 = 0) → wpX11_go_64 rec Q (z + 54) G1 := by
    intro G1 f1 e34
    have f1' : fxM (z + 54) goSI goSJ [19, 23] G G1 := f1.mono (by decide) (fun _ q => nomatch q) (by decide)
    have m1 := hm.fx f1' (by decide) (by decide) (by decide)
    have c1 : cel G1 (z + 54 + 22) pre := cp.same (fun j => f1.AI 22 j (by omega) (by decide))
    have b29 : gI G1 (z + 54) 29 = nI len := by rw [f1.I 29 (by decide)]; exact e29
    have b36 : gI G1 (z + 54) 36 = (if h.isEmpty then 0 else 1) := by rw [f1.I 36 (by decide)]; exact a4
    have b5 : gI G1 (z + 54) 22 = 1 ∧ (∃ r ∈ h, bad S r) ∨ gI G1 (z + 54) 22 = 0 ∧ (∀ r ∈ h, ¬ bad S r) ∧ (h.isEmpty = false → spF z S h G1) := by
      rw [f1.I 22 (by decide)]
      rcases a5 with w | ⟨w1, w2, w3⟩
      · exact Or.inl w
      · exact Or.inr ⟨w1, w2, fun q => (w3 q).same (fun j _ _ => f1.J j (fun q => nomatch q))⟩
    -- the end
    have w118 : ∀ G5, fxM (z + 54) [22] goSJ [] G1 G5 → (gI G5 (z + 54) 22 = 1 ∧ (∃ r ∈ h ++ [pre], bad S r) ∨ gI G5 (z + 54) 22 = 0 ∧ (∀ r ∈ h ++ [pre], ¬ bad S r) ∧ spF z S (h ++ [pre]) G5) → wpX11_widen_118 (fun G72 => wpX11_go_75 rec Q (z + 54) G72) (z + 54) G5 := by
      intro G5 f5 hE
      have f5' := f1'.up f5 (by decide) (fun _ q => q) (fun _ q => nomatch q)
      unfold wpX11_widen_118
      refine ⟨by rw [f5'.K]; exact hm.K, fun G6 e6 => ?_⟩
      show gK G6 (z + 54) = 11 ∧ ∀ G69 : Wd, G69 = uI G6 (z + 54) 30 ((gI G6 (z + 54) 30) + 1) → Q G69
      have f6 : fxM (z + 54) goSI goSJ [19, 23] G G6 := by rw [e6]; exact f5'.wI 36 _ (by decide)
      refine ⟨by rw [f6.K]; exact hm.K, fun G7 e7 => ?_⟩
      have g7 : ∀ j, j ≠ 30 → j ≠ 36 → gI G7 (z + 54) j = gI G5 (z + 54) j := fun j q1 q2 => by rw [e7, gI_uI, if_neg (by omega), e6, gI_uI, if_neg (by omega)]
      have h7 : ∀ j, j ≠ 30 → j ≠ 36 → j ≠ 22 → gI G7 (z + 54) j = gI G1 (z + 54) j := fun j q1 q2 q3 => by rw [g7 j q1 q2, f5.I j (fun q => q3 (List.mem_singleton.mp q))]
      have j7 : ∀ j, gJ G7 (z + 54) j = gJ G5 (z + 54) j := fun j => by rw [e7, gJ_uI, e6, gJ_uI]
      refine hQ G7 (by rw [e7]; exact f6.wI 30 _ (by decide)) ⟨⟨?_, ?_⟩, fun q => ⟨?_, ?_⟩, ?_, ?_, a6'⟩
      · rw [h7 31 (by omega) (by omega) (by omega), f1.I 31 (by decide)]; exact a1
      · rw [h7 35 (by omega) (by omega) (by omega), f1.I 35 (by decide)]; exact a2
      · rw [el] at q ⊢
        have e30 : gI G6 (z + 54) 30 = nI h.length := by rw [e6, gI_uI, if_neg (by omega), f5.I 30 (by decide), f1.I 30 (by decide)]; exact (a3 (by omega)).1
        rw [e7, gI_uI, if_pos ⟨rfl, rfl⟩, e30, nI_1]
      · rw [el] at q
        rw [h7 34 (by omega) (by omega) (by omega)]; exact e34 q
      · have : (h ++ [pre]).isEmpty = false := by cases h <;> rfl
        rw [this, e7, gI_uI, if_neg (by omega), e6, gI_uI, if_pos ⟨rfl, rfl⟩]; rfl
      · rw [g7 22 (by omega) (by omega)]
        rcases hE with w | ⟨w1, w2, w3⟩
        · exact Or.inl w
        · exact Or.inr ⟨w1, w2, fun _ => w3.same (fun j _ _ => j7 j)⟩
    have w102 : ∀ G5, fxM (z + 54) [22] goSJ [] G1 G5 → (gI G5 (z + 54) 22 = 1 ∧ (∃ r ∈ h ++ [pre], bad S r) ∨ gI G5 (z + 54) 22 = 0 ∧ (∀ r ∈ h ++ [pre], ¬ bad S r) ∧ ∃ u v, bst fltB (plr S false) (h ++ [pre]) u ∧ bst gtB (plr S true) (h ++ [pre]) v ∧ gJ G5 (z + 54) 37 = u.1 ∧ gJ G5 (z + 54) 38 = u.2 ∧ gJ G5 (z + 54) 20 = v.1 ∧ gJ G5 (z + 54) 21 = v.2) → wpX11_widen_102 (fun G72 => wpX11_go_75 rec Q (z + 54) G72) (z + 54) G5 := by
      intro G5 f5 hE
      have f5' := f1'.up f5 (by decide) (fun _ q => q) (fun _ q => nomatch q)
      unfold wpX11_widen_102
      refine ⟨by rw [f5'.K]; exact hm.K, fun G6 e6 G7 e7 => w118 G7 (by rw [e7, e6]; exact (f5.wJ 39 _ (by decide)).wJ 40 _ (by decide)) ?_⟩
      have i22 : gI G7 (z + 54) 22 = gI G5 (z + 54) 22 := by rw [e7, gI_uJ, e6, gI_uJ]
      rw [i22]
      rcases hE with w | ⟨w1, w2, u, v, b1, b2, j1, j2, j3, j4⟩
      · exact Or.inl w
      · refine Or.inr ⟨w1, w2, u, v, b1, b2, ?_, ?_, ?_, ?_⟩
        · rw [e7, gJ_uJ, if_neg (by omega), e6, gJ_uJ, if_neg (by omega)]; exact j1
        · rw [e7, gJ_uJ, if_neg (by omega), e6, gJ_uJ, if_neg (by omega)]; exact j2
        · rw [e7, gJ_uJ, if_neg (by omega), e6, gJ_uJ, if_pos ⟨rfl, rfl⟩]; exact j3
        · rw [e7, gJ_uJ, if_pos ⟨rfl, rfl⟩, e6, gJ_uJ, if_neg (by omega)]; exact j4
    have w59 : ∀ G3, fxM (z + 54) [22] goSJ [] G1 G3 → (gI G3 (z + 54) 22 = 1 ∧ (∃ r ∈ h ++ [pre], bad S r) ∨ gI G3 (z + 54) 22 = 0 ∧ (∀ r ∈ h, ¬ bad S r) ∧ ∃ u0 u, plr S false pre = some u0 ∧ bst fltB (plr S false) (h ++ [pre]) u ∧ gJ G3 (z + 54) 37 = u.1 ∧ gJ G3 (z + 54) 38 = u.2 ∧ (h.isEmpty = false → ∃ v, bst gtB (plr S true) h v ∧ gJ G3 (z + 54) 39 = v.1 ∧ gJ G3 (z + 54) 40 = v.2)) → wpX11_widen_59 (fun G72 => wpX11_go_75 rec Q (z + 54) G72) (z + 54) G3 := by
      intro G3 f3 hE
      have f3' := f1'.up f3 (by decide) (fun _ q => q) (fun _ q => nomatch q)
      have m3 := hm.fx f3' (by decide) (by decide) (by decide)
      have c3 : cel G3 (z + 54 + 22) pre := c1.same (fun j => f3.AI 22 j (by omega) (fun q => nomatch q))
      have large : ∀ G4, fxM (z + 54) [22] goSJ [] G1 G4 → gI G4 (z + 54) 22 = 1 → (∃ r ∈ h ++ [pre], bad S r) → (gK G4 (z + 54) = 11 ∧ if (gI G4 (z + 54) 36) = 0 then (wpX11_widen_102 (fun G72 => wpX11_go_75 rec Q (z + 54) G72) (z + 54) G4) else (wpX11_isLess (z + 54) (gJ G4 (z + 54) 39) (gJ G4 (z + 54) 40) (gJ G4 (z + 54) 20) (gJ G4 (z + 54) 21) G4 (fun r13 G14 => if r13 = 0 then (wpX11_widen_118 (fun G72 => wpX11_go_75 rec Q (z + 54) G72) (z + 54) G14) else (wpX11_widen_102 (fun G72 => wpX11_go_75 rec Q (z + 54) G72) (z + 54) G14)))) := by
        intro G4 f4 e4 hb
        have k4 : gK G4 (z + 54) = 11 := by rw [f4.K, f1.K]; exact hm.K
        refine ⟨k4, ifE (fun _ => w102 G4 f4 (Or.inl ⟨e4, hb⟩)) (fun _ => X11_lessA k4 (fun r G5 f5 => ?_))⟩
        have f5' := f4.up f5 (fun _ q => nomatch q) (by decide) (fun _ q => nomatch q)
        have e5 : gI G5 (z + 54) 22 = 1 := by rw [f5.I 22 (fun q => nomatch q)]; exact e4
        exact ifE (fun _ => w118 G5 f5' (Or.inl ⟨e5, hb⟩)) (fun _ => w102 G5 f5' (Or.inl ⟨e5, hb⟩))
      unfold wpX11_widen_59
      refine ⟨m3.K, z + 54 + 22, (m3.2.1.2 22 (by omega) (by omega)).2.2, ?_⟩
      refine X11_productR (e := true) m3 hi (Or.inl rfl) (by omega) c3 hr (by rw [f3.I 29 (by decide), b29, hp]) rfl (fun q G4 f4 => ?_) (fun q v hv G4 f4 j20 j21 => ?_) (fun q hv G4 f4 i4 => ?_) ?_
      · refine large G4 (f3.up f4 (fun _ q => nomatch q) (by decide) (fun _ q => nomatch q)) (by rw [f4.I 22 (fun q => nomatch q)]; exact q) ?_
        rcases hE with w | w
        · exact w.2
        · rw [w.1] at q; exact absurd q (by decide)
      · rcases hE with w | ⟨w1, w2, u0, u, p0, bu, k37, k38, hx⟩
        · rw [w.1] at q; exact absurd q (by decide)
        · have f4' := f3.up f4 (fun _ q => nomatch q) (by decide) (fun _ q => nomatch q)
          have e22 : gI G4 (z + 54) 22 = 0 := by rw [f4.I 22 (fun q => nomatch q)]; exact q
          have k4 : gK G4 (z + 54) = 11 := by rw [f4.K]; exact m3.K
          have nb : ∀ r ∈ h ++ [pre], ¬ bad S r := fun r hr' => by
            rcases List.mem_append.mp hr' with w | w
            · exact w2 r w
            · rw [List.mem_singleton.mp w]
              intro x
              rcases x with x | x
              · rw [p0] at x; cases x
              · rw [hv] at x; cases x
          have q37 : gJ G4 (z + 54) 37 = u.1 := by rw [f4.J 37 (by decide)]; exact k37
          have q38 : gJ G4 (z + 54) 38 = u.2 := by rw [f4.J 38 (by decide)]; exact k38
          refine ⟨k4, ?_⟩
          rw [f4'.I 36 (by decide), b36]
          cases eh : h.isEmpty with
          | true =>
            have h0 : h = [] := List.isEmpty_iff.mp eh
            refine ifP rfl (w102 G4 f4' (Or.inr ⟨e22, nb, u, v, bu, ?_, q37, q38, j20, j21⟩))
            rw [h0]
            exact bst_one (lt := gtB) flt_irr hv
          | false =>
            obtain ⟨w, bw, k39, k40⟩ := hx eh
            have gw : gdF w := by
              obtain ⟨⟨r0, m0, e0⟩, _⟩ := bw
              exact plr_gd hi (a6 r0 m0) e0
            have gv : gdF v := plr_gd hi hr hv
            have q39 : gJ G4 (z + 54) 39 = w.1 := by rw [f4.J 39 (by decide)]; exact k39
            have q40 : gJ G4 (z + 54) 40 = w.2 := by rw [f4.J 40 (by decide)]; exact k40
            have bn := bst_snoc (lt := gtB) (f := plr S true) (u := w) (w := v) (fun a b c ha hb hc q1 q2 => flt_tr hc hb ha q2 q1) flt_irr (fun r' m' v' e' => plr_gd (e := true) hi (a6 r' m') e') gv bw hv
            refine ifN (by decide) ?_
            rw [q39, q40, j20, j21]
            refine X11_less k4 gw gv (fun G5 f5 => ?_)
            have f5' := f4'.up f5 (fun _ q => nomatch q) (by decide) (fun _ q => nomatch q)
            have g5 : gI G5 (z + 54) 22 = 0 := by rw [f5.I 22 (fun q => nomatch q)]; exact e22
            have j5 : ∀ j, j ≠ 23 → j ≠ 24 → gJ G5 (z + 54) j = gJ G4 (z + 54) j := fun j q1 q2 => f5.J j (fun q => by rcases List.mem_cons.mp q with x | x; exact q1 x; exact q2 (List.mem_singleton.mp x))
            cases cc : fltB w v with
            | true =>
              have cg : gtB v w = true := cc
              rw [cg] at bn
              refine ifN (by decide) (w102 G5 f5' (Or.inr ⟨g5, nb, u, v, bu, bn, ?_, ?_, ?_, ?_⟩))
              · rw [j5 37 (by omega) (by omega)]; exact q37
              · rw [j5 38 (by omega) (by omega)]; exact q38
              · rw [j5 20 (by omega) (by omega)]; exact j20
              · rw [j5 21 (by omega) (by omega)]; exact j21
            | false =>
              have cg : gtB v w = false := cc
              rw [cg] at bn
              refine ifP rfl (w118 G5 f5' (Or.inr ⟨g5, nb, u, w, bu, bn, ?_, ?_, ?_, ?_⟩))
              · rw [j5 37 (by omega) (by omega)]; exact q37
              · rw [j5 38 (by omega) (by omega)]; exact q38
              · rw [j5 39 (by omega) (by omega)]; exact q39
              · rw [j5 40 (by omega) (by omega)]; exact q40
      · exact large G4 (f3.up f4 (by decide) (by decide) (fun _ q => nomatch q)) i4 ⟨pre, mp, Or.inr hv⟩
      · rcases hE with w | w
        · exact Or.inr w.1
        · exact Or.inl w.1
    have w43 : ∀ G3, fxM (z + 54) [22] goSJ [] G1 G3 → (gI G3 (z + 54) 22 = 1 ∧ (∃ r ∈ h ++ [pre], bad S r) ∨ gI G3 (z + 54) 22 = 0 ∧ (∀ r ∈ h, ¬ bad S r) ∧ ∃ u0 u, plr S false pre = some u0 ∧ bst fltB (plr S false) (h ++ [pre]) u ∧ gJ G3 (z + 54) 20 = u.1 ∧ gJ G3 (z + 54) 21 = u.2 ∧ (h.isEmpty = false → ∃ v, bst gtB (plr S true) h v ∧ gJ G3 (z + 54) 39 = v.1 ∧ gJ G3 (z + 54) 40 = v.2)) → wpX11_widen_43 (fun G72 => wpX11_go_75 rec Q (z + 54) G72) (z + 54) G3 := by
      intro G3 f3 hE
      unfold wpX11_widen_43
      refine ⟨by rw [f3.K, f1.K]; exact hm.K, fun G6 e6 G7 e7 => w59 G7 (by rw [e7, e6]; exact (f3.wJ 37 _ (by decide)).wJ 38 _ (by decide)) ?_⟩
      have i22 : gI G7 (z + 54) 22 = gI G3 (z + 54) 22 := by rw [e7, gI_uJ, e6, gI_uJ]
      rw [i22]
      rcases hE with w | ⟨w1, w2, u0, u, p0, bu, j20, j21, hx⟩
      · exact Or.inl w
      · refine Or.inr ⟨w1, w2, u0, u, p0, bu, ?_, ?_, fun eh => ?_⟩
        · rw [e7, gJ_uJ, if_neg (by omega), e6, gJ_uJ, if_pos ⟨rfl, rfl⟩]; exact j20
        · rw [e7, gJ_uJ, if_pos ⟨rfl, rfl⟩, e6, gJ_uJ, if_neg (by omega)]; exact j21
        · obtain ⟨v, bv, j39, j40⟩ := hx eh
          exact ⟨v, bv, by rw [e7, gJ_uJ, if_neg (by omega), e6, gJ_uJ, if_neg (by omega)]; exact j39, by rw [e7, gJ_uJ, if_neg (by omega), e6, gJ_uJ, if_neg (by omega)]; exact j40⟩
    have large : ∀ G4, fxM (z + 54) [22] goSJ [] G1 G4 → gI G4 (z + 54) 22 = 1 → (∃ r ∈ h ++ [pre], bad S r) → (gK G4 (z + 54) = 11 ∧ if (gI G4 (z + 54) 36) = 0 then (wpX11_widen_43 (fun G72 => wpX11_go_75 rec Q (z + 54) G72) (z + 54) G4) else (wpX11_isLess (z + 54) (gJ G4 (z + 54) 20) (gJ G4 (z + 54) 21) (gJ G4 (z + 54) 37) (gJ G4 (z + 54) 38) G4 (fun r25 G26 => if r25 = 0 then (wpX11_widen_59 (fun G72 => wpX11_go_75 rec Q (z + 54) G72) (z + 54) G26) else (wpX11_widen_43 (fun G72 => wpX11_go_75 rec Q (z + 54) G72) (z + 54) G26)))) := by
      intro G4 f4 e4 hb
      have k4 : gK G4 (z + 54) = 11 := by rw [f4.K, f1.K]; exact hm.K
      refine ⟨k4, ifE (fun _ => w43 G4 f4 (Or.inl ⟨e4, hb⟩)) (fun _ => X11_lessA k4 (fun r G5 f5 => ?_))⟩
      have f5' := f4.up f5 (fun _ q => nomatch q) (by decide) (fun _ q => nomatch q)
      have e5 : gI G5 (z + 54) 22 = 1 := by rw [f5.I 22 (fun q => nomatch q)]; exact e4
      exact ifE (fun _ => w59 G5 f5' (Or.inl ⟨e5, hb⟩)) (fun _ => w43 G5 f5' (Or.inl ⟨e5, hb⟩))
    unfold wpX11_go_64
    refine ⟨m1.K, ifN (by rw [f1.I 35 (by decide), a2]; decide) ?_⟩
    unfold wpX11_widen
    refine ⟨m1.K, z + 54 + 22, (m1.2.1.2 22 (by omega) (by omega)).2.2, ?_⟩
    have b5' : (gI G1 (z + 54) 22 = 1 → ∃ r ∈ h ++ [pre], bad S r) ∧ (gI G1 (z + 54) 22 = 0 → (∀ r ∈ h, ¬ bad S r) ∧ (h.isEmpty = false → spF z S h G1)) := by
      rcases b5 with w | w
      · obtain ⟨w1, r0, m0, e0⟩ := w
        exact ⟨fun _ => ⟨r0, List.mem_append.mpr (Or.inl m0), e0⟩, fun q => by rw [w1] at q; exact absurd q (by decide)⟩
      · exact ⟨fun q => by rw [w.1] at q; exact absurd q (by decide), fun _ => w.2⟩
    refine X11_productR (e := false) m1 hi (Or.inl rfl) (by omega) c1 hr (by rw [b29, hp]) rfl (fun q G4 f4 => ?_) (fun q v hv G4 f4 j20 j21 => ?_) (fun q hv G4 f4 i4 => ?_) ?_
    · exact large G4 (f4.mono (fun _ q => nomatch q) (by decide) (fun _ q => q)) (by rw [f4.I 22 (fun q => nomatch q)]; exact q) (b5'.1 q)
    · obtain ⟨nb, hsp⟩ := b5'.2 q
      have f4' : fxM (z + 54) [22] goSJ [] G1 G4 := f4.mono (fun _ q => nomatch q) (by decide) (fun _ q => q)
      have e22 : gI G4 (z + 54) 22 = 0 := by rw [f4.I 22 (fun q => nomatch q)]; exact q
      have k4 : gK G4 (z + 54) = 11 := by rw [f4.K]; exact m1.K
      refine ⟨k4, ?_⟩
      rw [f4.I 36 (fun q => nomatch q), b36]
      cases eh : h.isEmpty with
      | true =>
        have h0 : h = [] := List.isEmpty_iff.mp eh
        refine ifP rfl (w43 G4 f4' (Or.inr ⟨e22, nb, v, v, hv, ?_, j20, j21, fun q => by rw [eh] at q; cases q⟩))
        rw [h0]
        exact bst_one (lt := fltB) flt_irr hv
      | false =>
        obtain ⟨u, w, bu, bw, k37, k38, k39, k40⟩ := hsp eh
        have gu : gdF u := by
          obtain ⟨⟨r0, m0, e0⟩, _⟩ := bu
          exact plr_gd hi (a6 r0 m0) e0
        have gv : gdF v := plr_gd hi hr hv
        have q37 : gJ G4 (z + 54) 37 = u.1 := by rw [f4.J 37 (by decide)]; exact k37
        have q38 : gJ G4 (z + 54) 38 = u.2 := by rw [f4.J 38 (by decide)]; exact k38
        have q39 : gJ G4 (z + 54) 39 = w.1 := by rw [f4.J 39 (by decide)]; exact k39
        have q40 : gJ G4 (z + 54) 40 = w.2 := by rw [f4.J 40 (by decide)]; exact k40
        have bn := bst_snoc (lt := fltB) (f := plr S false) (u := u) (w := v) (fun a b c ha hb hc q1 q2 => flt_tr ha hb hc q1 q2) flt_irr (fun r' m' v' e' => plr_gd (e := false) hi (a6 r' m') e') gv bu hv
        refine ifN (by decide) ?_
        rw [q37, q38, j20, j21]
        refine X11_less k4 gv gu (fun G5 f5 => ?_)
        have f5' := f4'.up f5 (fun _ q => nomatch q) (by decide) (fun _ q => nomatch q)
        have g5 : gI G5 (z + 54) 22 = 0 := by rw [f5.I 22 (fun q => nomatch q)]; exact e22
        have j5 : ∀ j, j ≠ 23 → j ≠ 24 → gJ G5 (z + 54) j = gJ G4 (z + 54) j := fun j q1 q2 => f5.J j (fun q => by rcases List.mem_cons.mp q with x | x; exact q1 x; exact q2 (List.mem_singleton.mp x))
        have h39 : gJ G5 (z + 54) 39 = w.1 := by rw [j5 39 (by omega) (by omega)]; exact q39
        have h40 : gJ G5 (z + 54) 40 = w.2 := by rw [j5 40 (by omega) (by omega)]; exact q40
        cases cc : fltB v u with
        | true =>
          rw [cc] at bn
          refine ifN (by decide) (w43 G5 f5' (Or.inr ⟨g5, nb, v, v, hv, bn, ?_, ?_, fun _ => ⟨w, bw, h39, h40⟩⟩))
          · rw [j5 20 (by omega) (by omega)]; exact j20
          · rw [j5 21 (by omega) (by omega)]; exact j21
        | false =>
          rw [cc] at bn
          refine ifP rfl (w59 G5 f5' (Or.inr ⟨g5, nb, v, u, hv, bn, ?_, ?_, fun _ => ⟨w, bw, h39, h40⟩⟩))
          · rw [j5 37 (by omega) (by omega)]; exact q37
          · rw [j5 38 (by omega) (by omega)]; exact q38
    · exact large G4 (f4.mono (fun _ q => q) (by decide) (fun _ q => q)) i4 ⟨pre, mp, Or.inl hv⟩
    · rcases b5 with w | w
      · exact Or.inr w.1
      · exact Or.inl w.1
  refine ifE (fun c G1 e1 G2 e2 => ⟨len + 1, ?_⟩) (fun c => go64 G fxM.rf (fun q => (a3 (by omega)).2))
  have f2 : fxM (z + 54) [33, 34] [] [23] G G2 := by
    rw [e2, e1]
    exact (fxM.rf.wI 34 _ (by decide)).wI 33 _ (by decide)
  have m2 := hm.fx f2 (by decide) (by decide) (by decide)
  refine M_keep m2 (cp.same (fun j => f2.AI 22 j (by omega) (by decide))) hp (by omega) (fun G3 f3 c3 => ?_) (len + 1) 0 G2 (by omega) (by omega) fxM.rf (fun j hj => absurd hj (Nat.not_lt_zero _))
  refine go64 G3 (f2.up f3 (fun _ q => nomatch q) (fun _ q => q) (fun _ q => q)) (fun q => ?_)
  rw [(a3 (by omega)).1, a1, i_eq, nI_toInt (by omega)] at c
  exact absurd c (by have : (-1 : Int32).toInt = -1 := rfl; omega)
theorem M_span {z : Nat} {G : Wd} {S T : St} {p q e t : Int32} {Q : Int64 → Wd → Prop} (h : mid z G T S) (hi : Inv S) (hQ : ∀ G', mid z G' T S → Q (oSpan S p q e t) G') : wpX11_span (z + 54) p q e t G Q := by
  unfold oSpan at hQ
  have hb : ¬ (rng p 0 99 ∧ rng q 0 79999 ∧ rng e 0 1 ∧ rng t 0 1) → Q (-9000000000000000001) G := fun n => by have := hQ G h; rw [if_neg n] at this; exact this
  unfold wpX11_span
  refine X11_isPair (fun a => ifN (fun e => n10 e) (X11_isTime (fun b => ifN (fun e => n10 e) (X11_isEnd (fun be => ifN (fun e => n10 e) ⟨h.K, ?_⟩) (fun be => ifP rfl (hb (fun c => be c.2.2))))) (fun b => ifP rfl (hb (fun c => b c.2.1))))) (fun a => ifP rfl (hb (fun c => a c.1)))
  rw [if_pos ⟨a, b, be⟩] at hQ
  obtain ⟨ea, eb, la10, lb10⟩ := ab_nI a
  obtain ⟨hl, h24⟩ := opl_ok hi (q / 10000) (q % 10000)
  refine X11_findCounted h hi (pd_rng b).1 (fun G1 f1 h1 c1 => ⟨h1.K, ?_⟩)
  rw [ea, eb]
  have hw := fun j hj => wl_many S (nv p % 10) (opl S (q / 10000) (q % 10000) (sM S)) (nv p / 10) j hj h24
  refine X11_seek (I := IS z S) (hit := fun _ => false) (p := q / 10000) (d := q % 10000) h1 hi la10 lb10 (Or.inr rfl) c1 IS_st (fun len h pre G Q rec q1 q2 q3 q4 q5 q6 q7 q8 => IS_visit hi len h pre G Q rec q1 q2 q3 q4 q5 q6 q7 q8) (fun j G hj hI => ?_) (fun G' f e30 e31 e34 e35 e36 e22 => ⟨⟨e31, e35⟩, fun _ => ⟨e30, e34⟩, e36, Or.inr ⟨e22, fun r hr => (nomatch hr), fun q => by cases q⟩, fun r hr => (nomatch hr)⟩) (fun j G' hj hh f hI => ?_)
  · have := hw j hj
    exact (hI.2.1 (by omega)).2
  · have ej : j = 10 := by
      rcases hh with w | w
      · exact w
      · cases w.1
    subst ej
    have hw' := hw 10 hj
    have m2 := h1.fx f (by decide) (by decide) (by decide)
    have fin := hQ G' m2
    obtain ⟨_, i2, i3, i4, i5⟩ := hI
    obtain ⟨e30, _⟩ := i2 (by omega)
    have hrok : ∀ r ∈ aal S p q, rok (sM S) r := fun r hr => i5 r ((mem_wl10 _ _ _ _ r).mpr hr)
    have sp := spn_run hi (aal S p q) [] none (fun r hr => nomatch hr) hrok rfl
    rw [List.nil_append] at sp
    have hlen : (awl S p q).length = (aal S p q).length := wl_10 _ _ _ _
    have hm10 : ∀ r, r ∈ awl S p q ↔ r ∈ aal S p q := fun r => mem_wl10 _ _ _ _ r
    refine ⟨m2.K, ?_⟩
    rw [e30]
    cases er : run (sstep S) sstop none (aal S p q) with
    | none =>
      rw [er] at sp fin
      have sp : aal S p q = [] := sp
      refine ifP ?_ fin
      have : (awl S p q).length = 0 := by rw [hlen, sp]; rfl
      show nI (awl S p q).length = 0
      rw [this]; rfl
    | some x =>
      rw [er] at sp fin
      have ne : aal S p q ≠ [] := by
        intro q0
        rcases sp with ⟨_, r0, m0, _⟩ | ⟨u, v, _, ⟨⟨r0, m0, _⟩, _⟩, _⟩
        · rw [q0] at m0; exact nomatch m0
        · rw [q0] at m0; exact nomatch m0
      have ne0 : (awl S p q).length ≠ 0 := by rw [hlen]; intro q0; exact ne (List.length_eq_zero_iff.mp q0)
      have nz : ¬ nI (awl S p q).length = 0 := by
        intro q0
        have q1 : nI (awl S p q).length = nI 0 := q0
        have hw2 : (awl S p q).length ≤ 16777216 := hw'
        rw [nI_eqI (by omega) (by omega)] at q1
        exact ne0 q1
      refine ifN nz ?_
      have neE : (awl S p q).isEmpty = false := by
        cases q0 : (awl S p q).isEmpty with
        | false => rfl
        | true => exact absurd (by rw [List.isEmpty_iff.mp q0]; rfl) ne0
      rcases i4 with ⟨w1, r0, m0, b0⟩ | ⟨w1, w2, w3⟩
      · rw [w1]
        refine ifN (by decide) ?_
        rcases sp with ⟨s1, _⟩ | ⟨u, v, _, _, _, s4⟩
        · dsimp only at fin
          rw [eOf_none s1] at fin
          exact fin
        · exact absurd b0 (s4 r0 ((hm10 r0).mp m0))
      · rw [w1]
        refine ifP rfl ?_
        obtain ⟨u, v, bu, bv, j1, j2, j3, j4⟩ := w3 neE
        rcases sp with ⟨_, r0, m0, b0⟩ | ⟨u', v', ex, s2, s3, _⟩
        · exact absurd b0 (w2 r0 ((hm10 r0).mpr m0))
        · have e1 := bst_eq bu s2 hm10 (fun r hr v hv => plr_gd (e := false) hi (i5 r hr) hv)
          have e2 := bst_eq' bv s3 hm10 (fun r hr v hv => plr_gd (e := true) hi (i5 r hr) hv)
          dsimp only at fin
          rw [ex] at fin
          rw [← e1, ← e2] at fin
          exact X11_endTold m2.K j1 j2 j3 j4 fin
theorem ok_span : ok4 wpX10_span wpX11_span := ⟨fun S p q e t => (oSpan S p q e t, S), fun _ _ _ _ _ _ _ _ _ h hi hQ => C_span h hi hQ, fun _ _ _ _ _ _ _ _ _ h hi hQ => M_span h hi hQ, fun _ _ _ _ _ hi => hi⟩
