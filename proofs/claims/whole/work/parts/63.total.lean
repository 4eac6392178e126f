/-! ===== accounts: the reference's ends and totals ===== -/
def lgE (S : St) (b n : Nat) : Prop := ∃ j, j < n ∧ (endE S b j false = none ∨ endE S b j true = none)
def endsH (z : Nat) (G : Wd) (S : St) (b n : Nat) : Prop := ∀ j, j < n → ∃ u v, endE S b j false = some u ∧ endE S b j true = some v ∧ gJ G (z + 54 + 26) (4 * j) = u.1 ∧ gJ G (z + 54 + 26) (4 * j + 1) = u.2 ∧ gJ G (z + 54 + 26) (4 * j + 2) = v.1 ∧ gJ G (z + 54 + 26) (4 * j + 3) = v.2
abbrev feA : List Nat := [19, 20, 21, 22, 23, 26]
theorem X11_findEnds {z b : Nat} {G0 : Wd} {T S : St} {Q : Int64 → Wd → Prop} (h0 : mid z G0 T S) (hi : Inv S) (hb : b < 10)
    (h1 : ¬ hasW S b (sL S) → ∀ G', fxM (z + 54) skSI goSJ feA G0 G' → Q (-9000000000000000005) G')
    (h2 : hasW S b (sL S) → lgE S b (sL S) → ∀ G', fxM (z + 54) skSI goSJ feA G0 G' → Q (-9000000000000000004) G')
    (h3 : hasW S b (sL S) → ∀ G', fxM (z + 54) skSI goSJ feA G0 G' → endsH z G' S b (sL S) → Q 0 G') : wpX11_findEnds (z + 54) (nI b) G0 Q := by
  have hN := hi.1.2
  have loop : ∀ (n i : Nat) (v2 : Int32) (G : Wd), i ≤ sL S → i + n = sL S + 1 → fxM (z + 54) skSI goSJ feA G0 G → hasW S b i → (v2 = 0 ∧ endsH z G S b i ∨ v2 = 1 ∧ lgE S b i) → wpX11_findEnds_4 Q n (z + 54) (nI b) v2 (nI i) G := by
    intro n
    induction n with
    | zero => intro i v2 G le e; omega
    | succ n ih =>
      intro i v2 G le e fx hh hE
      have hm := h0.fx fx (by decide) (by decide) (by decide)
      unfold wpX11_findEnds_4
      refine ⟨hm.K, ?_⟩
      rw [hm.L]
      refine ifE (fun c => ?_) (fun c => ?_)
      · rw [nI_leI (by omega) (by omega)] at c
        have ei : i = sL S := by omega
        rw [ei] at hh hE
        rcases hE with ⟨e0, w⟩ | ⟨e0, w⟩
        · exact ifP e0 (h3 hh G fx w)
        · exact ifN (by rw [e0]; decide) (h2 hh w G fx)
      · rw [nI_leI (by omega) (by omega)] at c
        have hlt : i < sL S := by omega
        obtain ⟨r15, r16, r17, r18⟩ := hi.2.2.2.2.2 i hlt
        have em := nI_nv r16.1
        have vm := nv_i r16.1
        have lm := r16.2
        have vi : vp_in (nI i) 20 := vp_in_nI (by omega) (by decide)
        refine hm.2.at 16 17 20 20 rfl rfl rfl (by omega) (by omega) vi ?_
        refine hm.2.at 17 18 20 20 rfl rfl rfl (by omega) (by omega) vi ?_
        refine hm.2.at 18 19 20 20 rfl rfl rfl (by omega) (by omega) vi ?_
        rw [nI_clamp (by omega), hm.I 16 i (by omega) (by omega) (by show i < 20; omega), hm.I 17 i (by omega) (by omega) (by show i < 20; omega), hm.I 18 i (by omega) (by omega) (by show i < 20; omega), em]
        -- what is written down
        have w68 : ∀ (s0 : Int32) (G1 : Wd), fxM (z + 54) skSI goSJ [19, 20, 21, 22, 23] G G1 → (∃ row, lnE S b i = some row) → (s0 = 0 ∧ endsH z G S b i ∧ (∃ u v, endE S b i false = some u ∧ endE S b i true = some v ∧ gJ G1 (z + 54) 37 = u.1 ∧ gJ G1 (z + 54) 38 = u.2 ∧ gJ G1 (z + 54) 39 = v.1 ∧ gJ G1 (z + 54) 40 = v.2) ∨ s0 = 1 ∧ lgE S b (i + 1)) → wpX11_findEnds_68 Q (fun y0 y1 y2 y3 y4 => wpX11_findEnds_4 Q n y0 y1 y2 y3 y4) (z + 54) (nI b) (nI i) s0 G1 := by
          intro s0 G1 f1 hrow hs
          have f1' : fxM (z + 54) skSI goSJ feA G0 G1 := fx.up f1 (fun _ q => q) (fun _ q => q) (by decide)
          have m1 := h0.fx f1' (by decide) (by decide) (by decide)
          obtain ⟨k26, l26, r26⟩ := m1.2.1.2 26 (by omega) (by omega)
          unfold wpX11_findEnds_68
          rw [show (4 : Int32) * nI i = nI (4 * i) by rw [show (4 : Int32) = nI 4 from rfl, pk_mul], show nI (4 * i) + 1 = nI (4 * i + 1) by rw [nI_1], show nI (4 * i) + 2 = nI (4 * i + 2) by rw [show (2 : Int32) = nI 2 from rfl, nI_add], show nI (4 * i) + 3 = nI (4 * i + 3) by rw [show (3 : Int32) = nI 3 from rfl, nI_add], nI_clamp (show 4 * i < 2 ^ 31 by omega), nI_clamp (show 4 * i + 1 < 2 ^ 31 by omega), nI_clamp (show 4 * i + 2 < 2 ^ 31 by omega), nI_clamp (show 4 * i + 3 < 2 ^ 31 by omega)]
          have v0 : vp_in (nI (4 * i)) 80 := vp_in_nI (by omega) (by decide)
          have v1 : vp_in (nI (4 * i + 1)) 80 := vp_in_nI (by omega) (by decide)
          have v2' : vp_in (nI (4 * i + 2)) 80 := vp_in_nI (by omega) (by decide)
          have v3 : vp_in (nI (4 * i + 3)) 80 := vp_in_nI (by omega) (by decide)
          refine ⟨m1.K, z + 54 + 26, r26, k26, by rw [l26]; exact v0, fun G2 e2 => ?_⟩
          have f2 : fxM (z + 54) [] [] [26] G1 G2 := by rw [e2]; exact fxM.rf.aJ 26 _ _ (by decide) (by omega)
          refine ⟨z + 54 + 26, by rw [f2.R]; exact r26, by rw [f2.K]; exact k26, by rw [f2.N, l26]; exact v1, fun G3 e3 => ?_⟩
          have f3 : fxM (z + 54) [] [] [26] G1 G3 := by rw [e3]; exact f2.aJ 26 _ _ (by decide) (by omega)
          refine ⟨z + 54 + 26, by rw [f3.R]; exact r26, by rw [f3.K]; exact k26, by rw [f3.N, l26]; exact v2', fun G4 e4 => ?_⟩
          have f4 : fxM (z + 54) [] [] [26] G1 G4 := by rw [e4]; exact f3.aJ 26 _ _ (by decide) (by omega)
          refine ⟨z + 54 + 26, by rw [f4.R]; exact r26, by rw [f4.K]; exact k26, by rw [f4.N, l26]; exact v3, fun G5 e5 x hx => ?_⟩
          have f5 : fxM (z + 54) [] [] [26] G1 G5 := by rw [e5]; exact f4.aJ 26 _ _ (by decide) (by omega)
          rw [nI_1] at hx; subst hx
          refine ih (i + 1) s0 G5 (by omega) (by omega) (f1'.up f5 (fun _ q => nomatch q) (fun _ q => nomatch q) (by decide)) (fun j hj => ?_) ?_
          · by_cases q : j = i
            · rw [q]; exact hrow
            · exact hh j (by omega)
          · rcases hs with ⟨s1, s2, u, v, eu, ev, j1, j2, j3, j4⟩ | s
            · refine Or.inl ⟨s1, fun j hj => ?_⟩
              have g5 : ∀ k, k ≠ 4 * i → k ≠ 4 * i + 1 → k ≠ 4 * i + 2 → k ≠ 4 * i + 3 → gJ G5 (z + 54 + 26) k = gJ G (z + 54 + 26) k := fun k q0 q1 q2 q3 => by
                rw [e5, gJ_uJ, if_neg (by omega), e4, gJ_uJ, if_neg (by omega), e3, gJ_uJ, if_neg (by omega), e2, gJ_uJ, if_neg (by omega), f1.AJ 26 k (by omega) (by decide)]
              by_cases q : j = i
              · subst q
                refine ⟨u, v, eu, ev, ?_, ?_, ?_, ?_⟩
                · rw [e5, gJ_uJ, if_neg (by omega), e4, gJ_uJ, if_neg (by omega), e3, gJ_uJ, if_neg (by omega), e2, gJ_uJ, if_pos ⟨rfl, rfl⟩]; exact j1
                · rw [e5, gJ_uJ, if_neg (by omega), e4, gJ_uJ, if_neg (by omega), e3, gJ_uJ, if_pos ⟨rfl, rfl⟩, f2.J 38 (fun q => nomatch q)]; exact j2
                · rw [e5, gJ_uJ, if_neg (by omega), e4, gJ_uJ, if_pos ⟨rfl, rfl⟩, f3.J 39 (fun q => nomatch q)]; exact j3
                · rw [e5, gJ_uJ, if_pos ⟨rfl, rfl⟩, f4.J 40 (fun q => nomatch q)]; exact j4
              · obtain ⟨u', v', eu', ev', k1, k2, k3, k4⟩ := s2 j (by omega)
                exact ⟨u', v', eu', ev', by rw [g5 _ (by omega) (by omega) (by omega) (by omega)]; exact k1, by rw [g5 _ (by omega) (by omega) (by omega) (by omega)]; exact k2, by rw [g5 _ (by omega) (by omega) (by omega) (by omega)]; exact k3, by rw [g5 _ (by omega) (by omega) (by omega) (by omega)]; exact k4⟩
            · exact Or.inr s
        have up : lgE S b i → lgE S b (i + 1) := fun ⟨j, hj, w⟩ => ⟨j, by omega, w⟩
        refine X11_theWay hm hi (by omega) hb r17 (fun hn G1 f1 => ifP rfl (h1 (fun hw => ?_) G1 (fx.up f1 (fun _ q => q) (fun _ q => q) (by decide)))) (fun row u v hr hu hv G1 f1 j1 j2 j3 j4 _ => ifN (by decide) ?_) (fun row hr hx G1 f1 => ifN (by decide) ?_)
        · obtain ⟨row, er⟩ := hw i hlt
          have hn' : lnE S b i = none := hn
          rw [hn'] at er; cases er
        · have er : lnE S b i = some row := hr
          have e1 : endE S b i false = some u := by unfold endE; rw [er]; exact hu
          have e2 : endE S b i true = some v := by unfold endE; rw [er]; exact hv
          rcases hE with ⟨e0, w⟩ | ⟨e0, w⟩
          · exact ifP e0 (ifN (by decide) (w68 0 G1 f1 ⟨row, er⟩ (Or.inl ⟨rfl, w, u, v, e1, e2, j1, j2, j3, j4⟩)))
          · exact ifN (by rw [e0]; decide) (w68 1 G1 f1 ⟨row, er⟩ (Or.inr ⟨rfl, up w⟩))
        · have er : lnE S b i = some row := hr
          have hl : lgE S b (i + 1) := ⟨i, by omega, by unfold endE; rw [er]; exact hx⟩
          rcases hE with ⟨e0, w⟩ | ⟨e0, w⟩
          · exact ifP e0 (ifP rfl (w68 1 G1 f1 ⟨row, er⟩ (Or.inr ⟨rfl, hl⟩)))
          · exact ifN (by rw [e0]; decide) (w68 1 G1 f1 ⟨row, er⟩ (Or.inr ⟨rfl, hl⟩))
  exact ⟨sL S + 1, loop (sL S + 1) 0 0 G0 (by omega) (by omega) fxM.rf (fun j hj => absurd hj (Nat.not_lt_zero _)) (Or.inl ⟨rfl, fun j hj => absurd hj (Nat.not_lt_zero _)⟩)⟩
theorem div_one64 (x : Int64) : x / 1 = x := by
  rw [l_eq, Int64.toInt_div_of_ne_right x 1 (by decide)]
  show x.toInt.tdiv 1 = x.toInt
  exact Int.tdiv_one _
theorem wfF.low {q : Int64 × Int64} (h : wfF (some q)) : q.1 / g1 q.1 q.2 = q.1 ∧ q.2 / g1 q.1 q.2 = q.2 := by
  obtain ⟨_, _, _, h4⟩ := h q rfl
  have e : g1 q.1 q.2 = 1 := by unfold g1 jg; rw [h4]; rfl
  rw [e]
  exact ⟨div_one64 _, div_one64 _⟩
theorem fadd_none (x : Fr) : fadd x none = none := by cases x <;> rfl
theorem fadd_none' (x : Fr) : fadd none x = none := rfl
theorem sm_none {S : St} {b : Nat} {vv : Nat → Int64} {e : Bool} {i : Nat} (h : sm S b vv e i = none) : ∀ n, i ≤ n → sm S b vv e n = none := by
  intro n
  induction n with
  | zero => intro le; rw [show i = 0 by omega] at h; exact h
  | succ n ih =>
    intro le
    by_cases c : i = n + 1
    · rw [← c]; exact h
    · show fadd (sm S b vv e n) _ = none
      rw [ih (by omega)]; rfl
theorem lgE_sm {S : St} {b n : Nat} (h : lgE S b n) (vv : Nat → Int64) : sm S b vv false n = none ∨ sm S b vv true n = none := by
  obtain ⟨j, hj, hx⟩ := h
  have key : ∀ e, endE S b j (if vv j < 0 then !e else e) = none → sm S b vv e n = none := fun e he => by
    refine sm_none (i := j + 1) ?_ n (by omega)
    show fadd _ (fmul (endE S b j (if vv j < 0 then !e else e)) (vv j) 1) = none
    rw [he]
    exact fadd_none _
  by_cases c : vv j < 0
  · rcases hx with hx | hx
    · exact Or.inr (key true (by rw [if_pos c]; exact hx))
    · exact Or.inl (key false (by rw [if_pos c]; exact hx))
  · rcases hx with hx | hx
    · exact Or.inl (key false (by rw [if_neg c]; exact hx))
    · exact Or.inr (key true (by rw [if_neg c]; exact hx))
theorem mid.dig {z : Nat} {G : Wd} {T S : St} (h : mid z G T S) : digOk G (z + 54) := by
  obtain ⟨k, l, r⟩ := h.2.1.2 19 (by omega) (by omega)
  exact ⟨h.K, r, k, l⟩
theorem X11_totalOf {z b : Nat} {G0 : Wd} {T S : St} {e : Bool} {ch am : Int32} {vv : Nat → Int64} {Q : Wd → Prop} (h0 : mid z G0 T S) (hi : Inv S) (he : endsH z G0 S b (sL S)) (hvv : ∀ i, i < sL S → (if nI i = ch then am else sA S 15 i).toInt64 = vv i) (hnm : ∀ i, i < sL S → nm (vv i)) (e22 : gI G0 (z + 54) 22 = 0)
    (hs : ∀ q, sm S b vv e (sL S) = some q → ∀ G', fxM (z + 54) [22] [20, 21, 23, 24] [19] G0 G' → gI G' (z + 54) 22 = 0 → gJ G' (z + 54) 20 = q.1 → gJ G' (z + 54) 21 = q.2 → Q G')
    (hl : sm S b vv e (sL S) = none → ∀ G', fxM (z + 54) [22] [20, 21, 23, 24] [19] G0 G' → gI G' (z + 54) 22 = 1 → Q G') : wpX11_totalOf (z + 54) (eI e) ch am G0 Q := by
  have hN := hi.1.2
  have loop : ∀ (n i : Nat) (u d : Int64) (G : Wd), i ≤ sL S → i + n = sL S + 1 → fxM (z + 54) [22] [20, 21, 23, 24] [19] G0 G → (gI G (z + 54) 22 = 0 ∧ sm S b vv e i = some (u, d) ∨ gI G (z + 54) 22 = 1 ∧ sm S b vv e i = none) → wpX11_totalOf_9 Q n (z + 54) (eI e) ch am u d (nI i) G := by
    intro n
    induction n with
    | zero => intro i u d G le e; omega
    | succ n ih =>
      intro i u d G le en fx hE
      have hm := h0.fx fx (by decide) (by decide) (by decide)
      have fin : (i = sL S ∨ gI G (z + 54) 22 = 1) → wpX11_totalOf_150 Q (z + 54) u d G := by
        intro hh
        unfold wpX11_totalOf_150
        refine ⟨hm.K, fun G1 e1 G2 e2 => ?_⟩
        have f2 : fxM (z + 54) [22] [20, 21, 23, 24] [19] G0 G2 := by rw [e2, e1]; exact (fx.wJ 20 _ (by decide)).wJ 21 _ (by decide)
        have i22 : gI G2 (z + 54) 22 = gI G (z + 54) 22 := by rw [e2, gI_uJ, e1, gI_uJ]
        rcases hE with ⟨w1, w2⟩ | ⟨w1, w2⟩
        · have ei : i = sL S := by
            rcases hh with q | q
            · exact q
            · rw [w1] at q; exact absurd q (by decide)
          rw [ei] at w2
          exact hs _ w2 G2 f2 (by rw [i22]; exact w1) (by rw [e2, gJ_uJ, if_neg (by omega), e1, gJ_uJ, if_pos ⟨rfl, rfl⟩]) (by rw [e2, gJ_uJ, if_pos ⟨rfl, rfl⟩])
        · exact hl (sm_none w2 _ le) G2 f2 (by rw [i22]; exact w1)
      unfold wpX11_totalOf_9
      refine ⟨hm.K, ?_⟩
      rw [hm.L]
      refine ifE (fun c => ?_) (fun c => ifE (fun c22 => ?_) (fun c22 => ?_))
      · rw [nI_leI (by omega) (by omega)] at c
        exact fin (Or.inl (by omega))
      · rw [nI_leI (by omega) (by omega)] at c
        have hlt : i < sL S := by omega
        have hsm : sm S b vv e i = some (u, d) := by
          rcases hE with w | w
          · exact w.2
          · rw [w.1] at c22; exact absurd c22 (by decide)
        have wsm := sm_wf hi b (vv := vv) e i (fun j hj => hnm j (by omega))
        rw [hsm] at wsm
        obtain ⟨wu1, wu2, wu3, wu4⟩ := wsm _ rfl
        obtain ⟨eu, ev, q1, q2, k1, k2, k3, k4⟩ := he i hlt
        obtain ⟨k26, l26, r26⟩ := hm.2.1.2 26 (by omega) (by omega)
        have s61 : ∀ (av : Int32) (e' : Bool), av.toInt64 = vv i → e' = (if vv i < 0 then !e else e) → wpX11_totalOf_61 Q (fun y0 y1 y2 y3 y4 y5 y6 y7 => wpX11_totalOf_9 Q n y0 y1 y2 y3 y4 y5 y6 y7) (z + 54) (eI e) ch am u d (nI i) av (4 * nI i) 2 (eI e') G := by
          intro av e' eav ee
          unfold wpX11_totalOf_61
          intro x9 hx9
          have ex : x9 = nI (4 * i + 2 * (if e' then 1 else 0)) := by
            rw [hx9, show (4 : Int32) = nI 4 from rfl, pk_mul, show (2 : Int32) * eI e' = nI (2 * (if e' then 1 else 0)) by cases e' <;> rfl, nI_add]
          have bx : 4 * i + 2 * (if e' then 1 else 0) + 1 < 80 := by split <;> omega
          rw [ex, nI_1, nI_clamp (show 4 * i + 2 * (if e' then 1 else 0) < 2 ^ 31 by omega), nI_clamp (show 4 * i + 2 * (if e' then 1 else 0) + 1 < 2 ^ 31 by omega)]
          refine ⟨hm.K, z + 54 + 26, r26, k26, by rw [l26]; exact vp_in_nI (by show _ < 80; omega) (by decide), z + 54 + 26, r26, k26, by rw [l26]; exact vp_in_nI (by show _ < 80; omega) (by decide), ?_⟩
          -- the end
          obtain ⟨q, hq, g1', g2'⟩ : ∃ q, endE S b i e' = some q ∧ gJ G (z + 54 + 26) (4 * i + 2 * (if e' then 1 else 0)) = q.1 ∧ gJ G (z + 54 + 26) (4 * i + 2 * (if e' then 1 else 0) + 1) = q.2 := by
            cases e' with
            | false => exact ⟨eu, q1, by rw [fx.AJ 26 _ (by omega) (by decide)]; exact k1, by rw [fx.AJ 26 _ (by omega) (by decide)]; exact k2⟩
            | true => exact ⟨ev, q2, by rw [fx.AJ 26 _ (by omega) (by decide)]; exact k3, by rw [fx.AJ 26 _ (by omega) (by decide)]; exact k4⟩
          rw [g1', g2']
          have wq : wfF (some q) := by rw [← hq]; exact endE_wf hi b i e'
          have okq := wq.ok
          have dq := (wq _ rfl).2.2.1
          have lq := wq.low
          refine X11_set hm.K okq.1 okq.2 (by omega) (fun G1 f1 j1 j2 => ?_)
          rw [lq.1] at j1
          rw [lq.2] at j2
          refine ⟨by rw [f1.K]; exact hm.K, ?_⟩
          rw [eav]
          have esm : sm S b vv e (i + 1) = fadd (some (u, d)) (fmul (some q) (vv i) 1) := by
            show fadd (sm S b vv e i) (fmul (endE S b i (if vv i < 0 then !e else e)) (vv i) 1) = _
            rw [hsm, ← ee, hq]
          refine X11_times (by rw [f1.K]; exact hm.K) (hnm i hlt) (by unfold nm; decide) okq.1 okq.2 (by decide) (by omega) j1 j2 (fun r hr G2 f2 l1 l2 => ?_) (fun hr G2 f2 l22 => ?_)
          · have f2' := fx.up (f1.tr f2) (fun _ q => nomatch q) (by decide) (fun _ q => nomatch q)
            refine ⟨by rw [f2'.K]; exact h0.K, fun x1 hx1 x2 hx2 G3 e3 G4 e4 => ?_⟩
            rw [l1] at hx1
            rw [l2] at hx2
            subst hx1; subst hx2
            have f4 : fxM (z + 54) [22] [20, 21, 23, 24] [19] G0 G4 := by rw [e4, e3]; exact (f2'.wJ 20 _ (by decide)).wJ 21 _ (by decide)
            have m4 := h0.fx f4 (by decide) (by decide) (by decide)
            have i22 : gI G4 (z + 54) 22 = 0 := by rw [e4, gI_uJ, e3, gI_uJ, f2.I 22 (fun q => nomatch q), f1.I 22 (fun q => nomatch q)]; exact c22
            have wr : wfF (some r) := by rw [← hr]; exact wq.mul (hnm i hlt) (by unfold nm; decide) (by decide) (by rw [show nA (1 : Int64) = 1 by decide]; exact Nat.gcd_one_right _)
            obtain ⟨wr1, wr2, wr3, wr4⟩ := wr _ rfl
            have ed : d = lN (nA d) := jabs_pos (by rw [l_lt, ll0]; have : 0 < d.toInt := wu3; omega)
            have er2 : r.2 = lN (nA r.2) := jabs_pos (by rw [l_lt, ll0]; omega)
            have pd : 0 < nA d := by unfold nA; have : 0 < d.toInt := wu3; omega
            have pr : 0 < nA r.2 := by unfold nA; omega
            have efr : fadd (some (u, lN (nA d))) (some (r.1, lN (nA r.2))) = sm S b vv e (i + 1) := by rw [esm, hr, ← ed, ← er2]
            refine ifP i22 ?_
            rw [er2]
            refine X11_plus m4.dig (by rw [e4, gJ_uJ, if_neg (by omega), e3, gJ_uJ, if_pos ⟨rfl, rfl⟩]) (by rw [e4, gJ_uJ, if_pos ⟨rfl, rfl⟩]; exact ed) i22 wu1 wr1 pd pr wu2 wr2 wu4 wr4 (fun s hs' G5 f5 i5 p1 p2 => ?_) (fun hs' G5 f5 i5 => ?_)
            · rw [efr] at hs'
              have f5' := f4.tr f5
              refine ⟨by rw [f5'.K]; exact h0.K, fun y1 hy1 y2 hy2 y3 hy3 => ?_⟩
              rw [nI_1] at hy3
              rw [hy1, hy2, hy3, p1, p2]
              exact ih (i + 1) s.1 s.2 G5 (by omega) (by omega) f5' (Or.inl ⟨i5, hs'⟩)
            · rw [efr] at hs'
              have f5' := f4.tr f5
              refine ⟨by rw [f5'.K]; exact h0.K, fun y1 hy1 y2 hy2 y3 hy3 => ?_⟩
              rw [nI_1] at hy3
              rw [hy3]
              exact ih (i + 1) y1 y2 G5 (by omega) (by omega) f5' (Or.inr ⟨i5, hs'⟩)
          · have f2' := fx.up ((f1.mono (fun _ q => nomatch q) (fun _ q => q) (fun _ q => q)).tr f2) (fun _ q => q) (by decide) (fun _ q => nomatch q)
            refine ⟨by rw [f2'.K]; exact h0.K, fun x1 hx1 x2 hx2 G3 e3 G4 e4 => ?_⟩
            have f4 : fxM (z + 54) [22] [20, 21, 23, 24] [19] G0 G4 := by rw [e4, e3]; exact (f2'.wJ 20 _ (by decide)).wJ 21 _ (by decide)
            have i22 : gI G4 (z + 54) 22 = 1 := by rw [e4, gI_uJ, e3, gI_uJ]; exact l22
            refine ifN (by rw [i22]; decide) ⟨by rw [f4.K]; exact h0.K, fun y1 hy1 y2 hy2 y3 hy3 => ?_⟩
            rw [nI_1] at hy3
            rw [hy3]
            exact ih (i + 1) y1 y2 G4 (by omega) (by omega) f4 (Or.inr ⟨i22, by rw [esm, hr]; rfl⟩)
        have s42 : ∀ av : Int32, av.toInt64 = vv i → wpX11_totalOf_42 Q (fun y0 y1 y2 y3 y4 y5 y6 y7 => wpX11_totalOf_9 Q n y0 y1 y2 y3 y4 y5 y6 y7) (z + 54) (eI e) ch am u d (nI i) av G := by
          intro av eav
          have sg : (0 : Int32) ≤ av ↔ ¬ vv i < 0 := by
            rw [← eav, l_lt, i64, i_le, il0, ll0]; omega
          unfold wpX11_totalOf_42
          refine ifE (fun ca => s61 av e eav (by rw [if_neg (sg.mp ca)])) (fun ca => ?_)
          have cv : vv i < 0 := Classical.byContradiction (fun q => ca (sg.mpr q))
          rw [show (1 : Int32) - eI e = eI (!e) by cases e <;> decide]
          exact s61 av (!e) eav (by rw [if_pos cv])
        have e15 := hvv i hlt
        refine ifE (fun cc => ?_) (fun cc => ?_)
        · rw [if_pos cc] at e15
          exact s42 am e15
        · rw [if_neg cc] at e15
          refine hm.2.at 15 16 20 20 rfl rfl rfl (by omega) (by omega) (vp_in_nI (by omega) (by decide)) ?_
          rw [nI_clamp (by omega), hm.I 15 i (by omega) (by omega) (by show i < 20; omega)]
          exact s42 _ e15
      · refine fin (Or.inr ?_)
        rcases hE with w | w
        · exact absurd w.1 c22
        · exact w.1
  exact ⟨sL S + 1, loop (sL S + 1) 0 0 1 G0 (by omega) (by omega) fxM.rf (Or.inl ⟨e22, rfl⟩)⟩
abbrev beJ : List Nat := [20, 21, 23, 24, 37, 38, 39, 40]
theorem X11_bothEnds {z b : Nat} {G0 : Wd} {T S : St} {ch am : Int32} {vv : Nat → Int64} {Q : Int64 → Wd → Prop} (h0 : mid z G0 T S) (hi : Inv S) (he : endsH z G0 S b (sL S)) (hvv : ∀ i, i < sL S → (if nI i = ch then am else sA S 15 i).toInt64 = vv i) (hnm : ∀ i, i < sL S → nm (vv i))
    (hs : ∀ u v, sm S b vv false (sL S) = some u → sm S b vv true (sL S) = some v → ∀ G', fxM (z + 54) [22] beJ [19] G0 G' → gJ G' (z + 54) 37 = u.1 → gJ G' (z + 54) 38 = u.2 → gJ G' (z + 54) 39 = v.1 → gJ G' (z + 54) 40 = v.2 → Q 0 G')
    (hl : sm S b vv false (sL S) = none ∨ sm S b vv true (sL S) = none → ∀ G', fxM (z + 54) [22] beJ [19] G0 G' → Q (-9000000000000000004) G') : wpX11_bothEnds (z + 54) ch am G0 Q := by
  unfold wpX11_bothEnds
  refine ⟨h0.K, fun G1 e1 => ?_⟩
  have f1 : fxM (z + 54) [22] beJ [19] G0 G1 := by rw [e1]; exact fxM.rf.wI 22 _ (by decide)
  have m1 := h0.fx f1 (by decide) (by decide) (by decide)
  have he1 : ∀ G', fxM (z + 54) [22] beJ [19] G0 G' → endsH z G' S b (sL S) := fun G' f' j hj => by
    obtain ⟨u, v, a1, a2, a3, a4, a5, a6⟩ := he j hj
    exact ⟨u, v, a1, a2, by rw [f'.AJ 26 _ (by omega) (by decide)]; exact a3, by rw [f'.AJ 26 _ (by omega) (by decide)]; exact a4, by rw [f'.AJ 26 _ (by omega) (by decide)]; exact a5, by rw [f'.AJ 26 _ (by omega) (by decide)]; exact a6⟩
  have s42 : ∀ G2, fxM (z + 54) [22] beJ [19] G0 G2 → (gI G2 (z + 54) 22 = 1 ∧ (sm S b vv false (sL S) = none ∨ sm S b vv true (sL S) = none) ∨ gI G2 (z + 54) 22 = 0 ∧ ∃ u v, sm S b vv false (sL S) = some u ∧ sm S b vv true (sL S) = some v ∧ gJ G2 (z + 54) 37 = u.1 ∧ gJ G2 (z + 54) 38 = u.2 ∧ gJ G2 (z + 54) 20 = v.1 ∧ gJ G2 (z + 54) 21 = v.2) → wpX11_bothEnds_42 Q (z + 54) G2 := by
    intro G2 f2 hE
    unfold wpX11_bothEnds_42
    refine ⟨by rw [f2.K]; exact h0.K, fun G3 e3 G4 e4 => ?_⟩
    have f4 : fxM (z + 54) [22] beJ [19] G0 G4 := by rw [e4, e3]; exact (f2.wJ 39 _ (by decide)).wJ 40 _ (by decide)
    have i22 : gI G4 (z + 54) 22 = gI G2 (z + 54) 22 := by rw [e4, gI_uJ, e3, gI_uJ]
    rw [i22]
    rcases hE with ⟨w1, w2⟩ | ⟨w1, u, v, w2, w3, j1, j2, j3, j4⟩
    · exact ifN (by rw [w1]; decide) (hl w2 G4 f4)
    · refine ifP w1 (hs u v w2 w3 G4 f4 ?_ ?_ ?_ ?_)
      · rw [e4, gJ_uJ, if_neg (by omega), e3, gJ_uJ, if_neg (by omega)]; exact j1
      · rw [e4, gJ_uJ, if_neg (by omega), e3, gJ_uJ, if_neg (by omega)]; exact j2
      · rw [e4, gJ_uJ, if_neg (by omega), e3, gJ_uJ, if_pos ⟨rfl, rfl⟩]; exact j3
      · rw [e4, gJ_uJ, if_pos ⟨rfl, rfl⟩, e3, gJ_uJ, if_neg (by omega)]; exact j4
  refine X11_totalOf (e := false) m1 hi (he1 G1 f1) hvv hnm (by rw [e1, gI_uI, if_pos ⟨rfl, rfl⟩]) (fun u hu G2 f2 i2 p1 p2 => ?_) (fun hu G2 f2 i2 => ?_)
  · have f2' := f1.up f2 (fun _ q => q) (by decide) (fun _ q => q)
    refine ⟨by rw [f2'.K]; exact h0.K, fun G3 e3 G4 e4 => ?_⟩
    have f4 : fxM (z + 54) [22] beJ [19] G0 G4 := by rw [e4, e3]; exact (f2'.wJ 37 _ (by decide)).wJ 38 _ (by decide)
    have m4 := h0.fx f4 (by decide) (by decide) (by decide)
    have i4 : gI G4 (z + 54) 22 = 0 := by rw [e4, gI_uJ, e3, gI_uJ]; exact i2
    have j37 : gJ G4 (z + 54) 37 = u.1 := by rw [e4, gJ_uJ, if_neg (by omega), e3, gJ_uJ, if_pos ⟨rfl, rfl⟩]; exact p1
    have j38 : gJ G4 (z + 54) 38 = u.2 := by rw [e4, gJ_uJ, if_pos ⟨rfl, rfl⟩, e3, gJ_uJ, if_neg (by omega)]; exact p2
    refine ifP i4 ?_
    refine X11_totalOf (e := true) m4 hi (he1 G4 f4) hvv hnm i4 (fun v hv G5 f5 i5 r1 r2 => ?_) (fun hv G5 f5 i5 => ?_)
    · exact s42 G5 (f4.up f5 (fun _ q => q) (by decide) (fun _ q => q)) (Or.inr ⟨i5, u, v, hu, hv, by rw [f5.J 37 (by decide)]; exact j37, by rw [f5.J 38 (by decide)]; exact j38, r1, r2⟩)
    · exact s42 G5 (f4.up f5 (fun _ q => q) (by decide) (fun _ q => q)) (Or.inl ⟨i5, Or.inr hv⟩)
  · have f2' := f1.up f2 (fun _ q => q) (by decide) (fun _ q => q)
    refine ⟨by rw [f2'.K]; exact h0.K, fun G3 e3 G4 e4 => ?_⟩
    have f4 : fxM (z + 54) [22] beJ [19] G0 G4 := by rw [e4, e3]; exact (f2'.wJ 37 _ (by decide)).wJ 38 _ (by decide)
    have i4 : gI G4 (z + 54) 22 = 1 := by rw [e4, gI_uJ, e3, gI_uJ]; exact i2
    exact ifN (by rw [i4]; decide) (s42 G4 f4 (Or.inl ⟨i4, Or.inl hu⟩))
/-! total -/
def hasB (S : St) (b n : Nat) : Bool := (List.range n).all (fun j => (lnE S b j).isSome)
theorem hasB_iff (S : St) (b n : Nat) : hasB S b n = true ↔ hasW S b n := by
  unfold hasB hasW
  rw [List.all_eq_true]
  constructor
  · intro h j hj
    have := h j (List.mem_range.mpr hj)
    exact Option.isSome_iff_exists.mp this
  · intro h j hj
    exact Option.isSome_iff_exists.mpr (h j (List.mem_range.mp hj))
def vv0 (S : St) (j : Nat) : Int64 := (sA S 15 j).toInt64
theorem vv0_nm {S : St} (j : Nat) : nm (vv0 S j) := by
  unfold nm vv0
  rw [i64]
  have := i_rng (sA S 15 j)
  omega
theorem vv0_m1 {S : St} (hi : Inv S) (i : Nat) (h : i < sL S) : ¬ nI i = (-1 : Int32) := by
  have := hi.1.2
  rw [i_eq, nI_toInt (by omega)]
  have : (-1 : Int32).toInt = -1 := rfl
  omega
def oTotal (S : St) (p e t : Int32) : Int64 := if rng p 0 9 ∧ rng e 0 1 ∧ rng t 0 1 then (if hasB S (nv p) (sL S) then eOf (sm S (nv p) (vv0 S) false (sL S)) (sm S (nv p) (vv0 S) true (sL S)) e t else -9000000000000000005) else -9000000000000000001
theorem mid.wgh {z : Nat} {G G' : Wd} {S T : St} {la lb : Nat → Nat} (hc : CR z G S la lb) (hm : MR (z + 54) G T) (f : chg (wP z S lb) (fun b => b = z + 6) G G') : mid z G' S T :=
  mid.cls (hc.wgh f) hm f (fun b q1 q2 => ⟨fun w => by
    rcases w with w | ⟨j, hj, w⟩
    · omega
    · have := (hc.A.2.1 j hj).1; omega, by omega⟩)
theorem C_total {z : Nat} {G : Wd} {S T : St} {p e t : Int32} {Q : Int64 → Wd → Prop} (h : mid z G S T) (hi : Inv S) (hQ : ∀ G', mid z G' S T → Q (oTotal S p e t) G') : wpX10_total z p e t G Q := by
  unfold oTotal at hQ
  have hb : ¬ (rng p 0 9 ∧ rng e 0 1 ∧ rng t 0 1) → Q (-9000000000000000001) G := fun n => by have := hQ G h; rw [if_neg n] at this; exact this
  obtain ⟨⟨la, lb, hc⟩, hm⟩ := h
  unfold wpX10_total
  refine X10_isMeasure (fun a => ifN (fun e => n10 e) (X10_isEither (fun be => ifN (fun e => n10 e) (X10_isEither (fun bt => ifN (fun e => n10 e) ⟨hc.K, ?_⟩) (fun bt => ifP rfl (hb (fun c => bt c.2.2))))) (fun be => ifP rfl (hb (fun c => be c.2.1))))) (fun a => ifP rfl (hb (fun c => a c.1)))
  rw [if_pos ⟨a, be, bt⟩] at hQ
  have ep := nI_nv a.1
  have vp := nv_i a.1
  have lp := a.2
  rw [ep]
  refine X10_weighLines hc hi (by omega) (fun hw G1 f1 w1 => ifN (fun e => n10 e) ?_) (fun hw G1 f1 => ifP rfl ?_)
  · rw [if_pos ((hasB_iff _ _ _).mpr hw)] at hQ
    have c1 := hc.wgh f1
    refine ⟨c1.K, X10_sumLines (vv := vv0 S) c1 hi w1 (fun i hi' => by rw [if_neg (vv0_m1 hi i hi')]; rfl) (fun i _ => vv0_nm i) (fun G2 f2 j43 j44 => ?_)⟩
    have f2' : chg (wP z S lb) (fun b => b = z + 6) G G2 := f1.tr (f2.mono (fun b q => Or.inl (by omega)) (fun _ q => absurd q id))
    have c2 := hc.wgh f2'
    refine ⟨c2.K, z + 43, c2.1.R 0 11 43 (by decide), z + 44, c2.1.R 0 12 44 (by decide), X10_endOf j43 j44 ?_⟩
    exact hQ G2 (mid.wgh hc hm f2')
  · rw [if_neg (fun q => hw ((hasB_iff _ _ _).mp q))] at hQ
    exact hQ G1 (mid.wgh hc hm f1)
theorem M_total {z : Nat} {G : Wd} {S T : St} {p e t : Int32} {Q : Int64 → Wd → Prop} (h : mid z G T S) (hi : Inv S) (hQ : ∀ G', mid z G' T S → Q (oTotal S p e t) G') : wpX11_total (z + 54) p e t G Q := by
  unfold oTotal at hQ
  have hb : ¬ (rng p 0 9 ∧ rng e 0 1 ∧ rng t 0 1) → Q (-9000000000000000001) G := fun n => by have := hQ G h; rw [if_neg n] at this; exact this
  unfold wpX11_total
  refine X11_in 0 9 rfl rfl (fun a => ifN (fun e => n10 e) (X11_isEnd (fun be => ifN (fun e => n10 e) ⟨h.K, ?_⟩) (fun be => ifP rfl (hb (fun c => be c.2))))) (fun a => ifP rfl (hb (fun c => a c.1)))
  rw [if_pos ⟨a, be⟩] at hQ
  have ep := nI_nv a.1
  have vp := nv_i a.1
  have lp := a.2
  rw [ep]
  have fin : ∀ G', fxM (z + 54) skSI goSJ feA G G' → mid z G' T S := fun G' f' => h.fx f' (by decide) (by decide) (by decide)
  refine X11_findEnds h hi (by omega) (fun hw G1 f1 => ifN (by decide) ?_) (fun hw hx G1 f1 => ifN (by decide) ?_) (fun hw G1 f1 he => ifP rfl ?_)
  · rw [if_neg (fun q => hw ((hasB_iff _ _ _).mp q))] at hQ
    exact hQ G1 (fin G1 f1)
  · rw [if_pos ((hasB_iff _ _ _).mpr hw)] at hQ
    have := hQ G1 (fin G1 f1)
    rw [eOf_none (lgE_sm hx (vv0 S))] at this
    exact this
  · rw [if_pos ((hasB_iff _ _ _).mpr hw)] at hQ
    have m1 := fin G1 f1
    refine ⟨m1.K, X11_bothEnds (vv := vv0 S) m1 hi he (fun i hi' => by rw [if_neg (vv0_m1 hi i hi')]; rfl) (fun i _ => vv0_nm i) (fun u v hu hv G2 f2 j1 j2 j3 j4 => ifP rfl ?_) (fun hx G2 f2 => ifN (by decide) ?_)⟩
    · have m2 := m1.fx f2 (by decide) (by decide) (by decide)
      have := hQ G2 m2
      rw [hu, hv] at this
      exact ⟨m2.K, X11_endTold m2.K j1 j2 j3 j4 this⟩
    · have m2 := m1.fx f2 (by decide) (by decide) (by decide)
      have := hQ G2 m2
      rw [eOf_none hx] at this
      exact this
theorem ok_total : ok3 wpX10_total wpX11_total := ⟨fun S p e t => (oTotal S p e t, S), fun _ _ _ _ _ _ _ _ h hi hQ => C_total h hi hQ, fun _ _ _ _ _ _ _ _ h hi hQ => M_total h hi hQ, fun _ _ _ _ hi => hi⟩
