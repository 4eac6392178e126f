/-! ===== rings: the reference's round ===== -/
theorem X11_isUsed {z k : Nat} {G : Wd} {T S : St} {pre : List Nat} {Q : Int32 → Wd → Prop} (h : mid z G T S) (hp : cel G (z + 54 + 22) pre) (hl : pre.length ≤ 20) (hr : ∀ x ∈ pre, x < 200) (hk : k < 100) (h1 : (∃ x ∈ pre, x % 100 = k) → Q 1 G) (h0 : (∀ x ∈ pre, x % 100 ≠ k) → Q 0 G) : wpX11_isUsed (z + 54) (nI pre.length) (nI k) G Q := by
  have loop : ∀ (n i : Nat), i ≤ pre.length → i + n = pre.length + 1 → (∀ j, j < i → pre.getD j 0 % 100 ≠ k) → wpX11_isUsed_2 Q n (z + 54) (nI pre.length) (nI k) (nI i) G := by
    intro n
    induction n with
    | zero => intro i le e; omega
    | succ n ih =>
      intro i le e hj
      unfold wpX11_isUsed_2
      refine ifE (fun c => ?_) (fun c => ⟨h.K, ?_⟩)
      · rw [nI_leI (by omega) (by omega)] at c
        refine h0 (fun x hx => ?_)
        obtain ⟨j, hj1, hj2⟩ := List.mem_iff_getElem.mp hx
        have := hj j (by omega)
        simp [List.getD, List.getElem?_eq_getElem hj1, hj2] at this
        exact this
      · rw [nI_leI (by omega) (by omega)] at c
        have hm := getD_mem (l := pre) (i := i) (by omega)
        have hb := hr _ hm
        refine h.2.at 22 28 20 25 rfl rfl rfl (by omega) (by omega) (vp_in_nI (by omega) (by decide)) ?_
        rw [nI_clamp (by omega), hp i (by omega), show nI (pre.getD i 0) % 100 = nI (pre.getD i 0 % 100) from nI_mod (a := pre.getD i 0) (d := 100) (by omega) (by omega)]
        refine ifE (fun d => ?_) (fun d y hy => ?_)
        · rw [nI_eqI (by omega) (by omega)] at d
          exact h1 ⟨_, hm, d⟩
        · rw [nI_eqI (by omega) (by omega)] at d
          rw [nI_1] at hy; subst hy
          refine ih (i + 1) (by omega) (by omega) (fun j hj' => ?_)
          by_cases q : j = i
          · rw [q]; exact d
          · exact hj j (by omega)
  exact ⟨pre.length + 1, loop (pre.length + 1) 0 (by omega) (by omega) (fun j hj => absurd hj (Nat.not_lt_zero _))⟩
abbrev rgA : List Nat := [21, 22, 23, 24]
theorem dfx_s (S : St) (b : Nat) (l : List Nat) (r a : Nat) (met pre : List Nat) (h : a ≠ b) : dfx S b l (r + 1) a met pre = l.flatMap (fun k => if can S met a k then dfx S b l r (nxt S a k) (met ++ [nxt S a k]) (pre ++ [rx S a k]) else []) := by
  rw [dfx]; exact if_neg h
theorem round_core {z b len least : Nat} {G0 : Wd} {T S : St} {p d : Int32} {cho : Nat → Option Nat} (h0 : mid z G0 T S) (hi : Inv S) (hb : b < 10) (hlen : len ≤ 10) (hc : cntd (z + 54) G0 S p d (sM S)) (hls : least < sM S)
    {rec : Nat → Int32 → Int32 → Wd → (Wd → Prop) → Prop} {Q : Wd → Prop} {a : Nat} {m0 pre : List Nat} {F : Nat → List (List Nat)} (ha : a < 10) (hpl : pre.length + 1 ≤ len) (hml : m0.length + 1 = pre.length) (hmx : ∀ x ∈ m0, x < 10) (hrp : rok (sM S) pre) (husd : ∀ x ∈ pre, x % 100 = least ∨ (fr S (x % 100) ∈ m0 ++ [a] ∧ tt S (x % 100) ∈ m0 ++ [a]))
    (hF : ∀ k, can S (m0 ++ [a]) a k = false → F k = [])
    (h145 : ∀ (i : Nat) (s : Jst) (G : Wd) (k12 : Nat → Int32 → Int32 → Int32 → Wd → Prop), i < sM S → (fr S i = a ∨ tt S i = a) → fr S i ≠ tt S i → fxM (z + 54) rgI rgJ rgA G0 G → mI z s G → cel G (z + 54 + 21) (b :: (m0 ++ [a])) → cel G (z + 54 + 22) pre → (∀ G', fxM (z + 54) rgI rgJ rgA G0 G' → mI z (run (mstep S (boC cho)) jstop s (F i)) G' → cel G' (z + 54 + 21) (b :: (m0 ++ [a])) → cel G' (z + 54 + 22) pre → wpX11_round_202 rec Q k12 (z + 54) (nI pre.length) (nI least) (nI i) G') → wpX11_round_145 rec Q k12 (z + 54) (nI pre.length) (nI least) (nI i) (nI (nxt S a i)) (z + 54 + 22) (nI pre.length) (nI (rx S a i)) G)
    (n : Nat) : ∀ (i : Nat) (s : Jst) (G : Wd), least < i → i ≤ sM S → i + n = sM S + 1 → fxM (z + 54) rgI rgJ rgA G0 G → mI z s G → cel G (z + 54 + 21) (b :: (m0 ++ [a])) → cel G (z + 54 + 22) pre → (∀ G', fxM (z + 54) rgI rgJ rgA G0 G' → mI z (run (mstep S (boC cho)) jstop s ((oq S p d i (sM S - i)).flatMap F)) G' → cel G' (z + 54 + 21) (b :: (m0 ++ [a])) → cel G' (z + 54 + 22) pre → Q G') → wpX11_round_12 rec Q n (z + 54) (nI pre.length) (nI least) (nI i) G := by
  have hM := hi.1.1
  have hAR : ∀ o ∈ rgA, 18 < o ∧ o ≤ 26 := by decide
  induction n with
  | zero => intro i s G lt le e; omega
  | succ n ihn =>
    intro i s G lt le e fx hI cm cp hQ
    have hm := h0.fx fx (by decide) (by decide) hAR
    have ea : gI G (z + 54 + 21) pre.length = nI a := by
      rw [← hml]
      have := cel.at (l := b :: m0) (x := a) cm
      exact this
    unfold wpX11_round_12
    refine ⟨hm.K, ?_⟩
    rw [hm.M]
    refine ifE (fun c => ?_) (fun c => ?_)
    · rw [nI_leI (by omega) (by omega)] at c
      rw [show sM S - i = 0 by omega] at hQ
      exact hQ G fx (by rw [show oq S p d i 0 = [] by cases i <;> rfl, List.flatMap_nil]; exact hI) cm cp
    · rw [nI_leI (by omega) (by omega)] at c
      have hk : i < sM S := by omega
      obtain ⟨q3, q4, w3, w4⟩ := fr_rng hi hk
      rw [show sM S - i = (sM S - (i + 1)) + 1 by omega] at hQ
      rw [oq_s, List.flatMap_append, run_app] at hQ
      have vi : vp_in (nI i) 24 := vp_in_nI (by omega) (by decide)
      have vn : vp_in (nI pre.length) 11 := vp_in_nI (by omega) (by decide)
      have g3 : gI G (z + 54 + 3) (nI i).toNatClampNeg = nI (fr S i) := by rw [nI_clamp (by omega), hm.I 3 i (by omega) (by omega) (by show i < 24; omega)]; exact w3
      have g4 : gI G (z + 54 + 4) (nI i).toNatClampNeg = nI (tt S i) := by rw [nI_clamp (by omega), hm.I 4 i (by omega) (by omega) (by show i < 24; omega)]; exact w4
      have ga : gI G (z + 54 + 21) (nI pre.length).toNatClampNeg = nI a := by rw [nI_clamp (by omega)]; exact ea
      have g20 : gI G (z + 54 + 20) (nI i).toNatClampNeg = cnt S i p d := by rw [nI_clamp (by omega), fx.AI 20 i (by omega) (by decide)]; exact hc i hk
      have skip : (cnt S i p d = 0 ∨ can S (m0 ++ [a]) a i = false) → wpX11_round_202 rec Q (fun y0 y1 y2 y3 y4 => wpX11_round_12 rec Q n y0 y1 y2 y3 y4) (z + 54) (nI pre.length) (nI least) (nI i) G := by
        intro cs x hx
        rw [nI_1] at hx; subst hx
        have e1 : (if cnt S i p d = 0 then [] else [i] : List Nat).flatMap F = [] := by
          rcases cs with cs | cs
          · rw [if_pos cs]; rfl
          · split
            · rfl
            · rw [List.flatMap_cons, List.flatMap_nil, hF i cs]; rfl
        rw [e1] at hQ
        exact ihn (i + 1) s G (by omega) (by omega) (by omega) fx hI cm cp hQ
      refine hm.2.at 20 26 22 24 rfl rfl rfl (by omega) (by omega) vi ?_
      rw [g20]
      refine ifE (fun cz => skip (Or.inl cz)) (fun cz => ?_)
      have r74 : fr S i ≠ tt S i → (fr S i = a ∨ tt S i = a) → wpX11_round_74 rec Q (fun y0 y1 y2 y3 y4 => wpX11_round_12 rec Q n y0 y1 y2 y3 y4) (z + 54) (nI pre.length) (nI least) (nI i) G := by
        intro ne touch
        unfold wpX11_round_74
        refine ⟨hm.K, X11_isUsed hm cp (by omega) (fun x hx => (hrp x hx).2) (by omega) (fun hu => ifN (fun e => n10 e) (skip (Or.inr ?_))) (fun hu => ifP rfl ⟨hm.K, ?_⟩)⟩
        · obtain ⟨x, hx, ex⟩ := hu
          refine decide_eq_false (fun q => q.2 ?_)
          rcases husd x hx with w | w
          · omega
          · rw [ex] at w
            unfold nxt
            split
            · exact w.2
            · exact w.1
        · have cont : ∀ G', fxM (z + 54) rgI rgJ rgA G0 G' → mI z (run (mstep S (boC cho)) jstop s (F i)) G' → cel G' (z + 54 + 21) (b :: (m0 ++ [a])) → cel G' (z + 54 + 22) pre → wpX11_round_202 rec Q (fun y0 y1 y2 y3 y4 => wpX11_round_12 rec Q n y0 y1 y2 y3 y4) (z + 54) (nI pre.length) (nI least) (nI i) G' := by
            intro G' f' I' c1 c2 x hx
            rw [nI_1] at hx; subst hx
            rw [if_neg cz, List.flatMap_cons, List.flatMap_nil, List.append_nil] at hQ
            exact ihn (i + 1) _ G' (by omega) (by omega) (by omega) f' I' c1 c2 hQ
          have k145 := h145 i s G (fun y0 y1 y2 y3 y4 => wpX11_round_12 rec Q n y0 y1 y2 y3 y4) hk touch ne fx hI cm cp cont
          refine hm.2.at 4 4 20 24 rfl rfl rfl (by omega) (by omega) vi ?_
          refine hm.2.at 21 27 20 11 rfl rfl rfl (by omega) (by omega) vn ?_
          rw [g4, ga]
          obtain ⟨k22, l22, r22⟩ := hm.2.1.2 22 (by omega) (by omega)
          refine ifE (fun ct => ?_) (fun ct => ?_)
          · rw [nI_eqI (by omega) (by omega)] at ct
            have nf : fr S i ≠ a := fun q => ne (by rw [q, ct])
            have e : nxt S a i = fr S i := by unfold nxt; exact if_neg nf
            have e' : rx S a i = 100 + i := by unfold rx; rw [if_neg nf]; omega
            refine ifN (fun e => n10 e) ⟨hm.K, hm.2.at 3 3 20 24 rfl rfl rfl (by omega) (by omega) vi ⟨hm.K, z + 54 + 22, r22, ifN (fun e => n10 e) ?_⟩⟩
            rw [e, e', ← nI_add] at k145
            rw [g3]
            exact k145
          · rw [nI_eqI (by omega) (by omega)] at ct
            have nf : fr S i = a := by
              rcases touch with q | q
              · exact q
              · exact absurd q ct
            have e : nxt S a i = tt S i := by unfold nxt; exact if_pos nf
            have e' : rx S a i = i := by unfold rx; rw [if_pos nf]
            refine ifP rfl ⟨hm.K, hm.2.at 4 4 20 24 rfl rfl rfl (by omega) (by omega) vi ⟨hm.K, z + 54 + 22, r22, ifP rfl ?_⟩⟩
            rw [e, e'] at k145
            rw [g4]
            exact k145
      refine hm.2.at 3 3 20 24 rfl rfl rfl (by omega) (by omega) vi ?_
      refine hm.2.at 4 4 20 24 rfl rfl rfl (by omega) (by omega) vi ?_
      rw [g3, g4]
      refine ifE (fun ce => ?_) (fun ce => ?_)
      · rw [nI_eqI (by omega) (by omega)] at ce
        refine skip (Or.inr (decide_eq_false (fun q => q.2 ?_)))
        have : nxt S a i = a := by
          unfold nxt
          split
          · next z => rw [← ce]; exact z
          · rcases q.1 with z | z
            · exact z
            · rw [ce]; exact z
        rw [this]
        exact List.mem_append.mpr (Or.inr (List.mem_singleton.mpr rfl))
      · rw [nI_eqI (by omega) (by omega)] at ce
        refine hm.2.at 3 3 20 24 rfl rfl rfl (by omega) (by omega) vi ?_
        refine hm.2.at 21 27 20 11 rfl rfl rfl (by omega) (by omega) vn ?_
        rw [g3, ga]
        refine ifE (fun cf => ?_) (fun cf => ?_)
        · rw [nI_eqI (by omega) (by omega)] at cf
          exact r74 ce (Or.inl cf)
        · rw [nI_eqI (by omega) (by omega)] at cf
          refine hm.2.at 4 4 20 24 rfl rfl rfl (by omega) (by omega) vi ?_
          refine hm.2.at 21 27 20 11 rfl rfl rfl (by omega) (by omega) vn ?_
          rw [g4, ga]
          refine ifE (fun ct => ?_) (fun ct => ?_)
          · rw [nI_eqI (by omega) (by omega)] at ct
            exact r74 ce (Or.inr ct)
          · rw [nI_eqI (by omega) (by omega)] at ct
            refine skip (Or.inr (decide_eq_false (fun q => ?_)))
            rcases q.1 with z | z
            · exact cf z
            · exact ct z
theorem X11_round {z b len least : Nat} {G0 : Wd} {T S : St} {p d : Int32} {cho : Nat → Option Nat} (h0 : mid z G0 T S) (hi : Inv S) (hb : b < 10) (hlen : len ≤ 10) (hc : cntd (z + 54) G0 S p d (sM S)) (e29 : gI G0 (z + 54) 29 = nI len) (hch : chc z S cho G0) (hc10 : ∀ k i, cho k = some i → i < 10) (hls : least < sM S)
    (r : Nat) : ∀ (f a : Nat) (m0 pre : List Nat) (s : Jst) (G : Wd) (Q : Wd → Prop), r + 1 ≤ f → a < 10 → pre.length + (r + 1) = len → m0.length + 1 = pre.length → (∀ x ∈ m0, x < 10) → b ∉ m0 ++ [a] → rok (sM S) pre → (∀ x ∈ pre, x % 100 = least ∨ (fr S (x % 100) ∈ m0 ++ [a] ∧ tt S (x % 100) ∈ m0 ++ [a])) → fxM (z + 54) rgI rgJ rgA G0 G → mI z s G → cel G (z + 54 + 21) (b :: (m0 ++ [a])) → cel G (z + 54 + 22) pre → (∀ G', fxM (z + 54) rgI rgJ rgA G0 G' → mI z (run (mstep S (boC cho)) jstop s (dfx S b (oq S p d (least + 1) (sM S - (least + 1))) (r + 1) a (m0 ++ [a]) pre)) G' → cel G' (z + 54 + 21) (b :: (m0 ++ [a])) → cel G' (z + 54 + 22) pre → Q G') → wpX11_round f (z + 54) (nI pre.length) (nI least) G Q := by
  have hM := hi.1.1
  have hAR : ∀ o ∈ rgA, 18 < o ∧ o ≤ 26 := by decide
  have hsub : ∀ x ∈ [21, 22], x ∈ rgA := by decide
  have hsub2 : ∀ x ∈ [23, 24], x ∈ rgA := by decide
  -- the row's cell is written
  have wr : ∀ {pre : List Nat} {G : Wd} {x : Nat} {met : List Nat}, fxM (z + 54) rgI rgJ rgA G0 G → pre.length < 25 → cel G (z + 54 + 22) pre → cel G (z + 54 + 21) met → ∀ G4, G4 = uI G (z + 54 + 22) (nI pre.length).toNatClampNeg (nI x) → fxM (z + 54) [] [] [21, 22] G G4 ∧ cel G4 (z + 54 + 22) (pre ++ [x]) ∧ cel G4 (z + 54 + 21) met := by
    intro pre G x met fx hl cp cm G4 e4
    rw [nI_clamp (by omega)] at e4
    refine ⟨by rw [e4]; exact fxM.rf.aI 22 _ _ (by decide) (by omega), by rw [e4]; exact cp.snoc x, cm.same (fun j => by rw [e4, gI_uI, if_neg (by omega)])⟩
  induction r with
  | zero =>
    intro f a m0 pre s G Q hf ha hpl hml hmx hbm hrp husd fx hI cm cp hQ
    obtain ⟨f, rfl⟩ : ∃ f', f = f' + 1 := ⟨f - 1, by omega⟩
    have hm := h0.fx fx (by decide) (by decide) hAR
    have nab : a ≠ b := fun q => hbm (by rw [← q]; exact List.mem_append.mpr (Or.inr (List.mem_singleton.mpr rfl)))
    rw [dfx_s _ _ _ _ _ _ _ nab] at hQ
    unfold wpX11_round
    refine ⟨hm.K, ifE (fun c22 x hx => ⟨sM S - least, ?_⟩) (fun c22 => ?_)⟩
    · rw [nI_1] at hx; subst hx
      refine round_core (cho := cho) (F := fun k => if can S (m0 ++ [a]) a k then dfx S b (oq S p d (least + 1) (sM S - (least + 1))) 0 (nxt S a k) (m0 ++ [a] ++ [nxt S a k]) (pre ++ [rx S a k]) else []) h0 hi hb hlen hc hls ha (by omega) hml hmx hrp husd (fun k hk => by rw [hk]; rfl) (fun i s G k12 hk touch ne fx hI cm cp cont => ?_) (sM S - least) (least + 1) s G (by omega) (by omega) (by omega) fx hI cm cp hQ
      obtain ⟨q3, q4, w3, w4⟩ := fr_rng hi hk
      have hm := h0.fx fx (by decide) (by decide) hAR
      have hnx : nxt S a i < 10 := by unfold nxt; split <;> assumption
      obtain ⟨k22, l22, r22⟩ := hm.2.1.2 22 (by omega) (by omega)
      unfold wpX11_round_145
      refine ⟨k22, by rw [l22]; exact vp_in_nI (by show pre.length < 25; omega) (by decide), fun G4 e4 => ?_⟩
      obtain ⟨f4, c4, d4⟩ := wr fx (by omega) cp cm G4 e4
      have f4' := fx.up f4 (fun _ q => nomatch q) (fun _ q => nomatch q) hsub
      have m4 := h0.fx f4' (by decide) (by decide) hAR
      have I4 := hI.keep f4 (fun q => nomatch q) (fun q => nomatch q) (fun q => nomatch q) (by decide) (by decide)
      have e294 : gI G4 (z + 54) 29 = nI len := by rw [f4'.I 29 (by decide)]; exact e29
      refine ⟨m4.K, ifP (by rw [e294, nIs1 (by omega), show pre.length = len - 1 by omega]) ?_⟩
      refine m4.2.at 21 27 20 11 rfl rfl rfl (by omega) (by omega) (by unfold vp_in; decide) ?_
      have e0 : gI G4 (z + 54 + 21) 0 = nI b := d4 0 (Nat.succ_pos _)
      rw [e0]
      refine ifE (fun cb => ?_) (fun cb => ?_)
      · rw [nI_eqI (by omega) (by omega)] at cb
        have eF : (if can S (m0 ++ [a]) a i then dfx S b (oq S p d (least + 1) (sM S - (least + 1))) 0 (nxt S a i) (m0 ++ [a] ++ [nxt S a i]) (pre ++ [rx S a i]) else []) = [pre ++ [rx S a i]] := by
          rw [if_pos (show can S (m0 ++ [a]) a i = true from decide_eq_true ⟨touch, by rw [cb]; exact hbm⟩)]
          unfold dfx; exact if_pos cb
        rw [eF] at cont
        refine ring_visit m4 hi c4 e294 (by rw [List.length_append]; show pre.length + 1 = len; omega) (by omega) hlen (hrp.snoc hM hk) (fun k hk' => by rw [f4'.AI 25 k (by omega) (by decide)]; exact hch k hk') hc10 I4 (fun G5 f5 I5 => ?_)
        exact cont G5 (f4'.up f5 (fun _ q => q) (fun _ q => q) hsub2) I5 (d4.same (fun j => f5.AI 21 j (by omega) (by decide))) ((cel.cut c4).same (fun j => f5.AI 22 j (by omega) (by decide)))
      · rw [nI_eqI (by omega) (by omega)] at cb
        have eF : (if can S (m0 ++ [a]) a i then dfx S b (oq S p d (least + 1) (sM S - (least + 1))) 0 (nxt S a i) (m0 ++ [a] ++ [nxt S a i]) (pre ++ [rx S a i]) else []) = [] := by
          split
          · unfold dfx; exact if_neg cb
          · rfl
        rw [eF] at cont
        exact cont G4 f4' I4 d4 (cel.cut c4)
    · have hs : jstop s = true := by
        cases q : jstop s with
        | true => rfl
        | false => exact absurd (by rw [hI.1, show s.1 = false from q]; rfl) c22
      rw [run_stop hs] at hQ
      exact hQ G fx hI cm cp
  | succ r ih =>
    intro f a m0 pre s G Q hf ha hpl hml hmx hbm hrp husd fx hI cm cp hQ
    obtain ⟨f, rfl⟩ : ∃ f', f = f' + 1 := ⟨f - 1, by omega⟩
    have hm := h0.fx fx (by decide) (by decide) hAR
    have nab : a ≠ b := fun q => hbm (by rw [← q]; exact List.mem_append.mpr (Or.inr (List.mem_singleton.mpr rfl)))
    rw [dfx_s _ _ _ _ _ _ _ nab] at hQ
    unfold wpX11_round
    refine ⟨hm.K, ifE (fun c22 x hx => ⟨sM S - least, ?_⟩) (fun c22 => ?_)⟩
    · rw [nI_1] at hx; subst hx
      refine round_core (cho := cho) (F := fun k => if can S (m0 ++ [a]) a k then dfx S b (oq S p d (least + 1) (sM S - (least + 1))) (r + 1) (nxt S a k) (m0 ++ [a] ++ [nxt S a k]) (pre ++ [rx S a k]) else []) h0 hi hb hlen hc hls ha (by omega) hml hmx hrp husd (fun k hk => by rw [hk]; rfl) (fun i s G k12 hk touch ne fx hI cm cp cont => ?_) (sM S - least) (least + 1) s G (by omega) (by omega) (by omega) fx hI cm cp hQ
      obtain ⟨q3, q4, w3, w4⟩ := fr_rng hi hk
      have hm := h0.fx fx (by decide) (by decide) hAR
      have hnx : nxt S a i < 10 := by unfold nxt; split <;> assumption
      obtain ⟨k22, l22, r22⟩ := hm.2.1.2 22 (by omega) (by omega)
      obtain ⟨k21, l21, r21⟩ := hm.2.1.2 21 (by omega) (by omega)
      unfold wpX11_round_145
      refine ⟨k22, by rw [l22]; exact vp_in_nI (by show pre.length < 25; omega) (by decide), fun G4 e4 => ?_⟩
      obtain ⟨f4, c4, d4⟩ := wr fx (by omega) cp cm G4 e4
      have f4' := fx.up f4 (fun _ q => nomatch q) (fun _ q => nomatch q) hsub
      have m4 := h0.fx f4' (by decide) (by decide) hAR
      have I4 := hI.keep f4 (fun q => nomatch q) (fun q => nomatch q) (fun q => nomatch q) (by decide) (by decide)
      have e294 : gI G4 (z + 54) 29 = nI len := by rw [f4'.I 29 (by decide)]; exact e29
      refine ⟨m4.K, ifN (by rw [e294, nIs1 (by omega), nI_eqI (by omega) (by omega)]; omega) ?_⟩
      have ml : (b :: (m0 ++ [a])).length = pre.length + 1 := by rw [List.length_cons, List.length_append]; show m0.length + 1 + 1 = _; omega
      have mx : ∀ x ∈ b :: (m0 ++ [a]), x < 10 := fun x hx => by
        rcases List.mem_cons.mp hx with q | q
        · rw [q]; exact hb
        · rcases List.mem_append.mp q with w | w
          · exact hmx x w
          · rw [List.mem_singleton.mp w]; exact ha
      refine X11_isMet m4 d4 ml (by omega) mx hnx (ifE (fun cm0 => ?_) (fun cm0 => ?_))
      · have nmem : nxt S a i ∉ b :: (m0 ++ [a]) := fun q => by rw [if_pos q] at cm0; exact n10 cm0
        have nmb : nxt S a i ≠ b := fun q => nmem (by rw [q]; exact List.mem_cons_self ..)
        have nmm : nxt S a i ∉ m0 ++ [a] := fun q => nmem (List.mem_cons_of_mem _ q)
        have hcan : can S (m0 ++ [a]) a i = true := decide_eq_true ⟨touch, nmm⟩
        refine ⟨m4.K, z + 54 + 21, by rw [f4'.R]; exact (h0.2.1.2 21 (by omega) (by omega)).2.2, by rw [f4.K]; exact k21, by rw [f4.N, l21, nI_1]; exact vp_in_nI (by show pre.length + 1 < 11; omega) (by decide), fun G5 e5 => ?_⟩
        rw [nI_1] at e5 ⊢
        rw [nI_clamp (by omega)] at e5
        have f5 : fxM (z + 54) [] [] [21, 22] G4 G5 := by rw [e5]; exact fxM.rf.aI 21 _ _ (by decide) (by omega)
        have f5' := f4'.up f5 (fun _ q => nomatch q) (fun _ q => nomatch q) hsub
        have c21 : cel G5 (z + 54 + 21) (b :: (m0 ++ [a] ++ [nxt S a i])) := by
          have := d4.snoc (nxt S a i)
          rw [ml, ← e5] at this
          exact this
        have c22' : cel G5 (z + 54 + 22) (pre ++ [rx S a i]) := c4.same (fun j => by rw [e5, gI_uI, if_neg (by omega)])
        have us' : ∀ x ∈ pre ++ [rx S a i], x % 100 = least ∨ (fr S (x % 100) ∈ m0 ++ [a] ++ [nxt S a i] ∧ tt S (x % 100) ∈ m0 ++ [a] ++ [nxt S a i]) := fun x hx => by
          rcases List.mem_append.mp hx with q | q
          · rcases husd x q with w | w
            · exact Or.inl w
            · exact Or.inr ⟨List.mem_append.mpr (Or.inl w.1), List.mem_append.mpr (Or.inl w.2)⟩
          · refine Or.inr ?_
            have ex : x % 100 = i := by
              rw [List.mem_singleton.mp q]
              unfold rx
              split <;> omega
            rw [ex]
            have am : a ∈ m0 ++ [a] ++ [nxt S a i] := List.mem_append.mpr (Or.inl (List.mem_append.mpr (Or.inr (List.mem_singleton.mpr rfl))))
            have nm' : nxt S a i ∈ m0 ++ [a] ++ [nxt S a i] := List.mem_append.mpr (Or.inr (List.mem_singleton.mpr rfl))
            by_cases w : fr S i = a
            · have e : nxt S a i = tt S i := by unfold nxt; exact if_pos w
              exact ⟨by rw [w]; exact am, by rw [← e]; exact nm'⟩
            · have e : nxt S a i = fr S i := by unfold nxt; exact if_neg w
              have w2 : tt S i = a := by
                rcases touch with v | v
                · exact absurd v w
                · exact v
              exact ⟨by rw [← e]; exact nm', by rw [w2]; exact am⟩
        have key := ih f (nxt S a i) (m0 ++ [a]) (pre ++ [rx S a i]) s G5 (fun G6 => wpX11_round_202 (fun a0 p1 p2 G Q => wpX11_round f a0 p1 p2 G Q) Q k12 (z + 54) (nI pre.length) (nI least) (nI i) G6) (by omega) hnx (by rw [List.length_append]; show pre.length + 1 + (r + 1) = len; omega) (by rw [List.length_append, List.length_append]; show m0.length + 1 + 1 = pre.length + 1; omega) (fun x hx => mx x (List.mem_cons_of_mem _ hx)) (fun q => by
          rcases List.mem_append.mp q with w | w
          · exact hbm w
          · exact nmb (List.mem_singleton.mp w).symm) (hrp.snoc hM hk) us' f5' (I4.keep f5 (fun q => nomatch q) (fun q => nomatch q) (fun q => nomatch q) (by decide) (by decide)) c21 c22' (fun G6 f6 I6 c61 c62 => by
            rw [if_pos hcan] at cont
            exact cont G6 f6 I6 (cel.cut (l := b :: (m0 ++ [a])) (m := [nxt S a i]) c61) (cel.cut c62))
        rw [List.length_append] at key
        exact key
      · have mem : nxt S a i ∈ b :: (m0 ++ [a]) := Classical.byContradiction (fun q => cm0 (by rw [if_neg q]))
        have eF : (if can S (m0 ++ [a]) a i then dfx S b (oq S p d (least + 1) (sM S - (least + 1))) (r + 1) (nxt S a i) (m0 ++ [a] ++ [nxt S a i]) (pre ++ [rx S a i]) else []) = [] := by
          rcases List.mem_cons.mp mem with q | q
          · split
            · rw [q]; exact dfx_ab _ _ _ _ _ _
            · rfl
          · rw [show can S (m0 ++ [a]) a i = false from decide_eq_false (fun w => w.2 q)]; rfl
        rw [eF] at cont
        exact cont G4 f4' I4 d4 (cel.cut c4)
    · have hs : jstop s = true := by
        cases q : jstop s with
        | true => rfl
        | false => exact absurd (by rw [hI.1, show s.1 = false from q]; rfl) c22
      rw [run_stop hs] at hQ
      exact hQ G fx hI cm cp
