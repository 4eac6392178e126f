/-! ===== the reference at its start ===== -/
def S00 : St := (fun _ _ => 0, 0, 0)
def S0 : St := sSet (sSet (sSet (sSet S00 13 0 (-1)) 13 1 (-1)) 13 2 (-1)) 13 3 (-1)
theorem MR.setI {m : Nat} {G : Wd} {S : St} (h : MR m G S) (o i : Nat) (v : Int32) (h1 : 1 ≤ o) : MR m (uI G (m + o) i v) (sSet S o i v) := by
  refine ⟨⟨h.1.1, h.1.2⟩, ?_, ?_, fun o' a b i' hi' => ?_⟩
  · rw [gI_uI, if_neg (by omega)]; exact h.2.1
  · rw [gI_uI, if_neg (by omega)]; exact h.2.2.1
  · rw [gI_uI, sA_set]
    by_cases e : o' = o ∧ i' = i
    · rw [if_pos e, if_pos ⟨by omega, e.2⟩]
    · rw [if_neg e, if_neg (fun q => e ⟨by omega, q.2⟩)]; exact h.2.2.2 o' a b i' hi'
/-- rows made up to o -/
def bld (m : Nat) (G0 G : Wd) (o : Nat) : Prop := (gZ G = m + o ∧ gK G m = 11) ∧ (∀ o', 1 ≤ o' → o' < o → gK G (m + o') = mKd o' ∧ gN G (m + o') = mNs o' ∧ gR G m (mFd o') = some (m + o')) ∧ (∀ b, m ≤ b → ∀ j, gI G b j = 0) ∧ ∀ b, b < m → sameAt G0 G b
theorem mFd_inj : ∀ o, o < 27 → ∀ o', o' < o → 1 ≤ o' → mFd o' ≠ mFd o := by decide
theorem bld.step {m o k n f zz : Nat} {G0 G G1 G2 : Wd} (h : bld m G0 G o) (ho : 1 ≤ o) (ho' : o < 27) (hk : mKd o = k) (hn : mNs o = n) (hf : mFd o = f) (ez : zz = gZ G) (e1 : G1 = nC G k n) (e2 : G2 = uR G1 m f (some zz)) : bld m G0 G2 (o + 1) := by
  obtain ⟨⟨h1, h2⟩, h3, h4, h5⟩ := h
  subst hk; subst hn; subst hf
  subst e2; subst e1; subst ez
  refine ⟨⟨by rw [gZ_uR, gZ_nC, h1]; omega, by rw [gK_uR, gK_nC, if_neg (by omega)]; exact h2⟩, fun o' a b => ?_, fun b hb j => ?_, fun b hb => ?_⟩
  · rw [gK_uR, gN_uR, gK_nC, gN_nC, gR_uR, gR_nC]
    by_cases c : o' = o
    · rw [if_pos (by omega), if_pos (by omega), if_pos ⟨rfl, by rw [c]⟩, h1, c]; exact ⟨rfl, rfl, rfl⟩
    · rw [if_neg (by omega), if_neg (by omega), if_neg (fun q => mFd_inj o ho' o' (by omega) a q.2), if_neg (by omega)]
      exact h3 o' a (by omega)
  · rw [gI_uR, gI_nC]
    by_cases c : b = gZ G
    · rw [if_pos c]
    · rw [if_neg c]; exact h4 b hb j
  · obtain ⟨q1, q2, q3, q4, q5⟩ := h5 b hb
    have nb : ¬ b = gZ G := by omega
    exact ⟨by rw [gK_uR, gK_nC, if_neg nb]; exact q1, by rw [gN_uR, gN_nC, if_neg nb]; exact q2, fun j => by rw [gI_uR, gI_nC, if_neg nb]; exact q3 j, fun j => by rw [gJ_uR, gJ_nC, if_neg nb]; exact q4 j, fun j => by rw [gR_uR, if_neg (by omega), gR_nC, if_neg nb]; exact q5 j⟩
theorem bld.K1 {m o k n : Nat} {G0 G G1 : Wd} (h : bld m G0 G o) (ho : 1 ≤ o) (e1 : G1 = nC G k n) : gK G1 m = 11 := by
  rw [e1, gK_nC, if_neg (by have := h.1.1; omega)]; exact h.1.2
theorem bld.MR {m : Nat} {G0 G : Wd} (h : bld m G0 G 27) : MR m G S00 := by
  obtain ⟨⟨h1, h2⟩, h3, h4, h5⟩ := h
  exact ⟨⟨h2, fun o a b => h3 o a (by omega)⟩, h4 m (by omega) 1, h4 m (by omega) 15, fun o a b i hi => h4 (m + o) (by omega) i⟩
set_option maxRecDepth 100000 in
theorem X11_init {m : Nat} {G : Wd} {Q : Wd → Prop} (hK : gK G m = 11) (hZ : gZ G = m + 1) (h0 : ∀ b, m ≤ b → ∀ j, gI G b j = 0) (hQ : ∀ G', MR m G' S0 → gZ G' = m + 27 → (∀ b, b < m → sameAt G G' b) → Q G') : wpX11_init m G Q := by
  have b1 : bld m G G 1 := ⟨⟨hZ, hK⟩, fun o' a b => by omega, h0, fun b hb => ⟨rfl, rfl, fun _ => rfl, fun _ => rfl, fun _ => rfl⟩⟩
  unfold wpX11_init
  intro z1 H1 ez1 e1
  refine ⟨b1.K1 (by omega) e1, fun F1 f1 => ?_⟩
  have b2 := b1.step (by omega) (by omega) rfl rfl rfl ez1 e1 f1
  intro z2 H2 ez2 e2
  refine ⟨b2.K1 (by omega) e2, fun F2 f2 => ?_⟩
  have b3 := b2.step (by omega) (by omega) rfl rfl rfl ez2 e2 f2
  intro z3 H3 ez3 e3
  refine ⟨b3.K1 (by omega) e3, fun F3 f3 => ?_⟩
  have b4 := b3.step (by omega) (by omega) rfl rfl rfl ez3 e3 f3
  intro z4 H4 ez4 e4
  refine ⟨b4.K1 (by omega) e4, fun F4 f4 => ?_⟩
  have b5 := b4.step (by omega) (by omega) rfl rfl rfl ez4 e4 f4
  intro z5 H5 ez5 e5
  refine ⟨b5.K1 (by omega) e5, fun F5 f5 => ?_⟩
  have b6 := b5.step (by omega) (by omega) rfl rfl rfl ez5 e5 f5
  intro z6 H6 ez6 e6
  refine ⟨b6.K1 (by omega) e6, fun F6 f6 => ?_⟩
  have b7 := b6.step (by omega) (by omega) rfl rfl rfl ez6 e6 f6
  intro z7 H7 ez7 e7
  refine ⟨b7.K1 (by omega) e7, fun F7 f7 => ?_⟩
  have b8 := b7.step (by omega) (by omega) rfl rfl rfl ez7 e7 f7
  intro z8 H8 ez8 e8
  refine ⟨b8.K1 (by omega) e8, fun F8 f8 => ?_⟩
  have b9 := b8.step (by omega) (by omega) rfl rfl rfl ez8 e8 f8
  intro z9 H9 ez9 e9
  refine ⟨b9.K1 (by omega) e9, fun F9 f9 => ?_⟩
  have b10 := b9.step (by omega) (by omega) rfl rfl rfl ez9 e9 f9
  intro z10 H10 ez10 e10
  refine ⟨b10.K1 (by omega) e10, fun F10 f10 => ?_⟩
  have b11 := b10.step (by omega) (by omega) rfl rfl rfl ez10 e10 f10
  intro z11 H11 ez11 e11
  refine ⟨b11.K1 (by omega) e11, fun F11 f11 => ?_⟩
  have b12 := b11.step (by omega) (by omega) rfl rfl rfl ez11 e11 f11
  intro z12 H12 ez12 e12
  refine ⟨b12.K1 (by omega) e12, fun F12 f12 => ?_⟩
  have b13 := b12.step (by omega) (by omega) rfl rfl rfl ez12 e12 f12
  intro z13 H13 ez13 e13
  refine ⟨b13.K1 (by omega) e13, fun F13 f13 => ?_⟩
  have b14 := b13.step (by omega) (by omega) rfl rfl rfl ez13 e13 f13
  intro z14 H14 ez14 e14
  refine ⟨b14.K1 (by omega) e14, fun F14 f14 => ?_⟩
  have b15 := b14.step (by omega) (by omega) rfl rfl rfl ez14 e14 f14
  intro z15 H15 ez15 e15
  refine ⟨b15.K1 (by omega) e15, fun F15 f15 => ?_⟩
  have b16 := b15.step (by omega) (by omega) rfl rfl rfl ez15 e15 f15
  intro z16 H16 ez16 e16
  refine ⟨b16.K1 (by omega) e16, fun F16 f16 => ?_⟩
  have b17 := b16.step (by omega) (by omega) rfl rfl rfl ez16 e16 f16
  intro z17 H17 ez17 e17
  refine ⟨b17.K1 (by omega) e17, fun F17 f17 => ?_⟩
  have b18 := b17.step (by omega) (by omega) rfl rfl rfl ez17 e17 f17
  intro z18 H18 ez18 e18
  refine ⟨b18.K1 (by omega) e18, fun F18 f18 => ?_⟩
  have b19 := b18.step (by omega) (by omega) rfl rfl rfl ez18 e18 f18
  intro z19 H19 ez19 e19
  refine ⟨b19.K1 (by omega) e19, fun F19 f19 => ?_⟩
  have b20 := b19.step (by omega) (by omega) rfl rfl rfl ez19 e19 f19
  intro z20 H20 ez20 e20
  refine ⟨b20.K1 (by omega) e20, fun F20 f20 => ?_⟩
  have b21 := b20.step (by omega) (by omega) rfl rfl rfl ez20 e20 f20
  intro z21 H21 ez21 e21
  refine ⟨b21.K1 (by omega) e21, fun F21 f21 => ?_⟩
  have b22 := b21.step (by omega) (by omega) rfl rfl rfl ez21 e21 f21
  intro z22 H22 ez22 e22
  refine ⟨b22.K1 (by omega) e22, fun F22 f22 => ?_⟩
  have b23 := b22.step (by omega) (by omega) rfl rfl rfl ez22 e22 f22
  intro z23 H23 ez23 e23
  refine ⟨b23.K1 (by omega) e23, fun F23 f23 => ?_⟩
  have b24 := b23.step (by omega) (by omega) rfl rfl rfl ez23 e23 f23
  intro z24 H24 ez24 e24
  refine ⟨b24.K1 (by omega) e24, fun F24 f24 => ?_⟩
  have b25 := b24.step (by omega) (by omega) rfl rfl rfl ez24 e24 f24
  intro z25 H25 ez25 e25
  refine ⟨b25.K1 (by omega) e25, fun F25 f25 => ?_⟩
  have b26 := b25.step (by omega) (by omega) rfl rfl rfl ez25 e25 f25
  intro z26 H26 ez26 e26
  refine ⟨b26.K1 (by omega) e26, fun F26 f26 => ?_⟩
  have b27 := b26.step (by omega) (by omega) rfl rfl rfl ez26 e26 f26
  have m0 := b27.MR
  have z0 := b27.1.1
  have s0 := b27.2.2.2
  have hv : ∀ i, i < 4 → vp_in (nI i) 4 := fun i hi => vp_in_nI hi (by decide)
  refine m0.at 13 13 20 4 rfl rfl rfl (by omega) (by omega) (hv 0 (by omega)) (fun g0 q0 => ?_)
  have m1 : MR m g0 (sSet S00 13 0 (-1)) := by rw [q0]; exact m0.setI 13 0 (-1) (by omega)
  refine m1.at 13 13 20 4 rfl rfl rfl (by omega) (by omega) (hv 1 (by omega)) (fun g1 q1 => ?_)
  have m2 : MR m g1 (sSet (sSet S00 13 0 (-1)) 13 1 (-1)) := by rw [q1]; exact m1.setI 13 1 (-1) (by omega)
  refine m2.at 13 13 20 4 rfl rfl rfl (by omega) (by omega) (hv 2 (by omega)) (fun g2 q2 => ?_)
  have m3 : MR m g2 (sSet (sSet (sSet S00 13 0 (-1)) 13 1 (-1)) 13 2 (-1)) := by rw [q2]; exact m2.setI 13 2 (-1) (by omega)
  refine m3.at 13 13 20 4 rfl rfl rfl (by omega) (by omega) (hv 3 (by omega)) (fun g3 q3 => ?_)
  have m4 : MR m g3 S0 := by rw [q3]; exact m3.setI 13 3 (-1) (by omega)
  refine hQ g3 m4 (by rw [q3, gZ_uI, q2, gZ_uI, q1, gZ_uI, q0, gZ_uI]; exact z0) (fun b hb => ?_)
  obtain ⟨w1, w2, w3, w4, w5⟩ := s0 b hb
  exact ⟨by rw [q3, gK_uI, q2, gK_uI, q1, gK_uI, q0, gK_uI]; exact w1, by rw [q3, gN_uI, q2, gN_uI, q1, gN_uI, q0, gN_uI]; exact w2, fun j => by rw [q3, gI_uI, if_neg (by omega), q2, gI_uI, if_neg (by omega), q1, gI_uI, if_neg (by omega), q0, gI_uI, if_neg (by omega)]; exact w3 j, fun j => by rw [q3, gJ_uI, q2, gJ_uI, q1, gJ_uI, q0, gJ_uI]; exact w4 j, fun j => by rw [q3, gR_uI, q2, gR_uI, q1, gR_uI, q0, gR_uI]; exact w5 j⟩
theorem Inv0 : Inv S0 := by
  refine ⟨⟨by decide, by decide⟩, fun p hp => ?_, fun k hk => absurd hk (Nat.not_lt_zero _), fun c hc => ?_, fun c i hc hi q => ?_, fun j hj => absurd hj (Nat.not_lt_zero _)⟩
  · have e : sA S0 1 p = 0 := by unfold S0; rw [sA_set, if_neg (by omega), sA_set, if_neg (by omega), sA_set, if_neg (by omega), sA_set, if_neg (by omega)]; rfl
    rw [e, il0]
    omega
  · have hh : ∀ c, c < 4 → rng (sA S0 13 c) (-1) 5 := by decide
    exact hh c hc
  · have hh : ∀ c, c < 4 → sA S0 13 c < 0 := by decide
    exact absurd (hh c hc) q
