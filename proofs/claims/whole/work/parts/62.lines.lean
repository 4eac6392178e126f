/-! ===== accounts: the lines' ways and their sum (the class) ===== -/
def lnE (S : St) (b j : Nat) : Option (List Nat) := (wl S b (opl S (sA S 17 j) (sA S 18 j) (sM S)) (nv (sA S 16 j)) 10)[0]?
def endE (S : St) (b j : Nat) (e : Bool) : Fr := match lnE S b j with
  | none => none
  | some row => plr S e row
def hasW (S : St) (b n : Nat) : Prop := ∀ j, j < n → ∃ row, lnE S b j = some row
def sm (S : St) (b : Nat) (vv : Nat → Int64) (e : Bool) : Nat → Fr
  | 0 => some (0, 1)
  | j + 1 => fadd (sm S b vv e j) (fmul (endE S b j (if vv j < 0 then !e else e)) (vv j) 1)
theorem lnE_rok {S : St} (hi : Inv S) {b j : Nat} {row : List Nat} (h : lnE S b j = some row) : rok (sM S) row ∧ row.length < 10 :=
  wl_row hi.1.1 (opl_ok hi _ _).1 (Nat.le_refl _) row (List.mem_of_getElem? h)
theorem endE_wf {S : St} (hi : Inv S) (b j : Nat) (e : Bool) : wfF (endE S b j e) := by
  unfold endE
  cases h : lnE S b j with
  | none => exact wfF_none
  | some row => exact plr_wf' hi (lnE_rok hi h).1
theorem trm_wf {S : St} (hi : Inv S) (b j : Nat) (e : Bool) {v : Int64} (hv : nm v) : wfF (fmul (endE S b j e) v 1) :=
  (endE_wf hi b j e).mul hv (by unfold nm; decide) (by decide) (by rw [show nA (1 : Int64) = 1 by decide]; exact Nat.gcd_one_right _)
theorem wfF_0 : wfF (some (0, 1)) := fun q hq => by
  have := Option.some.inj hq
  subst this
  unfold T15
  decide
theorem sm_wf {S : St} (hi : Inv S) (b : Nat) {vv : Nat → Int64} (e : Bool) (n : Nat) (hv : ∀ j, j < n → nm (vv j)) : wfF (sm S b vv e n) := by
  induction n with
  | zero => exact wfF_0
  | succ n ih => exact (ih (fun j hj => hv j (by omega))).add (trm_wf hi b n _ (hv n (by omega)))
/-- the lines' fractions hold their ends -/
def wghd (G : Wd) (S : St) (lb : Nat → Nat) (b n : Nat) : Prop := ∀ j, j < n → isF G (lb j + 1) (endE S b j false) ∧ isF G (lb j + 2) (endE S b j true)
theorem X10_sumLines {z b : Nat} {G0 : Wd} {S : St} {la lb : Nat → Nat} {ch : Int32} {am : Int64} {vv : Nat → Int64} {Q : Wd → Prop} (h0 : CR z G0 S la lb) (hi : Inv S) (hw : wghd G0 S lb b (sL S)) (hvv : ∀ i, i < sL S → (if nI i = ch then am else (sA S 15 i).toInt64) = vv i) (hnm : ∀ i, i < sL S → nm (vv i))
    (hQ : ∀ G', chg (fun b => z + 43 ≤ b ∧ b ≤ z + 45) (fun _ => False) G0 G' → isF G' (z + 43) (sm S b vv false (sL S)) → isF G' (z + 44) (sm S b vv true (sL S)) → Q G') : wpX10_sumLines z ch am G0 Q := by
  have hN := hi.1.2
  have at_ : ∀ G, chg (fun b => z + 43 ≤ b ∧ b ≤ z + 45) (fun _ => False) G0 G → CR z G S la lb ∧ wghd G S lb b (sL S) := fun G f =>
    ⟨h0.dst (f.mono (fun b q => by omega) (fun _ q => q)), fun j hj => by
      have := (h0.A.2.1 j hj).1
      exact ⟨(hw j hj).1.keep f (by omega), (hw j hj).2.keep f (by omega)⟩⟩
  have loop : ∀ (n i : Nat) (G : Wd), i ≤ sL S → i + n = sL S + 1 → chg (fun b => z + 43 ≤ b ∧ b ≤ z + 45) (fun _ => False) G0 G → isF G (z + 43) (sm S b vv false i) → isF G (z + 44) (sm S b vv true i) → wpX10_sumLines_21 Q n z ch am (nI i) G := by
    intro n
    induction n with
    | zero => intro i G le e; omega
    | succ n ih =>
      intro i G le e f i43 i44
      obtain ⟨h, w⟩ := at_ G f
      unfold wpX10_sumLines_21
      refine ⟨h.K, ?_⟩
      rw [h.2.2.2.1.2]
      refine ifE (fun c => ?_) (fun c => ?_)
      · rw [nI_leI (by omega) (by omega)] at c
        have ei : i = sL S := by omega
        rw [ei] at i43 i44
        exact hQ G f i43 i44
      · rw [nI_leI (by omega) (by omega)] at c
        have hlt : i < sL S := by omega
        obtain ⟨a1, b1, b2, b3, b4, b5, b6, b7, b8, b9⟩ := h.2.2.2.2.2.1 i hlt
        have hA := (h.A.2.1 i hlt).1
        have nv' := hnm i hlt
        have s60 : wpX10_sumLines_60 Q (fun y0 y1 y2 y3 y4 => wpX10_sumLines_21 Q n y0 y1 y2 y3 y4) z ch am (nI i) (lb i) (vv i) G := by
          have f127 : ∀ (G3 : Wd) (s1 : Nat) (e1 : Bool), chg (fun b => z + 43 ≤ b ∧ b ≤ z + 45) (fun _ => False) G0 G3 → s1 = lb i + 1 ∨ s1 = lb i + 2 → isF G3 s1 (endE S b i e1) → e1 = (if vv i < 0 then !true else true) → isF G3 (z + 43) (sm S b vv false (i + 1)) → isF G3 (z + 44) (sm S b vv true i) → wpX10_sumLines_127 Q (fun y0 y1 y2 y3 y4 => wpX10_sumLines_21 Q n y0 y1 y2 y3 y4) z ch am (nI i) (vv i) (z + 45) s1 G3 := by
            intro G3 s1 e1 f3 hs1 j1 ee i43' i44'
            obtain ⟨h3, _⟩ := at_ G3 f3
            unfold wpX10_sumLines_127
            refine ⟨h3.1.K 45 (by omega), X2_prod (h3.1.K 45 (by omega)) j1 (endE_wf hi b i e1).ok nv' (by unfold nm; decide) ?_⟩
            have f4 : chg (fun b => b = z + 45) (fun _ => False) G3 (wF G3 (z + 45) (fmul (endE S b i e1) (vv i) 1)) := chg.rf.wF _ _ rfl
            have j45 := isF_wF (h3.1.K 45 (by omega)) (fmul (endE S b i e1) (vv i) 1)
            generalize wF G3 (z + 45) (fmul (endE S b i e1) (vv i) 1) = G4 at f4 j45
            have f4' := f3.tr (f4.mono (P' := fun b => z + 43 ≤ b ∧ b ≤ z + 45) (fun b q => by omega) (fun _ q => q))
            obtain ⟨h4, _⟩ := at_ G4 f4'
            refine ⟨h4.K, z + 44, h4.1.R 0 12 44 (by decide), z + 45, h4.1.R 0 13 45 (by decide), h4.1.K 44 (by omega), ?_⟩
            refine X2_add (i44'.keep f4 (by omega)) j45 (sm_wf hi b true i (fun j hj => hnm j (by omega))) (trm_wf hi b i e1 nv') ?_
            intro x hx
            rw [nI_1] at hx; subst hx
            have f5 : chg (fun b => b = z + 44) (fun _ => False) G4 (wF G4 (z + 44) (fadd (sm S b vv true i) (fmul (endE S b i e1) (vv i) 1))) := chg.rf.wF _ _ rfl
            refine ih (i + 1) _ (by omega) (by omega) (f4'.tr (f5.mono (fun b q => by omega) (fun _ q => q))) ((i43'.keep f4 (by omega)).keep f5 (by omega)) ?_
            have := isF_wF (h4.1.K 44 (by omega)) (fadd (sm S b vv true i) (fmul (endE S b i e1) (vv i) 1))
            rw [ee] at this ⊢
            exact this
          have f86 : ∀ (s1 : Nat) (e1 : Bool), s1 = lb i + 1 ∨ s1 = lb i + 2 → isF G s1 (endE S b i e1) → e1 = (if vv i < 0 then !false else false) → wpX10_sumLines_86 Q (fun y0 y1 y2 y3 y4 => wpX10_sumLines_21 Q n y0 y1 y2 y3 y4) z ch am (nI i) (lb i) (vv i) (z + 45) s1 G := by
            intro s1 e1 hs1 j1 ee
            unfold wpX10_sumLines_86
            refine ⟨h.1.K 45 (by omega), X2_prod (h.1.K 45 (by omega)) j1 (endE_wf hi b i e1).ok nv' (by unfold nm; decide) ?_⟩
            have f4 : chg (fun b => b = z + 45) (fun _ => False) G (wF G (z + 45) (fmul (endE S b i e1) (vv i) 1)) := chg.rf.wF _ _ rfl
            have j45 := isF_wF (h.1.K 45 (by omega)) (fmul (endE S b i e1) (vv i) 1)
            generalize wF G (z + 45) (fmul (endE S b i e1) (vv i) 1) = G4 at f4 j45
            have f4' := f.tr (f4.mono (P' := fun b => z + 43 ≤ b ∧ b ≤ z + 45) (fun b q => by omega) (fun _ q => q))
            obtain ⟨h4, _⟩ := at_ G4 f4'
            refine ⟨h4.K, z + 43, h4.1.R 0 11 43 (by decide), z + 45, h4.1.R 0 13 45 (by decide), h4.1.K 43 (by omega), ?_⟩
            refine X2_add (i43.keep f4 (by omega)) j45 (sm_wf hi b false i (fun j hj => hnm j (by omega))) (trm_wf hi b i e1 nv') ?_
            have f5 : chg (fun b => b = z + 43) (fun _ => False) G4 (wF G4 (z + 43) (fadd (sm S b vv false i) (fmul (endE S b i e1) (vv i) 1))) := chg.rf.wF _ _ rfl
            have j43 : isF (wF G4 (z + 43) (fadd (sm S b vv false i) (fmul (endE S b i e1) (vv i) 1))) (z + 43) (sm S b vv false (i + 1)) := by
              have := isF_wF (h4.1.K 43 (by omega)) (fadd (sm S b vv false i) (fmul (endE S b i e1) (vv i) 1))
              rw [ee] at this ⊢
              exact this
            generalize wF G4 (z + 43) (fadd (sm S b vv false i) (fmul (endE S b i e1) (vv i) 1)) = G5 at f5 j43
            have f5' := f4'.tr (f5.mono (P' := fun b => z + 43 ≤ b ∧ b ≤ z + 45) (fun b q => by omega) (fun _ q => q))
            obtain ⟨h5, w5⟩ := at_ G5 f5'
            obtain ⟨_, d1, d2, d3, d4, d5, d6, d7, d8, d9⟩ := h5.2.2.2.2.2.1 i hlt
            have j44 := (i44.keep f4 (by omega)).keep f5 (by omega)
            refine ⟨h5.K, z + 45, h5.1.R 0 13 45 (by decide), ifE (fun cv => ⟨d1, lb i + 1, d6, f127 G5 _ false f5' (Or.inl rfl) (w5 i hlt).1 (by rw [if_pos cv]; rfl) j43 j44⟩) (fun cv => ⟨d1, lb i + 2, d7, f127 G5 _ true f5' (Or.inr rfl) (w5 i hlt).2 (by rw [if_neg cv]) j43 j44⟩)⟩
          unfold wpX10_sumLines_60
          refine ⟨h.K, z + 45, h.1.R 0 13 45 (by decide), ifE (fun cv => ⟨b1, lb i + 2, b7, f86 _ true (Or.inr rfl) (w i hlt).2 (by rw [if_pos cv]; rfl)⟩) (fun cv => ⟨b1, lb i + 1, b6, f86 _ false (Or.inl rfl) (w i hlt).1 (by rw [if_neg cv])⟩)⟩
        refine ⟨z + 4, h.1.R 0 4 4 (by decide), h.1.K 4 (by omega), by rw [h.1.N 4 (by omega)]; exact vp_in_nI (by show i < 20; omega) (by decide), fun r hr => ?_⟩
        rw [nI_clamp (by omega), a1] at hr
        subst hr
        have e15 := hvv i hlt
        refine ifE (fun cc => ?_) (fun cc => ⟨b1, ?_⟩)
        · rw [if_pos cc] at e15
          rw [← e15] at s60
          exact s60
        · rw [if_neg cc] at e15
          rw [b5, e15]
          exact s60
  unfold wpX10_sumLines
  refine ⟨h0.K, z + 43, h0.1.R 0 11 43 (by decide), h0.1.K 43 (by omega), X2_become (h0.1.K 43 (by omega)) (by decide) (by decide) ?_⟩
  have e0 : (some ((0 : Int64) / lN (max (jg 0 1) 1), (1 : Int64) / lN (max (jg 0 1) 1)) : Fr) = some (0, 1) := by decide
  rw [e0]
  have f1 : chg (fun b => z + 43 ≤ b ∧ b ≤ z + 45) (fun _ => False) G0 (wF G0 (z + 43) (some (0, 1))) := chg.rf.wF _ _ ⟨by omega, by omega⟩
  have j1 := isF_wF (h0.1.K 43 (by omega)) (some (0, 1))
  generalize wF G0 (z + 43) (some (0, 1)) = G1 at f1 j1
  obtain ⟨h1, _⟩ := at_ G1 f1
  refine ⟨h1.K, z + 44, h1.1.R 0 12 44 (by decide), h1.1.K 44 (by omega), X2_become (h1.1.K 44 (by omega)) (by decide) (by decide) ?_⟩
  rw [e0]
  have f2 : chg (fun b => b = z + 44) (fun _ => False) G1 (wF G1 (z + 44) (some (0, 1))) := chg.rf.wF _ _ rfl
  have j2 := isF_wF (h1.1.K 44 (by omega)) (some (0, 1))
  exact ⟨sL S + 1, loop (sL S + 1) 0 _ (by omega) (by omega) (f1.tr (f2.mono (fun b q => by omega) (fun _ q => q))) (j1.keep f2 (by omega)) j2⟩
/-! weighing -/
def wP (z : Nat) (S : St) (lb : Nat → Nat) (b : Nat) : Prop := (z + 5 ≤ b ∧ b ≤ z + 45 ∧ b ≠ z + 11 ∧ b ≠ z + 12) ∨ ∃ j, j < sL S ∧ (b = lb j + 1 ∨ b = lb j + 2)
theorem CR.wgh {z : Nat} {G G' : Wd} {S : St} {la lb : Nat → Nat} (h : CR z G S la lb) (f : chg (wP z S lb) (fun b => b = z + 6) G G') : CR z G' S la lb := by
  have hap := h.A
  refine h.keep f (fun o ho q w => ?_) (fun q hq => ?_) (by omega) (by omega) (fun k hk i hi => ⟨fun w => ?_, ?_⟩) (fun j hj => ⟨fun w => ?_, ?_⟩)
  · rcases w with w | ⟨j, hj, w⟩
    · omega
    · have := (hap.2.1 j hj).1; omega
  · have hh : ∀ q ∈ cRf, q.1 ≠ 6 := by decide
    have := hh q hq
    omega
  · have h1 := (hap.1 k hk).1
    rcases w with w | ⟨j, hj, w⟩
    · omega
    · have := hap.2.2.2.2.1 k j hk hj; omega
  · have h1 := (hap.1 k hk).1; omega
  · have h1 := (hap.2.1 j hj).1
    rcases w with w | ⟨j', hj', w⟩
    · omega
    · rcases Nat.lt_trichotomy j j' with q | q | q
      · have := hap.2.2.2.1 j j' q hj'; omega
      · subst q; omega
      · have := hap.2.2.2.1 j' j q hj; omega
  · have h1 := (hap.2.1 j hj).1; omega
theorem pd_join {p d : Int32} (hp : rng p 0 7) (hd : rng d 0 9999) : rng (p * 10000 + d) 0 79999 ∧ (p * 10000 + d) / 10000 = p ∧ (p * 10000 + d) % 10000 = d := by
  have ep := nI_nv hp.1
  have ed := nI_nv hd.1
  have vp := nv_i hp.1
  have vd := nv_i hd.1
  have bp := hp.2
  have bd := hd.2
  have e : p * 10000 + d = nI (nv p * 10000 + nv d) := by
    have t1 : (10000 : Int32).toInt = 10000 := rfl
    have m1 : (p * 10000).toInt = p.toInt * 10000 := by rw [Int32.toInt_mul, t1]; exact bm32 (by omega) (by omega)
    have m2 : (p * 10000 + d).toInt = p.toInt * 10000 + d.toInt := by rw [Int32.toInt_add, m1]; exact bm32 (by omega) (by omega)
    rw [i_eq, m2, nI_toInt (by omega)]
    omega
  rw [e]
  refine ⟨⟨by rw [nI_toInt (by omega)]; omega, by rw [nI_toInt (by omega)]; omega⟩, ?_, ?_⟩
  · have := pk_div (a := nv p * 10000 + nv d) (d := 10000) (by omega) (by omega) (by omega)
    rw [show (nv p * 10000 + nv d) / 10000 = nv p by omega, ← ep] at this
    exact this
  · have := nI_mod (a := nv p * 10000 + nv d) (d := 10000) (by omega) (by omega)
    rw [show (nv p * 10000 + nv d) % 10000 = nv d by omega, ← ed] at this
    exact this
theorem X10_weighLines {z b : Nat} {G0 : Wd} {S : St} {la lb : Nat → Nat} {Q : Int32 → Wd → Prop} (h0 : CR z G0 S la lb) (hi : Inv S) (hb : b < 10)
    (h1 : hasW S b (sL S) → ∀ G', chg (wP z S lb) (fun b => b = z + 6) G0 G' → wghd G' S lb b (sL S) → Q 1 G') (h2 : ¬ hasW S b (sL S) → ∀ G', chg (wP z S lb) (fun b => b = z + 6) G0 G' → Q 0 G') : wpX10_weighLines z (nI b) G0 Q := by
  have hN := hi.1.2
  have loop : ∀ (n i : Nat) (G : Wd), i ≤ sL S → i + n = sL S + 1 → chg (wP z S lb) (fun b => b = z + 6) G0 G → wghd G S lb b i → hasW S b i → wpX10_weighLines_2 Q n z (nI b) (nI i) G := by
    intro n
    induction n with
    | zero => intro i G le e; omega
    | succ n ih =>
      intro i G le e f w hh
      have h := h0.wgh f
      unfold wpX10_weighLines_2
      refine ⟨h.K, ?_⟩
      rw [h.2.2.2.1.2]
      refine ifE (fun c => ?_) (fun c => ?_)
      · rw [nI_leI (by omega) (by omega)] at c
        have ei : i = sL S := by omega
        rw [ei] at w hh
        exact h1 hh G f w
      · rw [nI_leI (by omega) (by omega)] at c
        have hlt : i < sL S := by omega
        have hA := h.A
        have hAi := (hA.2.1 i hlt).1
        obtain ⟨a1, b1, b2, b3, b4, b5, b6, b7, b8, b9⟩ := h.2.2.2.2.2.1 i hlt
        obtain ⟨r15, r16, r17, r18⟩ := hi.2.2.2.2.2 i hlt
        obtain ⟨j1, j2, j3⟩ := pd_join r17 r18
        have em := nI_nv r16.1
        have vm := nv_i r16.1
        have lm := r16.2
        refine ⟨z + 4, h.1.R 0 4 4 (by decide), h.1.K 4 (by omega), by rw [h.1.N 4 (by omega)]; exact vp_in_nI (by show i < 20; omega) (by decide), fun r hr => ?_⟩
        rw [nI_clamp (by omega), a1] at hr
        subst hr
        refine ⟨b1, ?_⟩
        rw [b3, b4]
        refine X10_gather h hi j1 (fun G1 f1 c1 o1 => ?_)
        rw [j2, j3] at o1
        have f1' : chg (wP z S lb) (fun b => b = z + 6) G0 G1 := f.tr (f1.mono (fun b q => Or.inl (by omega)) (fun _ q => q))
        obtain ⟨_, d1, d2, _⟩ := c1.2.2.2.2.2.1 i hlt
        obtain ⟨hl, h24⟩ := opl_ok hi (sA S 17 i) (sA S 18 i)
        refine ⟨c1.K, z + 5, c1.1.R 0 6 5 (by decide), d1, z + 34, c1.1.R 0 8 34 (by decide), c1.1.K 5 (by omega), ?_⟩
        rw [d2, em]
        have fr2 : ∀ G2, chg (aP z) (fun _ => False) G1 G2 → chg (wP z S lb) (fun b => b = z + 6) G0 G2 := fun G2 f2 => f1'.tr (f2.mono (fun b q => Or.inl (by omega)) (fun _ q => absurd q id))
        refine X9_pickWay (k := 0) c1 hi o1 hl h24 (by omega) hb (by omega) rfl (fun hn G2 f2 => ifP rfl (h2 (fun hh' => ?_) G2 (fr2 G2 f2))) (fun row hr G2 f2 p2 e3 => ifN (fun e => n10 e) ?_)
        · obtain ⟨row, er⟩ := hh' i hlt
          have hn' : lnE S b i = none := hn
          rw [hn'] at er; cases er
        · have er : lnE S b i = some row := hr
          have hrow := lnE_rok hi er
          have c2 := h0.wgh (fr2 G2 f2)
          obtain ⟨_, g1, g2, g3, g4, g5, g6, g7, g8, g9⟩ := c2.2.2.2.2.2.1 i hlt
          refine ⟨g1, lb i + 1, g6, c2.K, z + 5, c2.1.R 0 6 5 (by decide), c2.1.K 5 (by omega), X9_low c2 e3 (by omega) ⟨_, rfl, g8, ?_⟩⟩
          refine X2_copy g8 p2.end.1 (by omega) ?_
          have f3 : chg (fun b => b = lb i + 1) (fun _ => False) G2 (wF G2 (lb i + 1) (plr S false row)) := chg.rf.wF _ _ rfl
          have k1 := isF_wF g8 (plr S false row)
          generalize wF G2 (lb i + 1) (plr S false row) = G3 at f3 k1
          have f3' : chg (wP z S lb) (fun b => b = z + 6) G0 G3 := (fr2 G2 f2).tr (f3.mono (fun b q => Or.inr ⟨i, hlt, Or.inl q⟩) (fun _ q => absurd q id))
          have c3 := h0.wgh f3'
          obtain ⟨_, m1, m2, m3, m4, m5, m6, m7, m8, m9⟩ := c3.2.2.2.2.2.1 i hlt
          have p3 := p2.keep (by omega) f3 (fun b q => by omega)
          refine ⟨m1, lb i + 2, m7, c3.K, z + 5, c3.1.R 0 6 5 (by decide), c3.1.K 5 (by omega), X9_high c3 (by rw [f3.I (by omega)]; exact e3) (by omega) ⟨_, rfl, m9, ?_⟩⟩
          refine X2_copy m9 p3.end.2 (by omega) ?_
          have f4 : chg (fun b => b = lb i + 2) (fun _ => False) G3 (wF G3 (lb i + 2) (plr S true row)) := chg.rf.wF _ _ rfl
          have k2 := isF_wF m9 (plr S true row)
          generalize wF G3 (lb i + 2) (plr S true row) = G4 at f4 k2
          intro x hx
          rw [nI_1] at hx; subst hx
          refine ih (i + 1) G4 (by omega) (by omega) (f3'.tr (f4.mono (fun b q => Or.inr ⟨i, hlt, Or.inr q⟩) (fun _ q => absurd q id))) (fun j hj => ?_) (fun j hj => ?_)
          · by_cases q : j = i
            · subst q
              have e1 : endE S b j false = plr S false row := by unfold endE; rw [er]
              have e2 : endE S b j true = plr S true row := by unfold endE; rw [er]
              rw [e1, e2]
              exact ⟨k1.keep f4 (by omega), k2⟩
            · have lt : j < i := by omega
              have hd := hA.2.2.2.1 j i lt hlt
              have hj1 := (hA.2.1 j (by omega)).1
              have w1 := w j lt
              refine ⟨(((w1.1.keep f1 (by omega)).keep f2 (by omega)).keep f3 (by omega)).keep f4 (by omega), (((w1.2.keep f1 (by omega)).keep f2 (by omega)).keep f3 (by omega)).keep f4 (by omega)⟩
          · by_cases q : j = i
            · subst q; exact ⟨row, er⟩
            · exact hh j (by omega)
  exact ⟨sL S + 1, loop (sL S + 1) 0 G0 (by omega) (by omega) chg.rf (fun j hj => absurd hj (Nat.not_lt_zero _)) (fun j hj => absurd hj (Nat.not_lt_zero _))⟩
