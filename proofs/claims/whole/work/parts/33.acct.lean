/-! ===== amend, clear ===== -/
theorem X10_findLine {z : Nat} {G : Wd} {S : St} {la lb : Nat → Nat} {p : Int32} {Q : Option Nat → Wd → Prop} (h : CR z G S la lb) (hM : sL S ≤ 20) (h1 : rng p 0 ((sL S : Int) - 1) → nv p < sL S → Q (some (lb (nv p))) G) (h2 : ¬ rng p 0 ((sL S : Int) - 1) → Q none G) : wpX10_findLine z p G Q := by
  unfold wpX10_findLine
  refine ifE (fun a => h2 (fun c => ?_)) (fun a => ⟨h.K, ?_⟩)
  · rw [i_lt, il0] at a; have := c.1; omega
  rw [h.2.2.2.1.2]
  rw [i_lt, il0] at a
  refine ifE (fun b => h2 (fun c => ?_)) (fun b => ?_)
  · rw [i_le, nI_toInt (by omega)] at b; have := c.2; omega
  rw [i_le, nI_toInt (by omega)] at b
  have e := nv_i (x := p) (by omega)
  refine ⟨z + 4, h.1.R 0 4 4 (by decide), h.1.K 4 (by omega), by rw [h.1.N 4 (by omega)]; exact vpn (by omega) (by show p.toInt < 20; omega), fun r hr => ?_⟩
  rw [nv_c, (h.2.2.2.2.2.1 (nv p) (by omega)).1] at hr
  subst hr
  exact h1 ⟨by omega, by omega⟩ (by omega)
theorem CR.amend {z : Nat} {G : Wd} {S : St} {la lb : Nat → Nat} (h : CR z G S la lb) {j : Nat} (hj : j < sL S) (v : Int32) : CR z (uI G (lb j) 5 v) (sSet S 15 j v) la lb := by
  have hap := h.A
  obtain ⟨h1, ⟨h2a, h2b⟩, h3, ⟨h4a, h4b⟩, h5, h6, h7, h8⟩ := h
  have hl := (hap.2.1 j hj).1
  have fr : chg (fun b => b = lb j) (fun _ => False) G (uI G (lb j) 5 v) := chg.rf.wI _ _ _ rfl
  have hs : ∀ o i, o ≠ 15 → sA (sSet S 15 j v) o i = sA S o i := fun o i ho => by rw [sA_set, if_neg (fun q => ho q.1)]
  refine ⟨⟨fun o ho => ⟨by rw [fr.K]; exact (h1.1 o ho).1, by rw [fr.N]; exact (h1.1 o ho).2⟩, fun q hq => h1.2 q hq⟩, ⟨h2a.keep fr (by omega), h2b.keep fr (by omega)⟩, fun i' hi => ?_, ⟨by rw [fr.I (by omega)]; exact h4a, by rw [fr.I (by omega)]; exact h4b⟩, fun k' hk' => ?_, fun j' hj' => ?_, h7, fun c hc => ?_⟩
  · rw [fr.I (by omega), hs _ _ (by omega)]; exact h3 i' hi
  · obtain ⟨a1, b⟩ := h5 k' hk'
    have hd := hap.2.2.2.2.1 k' j hk' hj
    refine ⟨a1, ?_⟩
    refine lkAt.st (S := S) ?_ (fun o o1 o2 => hs o _ (by omega))
    obtain ⟨b1, b2, b3, b4, b5, b6, b7, b8⟩ := b
    exact ⟨b1, by rw [fr.I (by omega)]; exact b2, fun g g1 g2 => by rw [fr.I (by omega)]; exact b3 g g1 g2, fun g g1 g2 => by rw [fr.I (by omega)]; exact b4 g g1 g2, b5, b6, b7.keep fr (by omega), b8.keep fr (by omega)⟩
  · obtain ⟨a1, b1, b2, b3, b4, b5, b6, b7, b8, b9⟩ := h6 j' hj'
    have hd : j' = j ∧ lb j' = lb j ∨ j' ≠ j ∧ lb j' ≠ lb j := by
      by_cases e : j' = j
      · exact .inl ⟨e, by rw [e]⟩
      · refine .inr ⟨e, fun q => ?_⟩
        rcases Nat.lt_or_gt_of_ne e with c | c
        · have := hap.2.2.2.1 j' j c hj; omega
        · have := hap.2.2.2.1 j j' c hj'; omega
    refine ⟨a1, b1, by rw [gI_uI, if_neg (by omega), hs _ _ (by omega)]; exact b2, by rw [gI_uI, if_neg (by omega), hs _ _ (by omega)]; exact b3, by rw [gI_uI, if_neg (by omega), hs _ _ (by omega)]; exact b4, ?_, b6, b7, b8, b9⟩
    rw [gI_uI, sA_set]
    by_cases e : j' = j
    · rw [if_pos ⟨by rw [e], rfl⟩, if_pos ⟨rfl, e⟩]
    · rw [if_neg (by omega), if_neg (fun q => e q.2)]; exact b5
  · have := h8 c hc
    rw [fr.I (by omega), fr.I (by omega), hs _ _ (by omega)]
    refine ⟨this.1, fun q => ⟨(this.2 q).1, fun i hi => ?_⟩⟩
    rw [fr.I (by omega), hs _ _ (by omega)]
    exact (this.2 q).2 i hi
def oAmend (S : St) (j v : Int32) : Int64 × St := if rng j 0 ((sL S : Int) - 1) ∧ rng v (-1000000) 1000000 then ((sA S 15 (nv j)).toInt64, sSet S 15 (nv j) v) else (-9000000000000000001, S)
theorem C_amend {z : Nat} {G : Wd} {S T : St} {j v : Int32} {Q : Int64 → Wd → Prop} (h : mid z G S T) (hi : Inv S) (hQ : ∀ G', mid z G' (oAmend S j v).2 T → Q (oAmend S j v).1 G') : wpX10_amend z j v G Q := by
  unfold oAmend at hQ
  have hb : ¬ (rng j 0 ((sL S : Int) - 1) ∧ rng v (-1000000) 1000000) → Q (-9000000000000000001) G := fun n => by rw [if_neg n] at hQ; exact hQ G h
  obtain ⟨⟨la, lb, hc⟩, hm⟩ := h
  unfold wpX10_amend
  refine ⟨hc.K, X10_findLine hc hi.1.2 (fun a ak => ?_) (fun a => hb (fun c => a c.1))⟩
  refine X10_isAmount (fun b => ifN (fun e => n10 e) ?_) (fun b => ifP rfl (hb (fun c => b c.2)))
  rw [if_pos ⟨a, b⟩] at hQ
  have hl := (hc.2.2.2.2.2.1 (nv j) ak).2
  refine ⟨hl.1, fun x hx G1 e1 => ?_⟩
  rw [hl.2.2.2.2.1] at hx
  subst hx; subst e1
  exact hQ _ ⟨⟨la, lb, hc.amend ak v⟩, hm.chg (chg.rf.wI (P := fun b => b = lb (nv j)) (R := fun _ => False) _ _ _ rfl) (fun o ho => ⟨by have := (hc.A.2.1 (nv j) ak).1; omega, fun q => q⟩)⟩
theorem M_amend {z : Nat} {G : Wd} {S T : St} {j v : Int32} {Q : Int64 → Wd → Prop} (h : mid z G T S) (hi : Inv S) (hQ : ∀ G', mid z G' T (oAmend S j v).2 → Q (oAmend S j v).1 G') : wpX11_amend (z + 54) j v G Q := by
  unfold oAmend at hQ
  have hb : ¬ (rng j 0 ((sL S : Int) - 1) ∧ rng v (-1000000) 1000000) → Q (-9000000000000000001) G := fun n => by rw [if_neg n] at hQ; exact hQ G h
  have hL := hi.1.2
  unfold wpX11_amend
  refine ⟨h.K, X11_in 0 ((sL S : Int) - 1) rfl (by rw [i64, h.L, nIm1 (by omega)]) (fun a => ifN (fun e => n10 e) ?_) (fun a => ifP rfl (hb (fun c => a c.1)))⟩
  refine X11_in (-1000000) 1000000 rfl rfl (fun b => ifN (fun e => n10 e) ?_) (fun b => ifP rfl (hb (fun c => b c.2)))
  rw [if_pos ⟨a, b⟩] at hQ
  have a1 := a.1
  have a2 := a.2
  have e := nv_i a1
  have hv : vp_in j 20 := vpn a1 (by show j.toInt < 20; omega)
  refine ⟨h.K, h.2.at 15 16 20 20 rfl rfl rfl (by omega) (by omega) hv (fun x hx => h.2.at 15 16 20 20 rfl rfl rfl (by omega) (by omega) hv (fun G1 e1 => ?_))⟩
  rw [nv_c, h.I 15 (nv j) (by omega) (by omega) (by show nv j < 20; omega)] at hx
  subst hx; subst e1
  exact hQ _ (h.setM 15 (nv j) v (by omega) (by omega))
def oClear (S : St) : Int64 × St := ((nI (sL S)).toInt64, (S.1, S.2.1, 0))
theorem CR.clear {z : Nat} {G G' : Wd} {S : St} {la lb : Nat → Nat} (h : CR z G S la lb) (f : chg (fun b => b = z) (fun b => b = z + 4) G G') (e2 : gI G' z 2 = nI (sM S)) (e5 : gI G' z 5 = nI 0) : CR z G' (S.1, S.2.1, 0) la lb := by
  have hap := h.A
  obtain ⟨h1, ⟨h2a, h2b⟩, h3, ⟨h4a, h4b⟩, h5, h6, h7, h8⟩ := h
  obtain ⟨p1, p2, p3, p4, p5, p6⟩ := hap
  refine ⟨⟨fun o ho => ⟨by rw [f.K]; exact (h1.1 o ho).1, by rw [f.N]; exact (h1.1 o ho).2⟩, fun q hq => ?_⟩, ⟨h2a.keep f (by omega), h2b.keep f (by omega)⟩, fun i' hi => by rw [f.I (by omega)]; exact h3 i' hi, ⟨e2, e5⟩, fun k' hk' => ?_, fun j hj => ?_, ?_, fun c hc => ?_⟩
  · have hh : ∀ q ∈ cRf, q.1 ≠ 4 := by decide
    have := hh q hq
    rw [f.Rf (by omega)]; exact h1.2 q hq
  · obtain ⟨a1, b1, b2, b3, b4, b5, b6, b7, b8⟩ := h5 k' hk'
    have hl' := (p1 k' hk').1
    exact ⟨by rw [f.Rf (by omega)]; exact a1, by rw [f.K]; exact b1, by rw [f.I (by omega)]; exact b2, fun g g1 g2 => by rw [f.I (by omega)]; exact b3 g g1 g2, fun g g1 g2 => by rw [f.I (by omega)]; exact b4 g g1 g2, by rw [f.Rf (by omega)]; exact b5, by rw [f.Rf (by omega)]; exact b6, b7.keep f (by omega), b8.keep f (by omega)⟩
  · exact absurd hj (Nat.not_lt_zero _)
  · rw [f.1.1]
    exact ⟨p1, fun j q => absurd q (Nat.not_lt_zero _), p3, fun j j' _ q => absurd q (Nat.not_lt_zero _), fun k j _ q => absurd q (Nat.not_lt_zero _), p6⟩
  · have := h8 c hc
    rw [f.I (by omega), f.I (by omega)]
    refine ⟨this.1, fun q => ⟨(this.2 q).1, fun i hi => ?_⟩⟩
    rw [f.I (by omega)]
    exact (this.2 q).2 i hi
theorem C_clear_loop {z N : Nat} {G0 : Wd} {S : St} {la lb : Nat → Nat} {Q : Int64 → Wd → Prop} (hc : CR z G0 S la lb) (hN : N ≤ 20) (hQ : ∀ G', chg (fun b => b = z) (fun b => b = z + 4) G0 G' → gI G' z 2 = gI G0 z 2 → gI G' z 5 = 0 → Q (nI N).toInt64 G') (n : Nat) : ∀ (i : Nat) (G : Wd), i ≤ N → i + n = N + 1 → chg (fun b => b = z) (fun b => b = z + 4) G0 G → gI G z 2 = gI G0 z 2 → wpX10_clear_7 Q n z (nI N) (nI i) G := by
  induction n with
  | zero =>
    intro i G le e f g
    exfalso
    omega
  | succ n ih =>
    intro i G le e f g
    unfold wpX10_clear_7
    refine ifE (fun a => ⟨by rw [f.K]; exact hc.K, fun G1 e1 => ?_⟩) (fun a => ?_)
    · subst e1
      exact hQ _ (f.wI _ _ _ rfl) (by rw [gI_uI, if_neg (by omega)]; exact g) (by rw [gI_uI, if_pos ⟨rfl, rfl⟩])
    · rw [nI_leI (by omega) (by omega)] at a
      refine ⟨by rw [f.K]; exact hc.K, z + 4, by rw [f.Rf (by omega)]; exact hc.1.R 0 4 4 (by decide), by rw [f.K]; exact hc.1.K 4 (by omega), by rw [f.N, hc.1.N 4 (by omega)]; exact vp_in_nI (by show i < 20; omega) (by decide), fun G1 e1 x hx => ?_⟩
      rw [nI_1] at hx
      subst e1; subst hx
      exact ih (i + 1) _ (by omega) (by omega) (f.wR _ _ _ rfl) (by rw [gI_uR]; exact g)
theorem C_clear {z : Nat} {G : Wd} {S T : St} {Q : Int64 → Wd → Prop} (h : mid z G S T) (hi : Inv S) (hQ : ∀ G', mid z G' (oClear S).2 T → Q (oClear S).1 G') : wpX10_clear z G Q := by
  unfold oClear at hQ
  obtain ⟨⟨la, lb, hc⟩, hm⟩ := h
  have hL := hi.1.2
  unfold wpX10_clear
  refine ⟨hc.K, fun x hx => ?_⟩
  rw [hc.2.2.2.1.2] at hx
  subst hx
  refine ⟨sL S + 1, C_clear_loop hc hL (fun G' f e2 e5 => ?_) (sL S + 1) 0 G (by omega) (by omega) chg.rf rfl⟩
  exact hQ _ ⟨⟨la, lb, hc.clear f (by rw [e2]; exact hc.2.2.2.1.1) e5⟩, hm.chg f (fun o ho => ⟨by omega, by omega⟩)⟩
theorem M_clear {z : Nat} {G : Wd} {S T : St} {Q : Int64 → Wd → Prop} (h : mid z G T S) (hQ : ∀ G', mid z G' T (oClear S).2 → Q (oClear S).1 G') : wpX11_clear (z + 54) G Q := by
  unfold oClear at hQ
  unfold wpX11_clear
  refine ⟨h.K, fun x hx G1 e1 => ?_⟩
  rw [h.L] at hx
  subst hx
  rw [← nI_0] at e1
  subst e1
  exact hQ _ (h.setL 0)
