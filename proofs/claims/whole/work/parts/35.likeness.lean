/-! ===== doubt, likeness ===== -/
theorem CR.relk {z : Nat} {G G' : Wd} {S S' : St} {la lb : Nat → Nat} {k : Nat} (h : CR z G S la lb) (hk : k < sM S) (fr : chg (fun b => b = la k ∨ b = la k + 1 ∨ b = la k + 2) (fun _ => False) G G') (hl : lkAt G' S' (la k) k) (eM : sM S' = sM S) (eL : sL S' = sL S) (hs : ∀ o i, o < 2 ∨ 12 < o ∨ i ≠ k → sA S' o i = sA S o i) : CR z G' S' la lb := by
  have hap := h.A
  obtain ⟨h1, ⟨h2a, h2b⟩, h3, ⟨h4a, h4b⟩, h5, h6, h7, h8⟩ := h
  have hll := (hap.1 k hk).1
  refine ⟨⟨fun o ho => ⟨by rw [fr.K]; exact (h1.1 o ho).1, by rw [fr.N]; exact (h1.1 o ho).2⟩, fun q hq => by rw [fr.Rf (fun q => q)]; exact h1.2 q hq⟩, ⟨h2a.keep fr (by omega), h2b.keep fr (by omega)⟩, fun i' hi => ?_, ⟨by rw [fr.I (by omega), eM]; exact h4a, by rw [fr.I (by omega), eL]; exact h4b⟩, fun k' hk' => ?_, fun j hj => ?_, by rw [fr.1.1, eM, eL]; exact h7, ?_⟩
  · rw [fr.I (by omega), hs _ _ (by omega)]; exact h3 i' hi
  · rw [eM] at hk'
    obtain ⟨a1, b⟩ := h5 k' hk'
    refine ⟨by rw [fr.Rf (fun q => q)]; exact a1, ?_⟩
    by_cases e : k' = k
    · rw [e]; exact hl
    · have hd := hap.ne hk hk' e
      refine lkAt.st (S := S) ?_ (fun o o1 o2 => hs o _ (by omega))
      obtain ⟨b1, b2, b3, b4, b5, b6, b7, b8⟩ := b
      exact ⟨by rw [fr.K]; exact b1, by rw [fr.I (by omega)]; exact b2, fun g g1 g2 => by rw [fr.I (by omega)]; exact b3 g g1 g2, fun g g1 g2 => by rw [fr.I (by omega)]; exact b4 g g1 g2, by rw [fr.Rf (fun q => q)]; exact b5, by rw [fr.Rf (fun q => q)]; exact b6, b7.keep fr (by omega), b8.keep fr (by omega)⟩
  · rw [eL] at hj
    obtain ⟨a1, b1, b2, b3, b4, b5, b6, b7, b8, b9⟩ := h6 j hj
    have := hap.2.2.2.2.1 k j hk hj
    refine ⟨by rw [fr.Rf (fun q => q)]; exact a1, lnAt.st (S := S) ⟨by rw [fr.K]; exact b1, by rw [fr.I (by omega)]; exact b2, by rw [fr.I (by omega)]; exact b3, by rw [fr.I (by omega)]; exact b4, by rw [fr.I (by omega)]; exact b5, by rw [fr.Rf (fun q => q)]; exact b6, by rw [fr.Rf (fun q => q)]; exact b7, by rw [fr.K]; exact b8, by rw [fr.K]; exact b9⟩ (fun o o1 o2 => hs o _ (by omega))⟩
  · refine cuAt.st (S := S) (fun c hc => ?_) (fun o i o1 o2 => hs o _ (by omega))
    have := h8 c hc
    rw [fr.I (by omega), fr.I (by omega)]
    refine ⟨this.1, fun q => ⟨(this.2 q).1, fun i hi => ?_⟩⟩
    rw [fr.I (by omega)]
    exact (this.2 q).2 i hi
def oDoubt (S : St) (k w s : Int32) : Int64 × St := if rng k 0 ((sM S : Int) - 1) ∧ rng w 0 100 ∧ rng s 0 500 then (0, sSet (sSet S 10 (nv k) w) 11 (nv k) s) else (-9000000000000000001, S)
theorem C_doubt {z : Nat} {G : Wd} {S T : St} {k w s : Int32} {Q : Int64 → Wd → Prop} (h : mid z G S T) (hi : Inv S) (hQ : ∀ G', mid z G' (oDoubt S k w s).2 T → Q (oDoubt S k w s).1 G') : wpX10_doubt z k w s G Q := by
  unfold oDoubt at hQ
  have hb : ¬ (rng k 0 ((sM S : Int) - 1) ∧ rng w 0 100 ∧ rng s 0 500) → Q (-9000000000000000001) G := fun n => by rw [if_neg n] at hQ; exact hQ G h
  obtain ⟨⟨la, lb, hc⟩, hm⟩ := h
  unfold wpX10_doubt
  refine ⟨hc.K, X10_find hc hi.1.1 (fun a ak => ?_) (fun a => hb (fun c => a c.1))⟩
  refine ifE (fun b => hb (fun c => ?_)) (fun b => ifE (fun d => hb (fun c => ?_)) (fun d => ifE (fun e => hb (fun c => ?_)) (fun e => ifE (fun f => ?_) (fun f => hb (fun c => ?_)))))
  · rw [i_lt, il0] at b; have := c.2.1.1; omega
  · rw [i_lt, il100] at d; have := c.2.1.2; omega
  · rw [i_lt, il0] at e; have := c.2.2.1; omega
  · rw [i_lt, il0] at b; rw [i_lt, il100] at d; rw [i_lt, il0] at e; rw [i_le, il500] at f
    have rw' : rng w 0 100 := ⟨by omega, by omega⟩
    have rs' : rng s 0 500 := ⟨by omega, by omega⟩
    rw [if_pos ⟨a, rw', rs'⟩] at hQ
    have hl := (hc.2.2.2.2.1 (nv k) ak).2
    have hr := hi.2.2.1 (nv k) ak
    obtain ⟨b1, b2, b3, b4, b5, b6, b7, b8⟩ := hl
    have hA := (hc.A.1 (nv k) ak).1
    refine ⟨b1, fun G1 e1 G2 e2 => ?_⟩
    have hI : ∀ j, j ≠ 11 → j ≠ 12 → gI G2 (la (nv k)) j = gI G (la (nv k)) j := fun j j1 j2 => by rw [e2, gI_uI, if_neg (by omega), e1, gI_uI, if_neg (by omega)]
    have h11 : gI G2 (la (nv k)) 11 = w := by rw [e2, gI_uI, if_neg (by omega), e1, gI_uI, if_pos ⟨rfl, rfl⟩]
    have h12 : gI G2 (la (nv k)) 12 = s := by rw [e2, gI_uI, if_pos ⟨rfl, rfl⟩]
    have hK2 : gK G2 = gK G := by rw [e2, gK_uI, e1, gK_uI]
    have hR2 : gR G2 = gR G := by rw [e2, gR_uI, e1, gR_uI]
    have sI : ∀ o, o ≠ 10 → o ≠ 11 → sA (sSet (sSet S 10 (nv k) w) 11 (nv k) s) o (nv k) = sA S o (nv k) := fun o o1 o2 => by rw [sA_set, if_neg (by omega), sA_set, if_neg (by omega)]
    have s10 : sA (sSet (sSet S 10 (nv k) w) 11 (nv k) s) 10 (nv k) = w := by rw [sA_set, if_neg (by omega), sA_set, if_pos ⟨rfl, rfl⟩]
    have s11 : sA (sSet (sSet S 10 (nv k) w) 11 (nv k) s) 11 (nv k) = s := by rw [sA_set, if_pos ⟨rfl, rfl⟩]
    have f2 : chg (fun b => b = la (nv k) ∨ b = la (nv k) + 1 ∨ b = la (nv k) + 2) (fun _ => False) G G2 := by
      rw [e2, e1]; exact (chg.rf.wI _ _ _ (.inl rfl)).wI _ _ _ (.inl rfl)
    refine X5_ends (S := sSet (sSet S 10 (nv k) w) 11 (nv k) s) (k := nv k) (by rw [hK2]; exact b1) (by rw [hI 1 (by omega) (by omega), sI 2 (by omega) (by omega)]; exact b3 1 (by omega) (by omega)) (by rw [hI 4 (by omega) (by omega), sI 5 (by omega) (by omega)]; exact b3 4 (by omega) (by omega)) (by rw [hI 5 (by omega) (by omega), sI 6 (by omega) (by omega)]; exact b3 5 (by omega) (by omega)) (by rw [h12, s11]) (by rw [hR2]; exact b5) (by rw [hR2]; exact b6) (by rw [hK2]; exact b7.1) (by rw [hK2]; exact b8.1) (by rw [sI 2 (by omega) (by omega)]; exact hr.1) (by rw [sI 5 (by omega) (by omega)]; exact hr.2.2.2.1) (by rw [sI 6 (by omega) (by omega)]; exact hr.2.2.2.2.1) (by rw [s11]; exact rs') ?_
    have f3 := (f2.wF (la (nv k) + 1) (some (endL (sSet (sSet S 10 (nv k) w) 11 (nv k) s) (nv k))) (.inr (.inl rfl))).wF (la (nv k) + 2) (some (endH (sSet (sSet S 10 (nv k) w) 11 (nv k) s) (nv k))) (.inr (.inr rfl))
    refine hQ _ ⟨⟨la, lb, hc.relk ak f3 ?_ rfl rfl (fun o i q => by rw [sA_set, if_neg (by omega), sA_set, if_neg (by omega)])⟩, hm.chg f3 (fun o ho => ⟨by omega, fun q => q⟩)⟩
    refine ⟨by rw [f3.K]; exact b1, ?_, fun g g1 g2 => ?_, fun g g1 g2 => ?_, by rw [f3.Rf (fun q => q)]; exact b5, by rw [f3.Rf (fun q => q)]; exact b6, ?_, ?_⟩
    · rw [wF_I (by omega), wF_I (by omega), hI 0 (by omega) (by omega)]; exact b2
    · rw [wF_I (by omega), wF_I (by omega), hI g (by omega) (by omega), sI _ (by omega) (by omega)]; exact b3 g g1 g2
    · rw [wF_I (by omega), wF_I (by omega)]
      by_cases c : g = 11
      · rw [c, h11]; exact s10.symm
      · by_cases c' : g = 12
        · rw [c', h12]; exact s11.symm
        · rw [hI g c c', sI _ (by omega) (by omega)]; exact b4 g g1 g2
    · refine (isF_wF (by rw [hK2]; exact b7.1) _).keep (P := fun b => b = la (nv k) + 2) (R := fun _ => False) (chg.rf.wF _ _ rfl) (by omega)
    · exact isF_wF (by rw [wF_K, hK2]; exact b8.1) _
  · rw [i_le, il500] at f; have := c.2.2.2; omega
theorem M_doubt {z : Nat} {G : Wd} {S T : St} {k w s : Int32} {Q : Int64 → Wd → Prop} (h : mid z G T S) (hi : Inv S) (hQ : ∀ G', mid z G' T (oDoubt S k w s).2 → Q (oDoubt S k w s).1 G') : wpX11_doubt (z + 54) k w s G Q := by
  unfold oDoubt at hQ
  have hb : ¬ (rng k 0 ((sM S : Int) - 1) ∧ rng w 0 100 ∧ rng s 0 500) → Q (-9000000000000000001) G := fun n => by rw [if_neg n] at hQ; exact hQ G h
  unfold wpX11_doubt
  refine ⟨h.K, X11_isOne h hi.1.1 (fun a ak => ifN (fun e => n10 e) ?_) (fun a => ifP rfl (hb (fun c => a c.1)))⟩
  refine X11_in 0 100 rfl rfl (fun b => ifN (fun e => n10 e) (X11_in 0 500 rfl rfl (fun d => ifN (fun e => n10 e) ?_) (fun d => ifP rfl (hb (fun c => d c.2.2))))) (fun b => ifP rfl (hb (fun c => b c.2.1)))
  rw [if_pos ⟨a, b, d⟩] at hQ
  have hM := hi.1.1
  have hv : vp_in k 24 := vpn a.1 (by have := a.2; show k.toInt < 24; omega)
  refine ⟨h.K, h.2.at 10 10 20 24 rfl rfl rfl (by omega) (by omega) hv (fun G1 e1 => ?_)⟩
  subst e1
  have h1 := h.setM 10 (nv k) w (by omega) (by omega)
  refine h1.2.at 11 11 20 24 rfl rfl rfl (by omega) (by omega) hv (fun G2 e2 => ?_)
  subst e2
  exact hQ _ (h1.setM 11 (nv k) s (by omega) (by omega))
/-! likeness -/
def lkS (S : St) (kd ab p q : Int32) : St := sSet (sSet (sSet (sSet (sSet (sSet (sSet (sSet (sSet (sSet (sSet S 2 (sM S) kd) 3 (sM S) (ab / 10)) 4 (sM S) (ab % 10)) 5 (sM S) p) 6 (sM S) q) 7 (sM S) 0) 8 (sM S) 0) 9 (sM S) 9999) 10 (sM S) 1) 11 (sM S) 0) 12 (sM S) 0
def lkT (S : St) (kd ab p q : Int32) : St := ((lkS S kd ab p q).1, sM S + 1, sL S)
def oLikeness (S : St) (kd ab p q : Int32) : Int64 × St := if rng kd 0 4 ∧ rng ab 0 99 ∧ rng p 1 1000 ∧ rng q 1 1000 then (if sM S < 24 then ((nI (sM S)).toInt64, lkT S kd ab p q) else (-9000000000000000003, S)) else (-9000000000000000001, S)
theorem lkT_lo {S : St} {kd ab p q : Int32} {o i : Nat} (h : o < 2 ∨ 12 < o ∨ i ≠ sM S) : sA (lkT S kd ab p q) o i = sA S o i := by
  show sA (lkS S kd ab p q) o i = sA S o i
  unfold lkS
  rw [sA_set, if_neg (by omega), sA_set, if_neg (by omega), sA_set, if_neg (by omega), sA_set, if_neg (by omega), sA_set, if_neg (by omega), sA_set, if_neg (by omega), sA_set, if_neg (by omega), sA_set, if_neg (by omega), sA_set, if_neg (by omega), sA_set, if_neg (by omega), sA_set, if_neg (by omega)]
theorem lkT_2 {S : St} {kd ab p q : Int32} : sA (lkT S kd ab p q) 2 (sM S) = kd := by
  show sA (lkS S kd ab p q) 2 (sM S) = kd
  unfold lkS
  rw [sA_set, if_neg (by omega), sA_set, if_neg (by omega), sA_set, if_neg (by omega), sA_set, if_neg (by omega), sA_set, if_neg (by omega), sA_set, if_neg (by omega), sA_set, if_neg (by omega), sA_set, if_neg (by omega), sA_set, if_neg (by omega), sA_set, if_neg (by omega), sA_set, if_pos ⟨rfl, rfl⟩]
theorem lkT_3 {S : St} {kd ab p q : Int32} : sA (lkT S kd ab p q) 3 (sM S) = ab / 10 := by
  show sA (lkS S kd ab p q) 3 (sM S) = ab / 10
  unfold lkS
  rw [sA_set, if_neg (by omega), sA_set, if_neg (by omega), sA_set, if_neg (by omega), sA_set, if_neg (by omega), sA_set, if_neg (by omega), sA_set, if_neg (by omega), sA_set, if_neg (by omega), sA_set, if_neg (by omega), sA_set, if_neg (by omega), sA_set, if_pos ⟨rfl, rfl⟩]
theorem lkT_4 {S : St} {kd ab p q : Int32} : sA (lkT S kd ab p q) 4 (sM S) = ab % 10 := by
  show sA (lkS S kd ab p q) 4 (sM S) = ab % 10
  unfold lkS
  rw [sA_set, if_neg (by omega), sA_set, if_neg (by omega), sA_set, if_neg (by omega), sA_set, if_neg (by omega), sA_set, if_neg (by omega), sA_set, if_neg (by omega), sA_set, if_neg (by omega), sA_set, if_neg (by omega), sA_set, if_pos ⟨rfl, rfl⟩]
theorem lkT_5 {S : St} {kd ab p q : Int32} : sA (lkT S kd ab p q) 5 (sM S) = p := by
  show sA (lkS S kd ab p q) 5 (sM S) = p
  unfold lkS
  rw [sA_set, if_neg (by omega), sA_set, if_neg (by omega), sA_set, if_neg (by omega), sA_set, if_neg (by omega), sA_set, if_neg (by omega), sA_set, if_neg (by omega), sA_set, if_neg (by omega), sA_set, if_pos ⟨rfl, rfl⟩]
theorem lkT_6 {S : St} {kd ab p q : Int32} : sA (lkT S kd ab p q) 6 (sM S) = q := by
  show sA (lkS S kd ab p q) 6 (sM S) = q
  unfold lkS
  rw [sA_set, if_neg (by omega), sA_set, if_neg (by omega), sA_set, if_neg (by omega), sA_set, if_neg (by omega), sA_set, if_neg (by omega), sA_set, if_neg (by omega), sA_set, if_pos ⟨rfl, rfl⟩]
theorem lkT_7 {S : St} {kd ab p q : Int32} : sA (lkT S kd ab p q) 7 (sM S) = 0 := by
  show sA (lkS S kd ab p q) 7 (sM S) = 0
  unfold lkS
  rw [sA_set, if_neg (by omega), sA_set, if_neg (by omega), sA_set, if_neg (by omega), sA_set, if_neg (by omega), sA_set, if_neg (by omega), sA_set, if_pos ⟨rfl, rfl⟩]
theorem lkT_8 {S : St} {kd ab p q : Int32} : sA (lkT S kd ab p q) 8 (sM S) = 0 := by
  show sA (lkS S kd ab p q) 8 (sM S) = 0
  unfold lkS
  rw [sA_set, if_neg (by omega), sA_set, if_neg (by omega), sA_set, if_neg (by omega), sA_set, if_neg (by omega), sA_set, if_pos ⟨rfl, rfl⟩]
theorem lkT_9 {S : St} {kd ab p q : Int32} : sA (lkT S kd ab p q) 9 (sM S) = 9999 := by
  show sA (lkS S kd ab p q) 9 (sM S) = 9999
  unfold lkS
  rw [sA_set, if_neg (by omega), sA_set, if_neg (by omega), sA_set, if_neg (by omega), sA_set, if_pos ⟨rfl, rfl⟩]
theorem lkT_10 {S : St} {kd ab p q : Int32} : sA (lkT S kd ab p q) 10 (sM S) = 1 := by
  show sA (lkS S kd ab p q) 10 (sM S) = 1
  unfold lkS
  rw [sA_set, if_neg (by omega), sA_set, if_neg (by omega), sA_set, if_pos ⟨rfl, rfl⟩]
theorem lkT_11 {S : St} {kd ab p q : Int32} : sA (lkT S kd ab p q) 11 (sM S) = 0 := by
  show sA (lkS S kd ab p q) 11 (sM S) = 0
  unfold lkS
  rw [sA_set, if_neg (by omega), sA_set, if_pos ⟨rfl, rfl⟩]
theorem lkT_12 {S : St} {kd ab p q : Int32} : sA (lkT S kd ab p q) 12 (sM S) = 0 := by
  show sA (lkS S kd ab p q) 12 (sM S) = 0
  unfold lkS
  rw [sA_set, if_pos ⟨rfl, rfl⟩]
theorem CR.addLk {z : Nat} {G G' : Wd} {S : St} {la lb : Nat → Nat} {kd ab p q : Int32} (h : CR z G S la lb) (f : grw z G G') (hZ : gZ G' = gZ G + 3) (e2 : gI G' z 2 = nI (sM S + 1)) (e5 : gI G' z 5 = nI (sL S)) (r4 : ∀ j, gR G' (z + 4) j = gR G (z + 4) j) (r2 : ∀ k, gR G' (z + 2) k = if k = sM S then some (gZ G) else gR G (z + 2) k) (hl : lkAt G' (lkT S kd ab p q) (gZ G) (sM S)) : CR z G' (lkT S kd ab p q) (lbA (sM S) (gZ G) la) lb := by
  have hap := h.A
  obtain ⟨g1, g2, g3, g4, g5, g6⟩ := h.grow f
  have hk := h.2.2.2.2.1
  have hj := h.2.2.2.2.2.1
  obtain ⟨p1, p2, p3, p4, p5, p6⟩ := hap
  refine ⟨g1, g2, fun i hi => by rw [lkT_lo (by omega)]; exact g3 i hi, ⟨e2, e5⟩, fun k q => ?_, fun j q => ⟨by rw [r4]; exact (hj j q).1, (g5 j q).st (fun o o1 o2 => lkT_lo (by omega))⟩, ?_, g6.st (fun o i o1 o2 => lkT_lo (by omega))⟩
  · have q' : k < sM S + 1 := q
    by_cases c : k = sM S
    · refine ⟨by rw [r2, lbA_e, if_pos c, if_pos c], ?_⟩
      rw [lbA_e, if_pos c, c]; exact hl
    · refine ⟨by rw [r2, lbA_e, if_neg c, if_neg c]; exact (hk k (by omega)).1, ?_⟩
      rw [lbA_e, if_neg c]
      exact (g4 k (by omega)).st (fun o o1 o2 => lkT_lo (by omega))
  · rw [hZ]
    refine ⟨fun k q => ?_, fun j q => ⟨(p2 j q).1, by have := (p2 j q).2; omega⟩, fun k k' q q' => ?_, p4, fun k j q q' => ?_, by omega⟩
    · have q2 : k < sM S + 1 := q
      by_cases c : k = sM S
      · rw [lbA_e, if_pos c]; omega
      · rw [lbA_e, if_neg c]; have := p1 k (by omega); omega
    · have q2 : k' < sM S + 1 := q'
      rw [lbA_e, lbA_e, if_neg (show ¬ k = sM S by omega)]
      by_cases c : k' = sM S
      · rw [if_pos c]; exact (p1 k (by omega)).2
      · rw [if_neg c]; exact p3 k k' q (by omega)
    · have q2 : k < sM S + 1 := q
      by_cases c : k = sM S
      · rw [lbA_e, if_pos c]; right; exact (p2 j q').2
      · rw [lbA_e, if_neg c]; exact p5 k j (by omega) q'
theorem C_likeness {z : Nat} {G : Wd} {S T : St} {kd ab p q : Int32} {Q : Int64 → Wd → Prop} (h : mid z G S T) (hi : Inv S) (hQ : ∀ G', mid z G' (oLikeness S kd ab p q).2 T → Q (oLikeness S kd ab p q).1 G') : wpX10_likeness z kd ab p q G Q := by
  unfold oLikeness at hQ
  have hb : ¬ (rng kd 0 4 ∧ rng ab 0 99 ∧ rng p 1 1000 ∧ rng q 1 1000) → Q (-9000000000000000001) G := fun n => by rw [if_neg n] at hQ; exact hQ G h
  have h' := h
  obtain ⟨⟨la, lb, hc⟩, hm⟩ := h
  unfold wpX10_likeness
  refine X10_isKind (fun c1 => ifN (fun e => n10 e) (X10_isPair (fun c2 => ifN (fun e => n10 e) (X10_isTerm (fun c3 => ifN (fun e => n10 e) (X10_isTerm (fun c4 => ifN (fun e => n10 e) ⟨hc.K, ?_⟩) (fun c4 => ifP rfl (hb (fun c => c4 c.2.2.2))))) (fun c3 => ifP rfl (hb (fun c => c3 c.2.2.1))))) (fun c2 => ifP rfl (hb (fun c => c2 c.2.1))))) (fun c1 => ifP rfl (hb (fun c => c1 c.1)))
  rw [if_pos ⟨c1, c2, c3, c4⟩] at hQ
  have hM := hi.1.1
  have hZ : z + 81 ≤ gZ G := hc.A.2.2.2.2.2
  have i2 := hc.2.2.2.1.1
  rw [i2]
  refine ifE (fun c => ?_) (fun c => ?_)
  · have hl : sM S < 24 := by rw [i_lt, nI_toInt (by omega), il24] at c; omega
    rw [if_pos hl] at hQ
    refine ⟨z + 2, hc.1.R 0 1 2 (by decide), fun a0 G1 ea e1 => ?_⟩
    have i2' : gI G1 z 2 = nI (sM S) := by rw [e1, gI_nC, if_neg (by omega)]; exact i2
    refine ⟨by rw [e1, gK_nC, if_neg (by omega)]; exact hc.K, ?_⟩
    rw [i2']
    unfold wpX5_init wpX2_init
    intro z2 G2 ez2 e2
    refine ⟨by subst e2 ez2; simp [gI_uI, gI_uR, gI_uJ, gI_nC, gJ_uJ, gJ_uI, gJ_uR, gJ_nC, gR_uR, gR_uI, gR_uJ, gR_nC, gK_uI, gK_uR, gK_uJ, gK_nC, gZ_uI, gZ_uR, gZ_uJ, gZ_nC], fun G3 e3 => ⟨by subst e3 e2 ez2 e1 ea; simp [gI_uI, gI_uR, gI_uJ, gI_nC, gJ_uJ, gJ_uI, gJ_uR, gJ_nC, gR_uR, gR_uI, gR_uJ, gR_nC, gK_uI, gK_uR, gK_uJ, gK_nC, gZ_uI, gZ_uR, gZ_uJ, gZ_nC], fun G4 e4 z3 G5 ez3 e5 => ⟨by subst e5 ez3; simp [gI_uI, gI_uR, gI_uJ, gI_nC, gJ_uJ, gJ_uI, gJ_uR, gJ_nC, gR_uR, gR_uI, gR_uJ, gR_nC, gK_uI, gK_uR, gK_uJ, gK_nC, gZ_uI, gZ_uR, gZ_uJ, gZ_nC], fun G6 e6 => ⟨by subst e6 e5 ez3 e4 e3 e2 ez2 e1 ea; simp [gI_uI, gI_uR, gI_uJ, gI_nC, gJ_uJ, gJ_uI, gJ_uR, gJ_nC, gR_uR, gR_uI, gR_uJ, gR_nC, gK_uI, gK_uR, gK_uJ, gK_nC, gZ_uI, gZ_uR, gZ_uJ, gZ_nC]; omega, fun G7 e7 G8 e8 G9 e9 G10 e10 G11 e11 G12 e12 G13 e13 G14 e14 G15 e15 => ?_⟩⟩⟩⟩
    have z2e : z2 = gZ G + 1 := by rw [ez2, e1]; rfl
    have z3e : z3 = gZ G + 2 := by rw [ez3, e4, e3, e2]; show gZ G1 + 1 = _; rw [e1]; rfl
    have f : grw z G G15 := by
      rw [e15, e14, e13, e12, e11, e10, e9, e8, e7, e6, e5, e4, e3, e2, e1]
      exact ((((((((((((((((grw.rf.n _ _).n _ _).j _ _ _ (by omega)).r _ _ _ (by omega)).n _ _).j _ _ _ (by omega)).r _ _ _ (by omega)).i _ _ _ (by omega)).i _ _ _ (by omega)).i _ _ _ (by omega)).i _ _ _ (by omega)).i _ _ _ (by omega)).i _ _ _ (by omega)).i _ _ _ (by omega)).i _ _ _ (by omega)))
    have hZ' : gZ G15 = gZ G + 3 := by subst e15 e14 e13 e12 e11 e10 e9 e8 e7 e6 e5 e4 e3 e2 e1; rfl
    have n0 : ¬ z = gZ G := by omega
    have n1 : ¬ z = gZ G + 1 := by omega
    have n2 : ¬ z = gZ G + 1 + 1 := by omega
    have n3 : ¬ gZ G = gZ G + 1 + 1 := by omega
    have F : (gK G15 (gZ G) = 5 ∧ gK G15 (gZ G + 1) = 3 ∧ gK G15 (gZ G + 2) = 3) ∧ (gR G15 (gZ G) 6 = some (gZ G + 1) ∧ gR G15 (gZ G) 7 = some (gZ G + 2)) ∧ gI G15 (gZ G) 0 = nI (sM S) ∧ gI G15 (gZ G) 1 = kd ∧ gI G15 (gZ G) 2 = ab / 10 ∧ gI G15 (gZ G) 3 = ab % 10 ∧ gI G15 (gZ G) 4 = p ∧ gI G15 (gZ G) 5 = q ∧ gI G15 (gZ G) 8 = 0 ∧ gI G15 (gZ G) 9 = 0 ∧ gI G15 (gZ G) 10 = 9999 ∧ gI G15 (gZ G) 11 = 1 ∧ gI G15 (gZ G) 12 = 0 ∧ gI G15 (gZ G) 13 = 0 := by
      subst e15 e14 e13 e12 e11 e10 e9 e8 e7 e6 e5 ez3 e4 e3 e2 ez2 e1 ea
      refine ⟨⟨?_, ?_, ?_⟩, ⟨?_, ?_⟩, ?_, ?_, ?_, ?_, ?_, ?_, ?_, ?_, ?_, ?_, ?_, ?_⟩ <;> simp [gI_uI, gI_uR, gI_uJ, gI_nC, gJ_uJ, gJ_uI, gJ_uR, gJ_nC, gR_uR, gR_uI, gR_uJ, gR_nC, gK_uI, gK_uR, gK_uJ, gK_nC, gZ_uI, gZ_uR, gZ_uJ, gZ_nC, n3]
    have rw4 : ∀ b, b < gZ G → ∀ j, gR G15 b j = gR G b j := by
      intro b hb j
      subst e15 e14 e13 e12 e11 e10 e9 e8 e7 e6 e5 ez3 e4 e3 e2 ez2 e1 ea
      have n0 : ¬ b = gZ G := by omega
      have n1 : ¬ b = gZ G + 1 := by omega
      have n2 : ¬ b = gZ G + 1 + 1 := by omega
      simp [gI_uI, gI_uR, gI_uJ, gI_nC, gJ_uJ, gJ_uI, gJ_uR, gJ_nC, gR_uR, gR_uI, gR_uJ, gR_nC, gK_uI, gK_uR, gK_uJ, gK_nC, gZ_uI, gZ_uR, gZ_uJ, gZ_nC, n0, n1, n2]
    have ri : ∀ j, gI G15 z j = gI G z j := by
      intro j
      subst e15 e14 e13 e12 e11 e10 e9 e8 e7 e6 e5 ez3 e4 e3 e2 ez2 e1 ea
      simp [gI_uI, gI_uR, gI_uJ, gI_nC, gJ_uJ, gJ_uI, gJ_uR, gJ_nC, gR_uR, gR_uI, gR_uJ, gR_nC, gK_uI, gK_uR, gK_uJ, gK_nC, gZ_uI, gZ_uR, gZ_uJ, gZ_nC, n0, n1, n2]
    obtain ⟨⟨F1, F2, F3⟩, ⟨F4, F5⟩, F6, F7, F8, F9, F10, F11, F12, F13, F14, F15, F16, F17⟩ := F
    clear e15 e14 e13 e12 e11 e10 e9 e8 e7 e6 e5 ez3 e4 e3 e2 ez2 e1
    subst ea
    refine X5_ends (S := lkT S kd ab p q) (k := sM S) F1 (by rw [F7, lkT_2]) (by rw [F10, lkT_5]) (by rw [F11, lkT_6]) (by rw [F16, lkT_11]) F4 F5 F2 F3 (by rw [lkT_2]; exact c1) (by rw [lkT_5]; exact c3) (by rw [lkT_6]; exact c4) (by rw [lkT_11]; exact ⟨by decide, by decide⟩) ?_
    have f3 : chg (fun b => b = gZ G + 1 ∨ b = gZ G + 2) (fun _ => False) G15 (wF (wF G15 (gZ G + 1) (some (endL (lkT S kd ab p q) (sM S)))) (gZ G + 2) (some (endH (lkT S kd ab p q) (sM S)))) := (chg.rf.wF (gZ G + 1) _ (.inl rfl)).wF (gZ G + 2) _ (.inr rfl)
    have g3 : grw z G (wF (wF G15 (gZ G + 1) (some (endL (lkT S kd ab p q) (sM S)))) (gZ G + 2) (some (endH (lkT S kd ab p q) (sM S)))) := (f.f (gZ G + 1) _ (by omega)).f (gZ G + 2) _ (by omega)
    have w1 : isF (wF (wF G15 (gZ G + 1) (some (endL (lkT S kd ab p q) (sM S)))) (gZ G + 2) (some (endH (lkT S kd ab p q) (sM S)))) (gZ G + 1) (some (endL (lkT S kd ab p q) (sM S))) := (isF_wF F2 _).keep (P := fun b => b = gZ G + 2) (R := fun _ => False) (chg.rf.wF _ _ rfl) (by omega)
    have w2 : isF (wF (wF G15 (gZ G + 1) (some (endL (lkT S kd ab p q) (sM S)))) (gZ G + 2) (some (endH (lkT S kd ab p q) (sM S)))) (gZ G + 2) (some (endH (lkT S kd ab p q) (sM S))) := isF_wF (by rw [wF_K]; exact F3) _
    generalize wF (wF G15 (gZ G + 1) (some (endL (lkT S kd ab p q) (sM S)))) (gZ G + 2) (some (endH (lkT S kd ab p q) (sM S))) = H at f3 g3 w1 w2
    have hI : ∀ j, gI H (gZ G) j = gI G15 (gZ G) j := fun j => f3.I (by omega) j
    refine ⟨by rw [(g3.2 (z + 2) (by omega)).1.1]; exact hc.1.K 2 (by omega), by rw [f3.K]; exact F1, by rw [(g3.2 (z + 2) (by omega)).1.2, hc.1.N 2 (by omega)]; exact vp_in_nI (by show sM S < 24; omega) (by decide), fun H1 e1 => ?_⟩
    have f12 : grw z G H1 := by rw [e1]; exact g3.r _ _ _ (by omega)
    have i12 : gI H1 z 2 = nI (sM S) := by rw [e1, gI_uR, f3.I (by omega), ri]; exact i2
    refine ⟨by rw [(f12.2 z (by omega)).1.1]; exact hc.K, fun H2 e2 => ?_⟩
    rw [i12] at e2 ⊢
    have f13 : grw z G H2 := by rw [e2]; exact f12.i _ _ _ (.inr rfl)
    refine hQ _ ⟨⟨_, lb, hc.addLk f13 (by rw [e2, gZ_uI, e1, gZ_uR, f3.1.1]; exact hZ') ?_ ?_ ?_ ?_ ?_⟩, hm.grow f13 hZ⟩
    · rw [e2, gI_uI, if_pos ⟨rfl, rfl⟩]; exact nI_1 _
    · rw [e2, gI_uI, if_neg (by omega), e1, gI_uR, f3.I (by omega), ri]; exact hc.2.2.2.1.2
    · intro k; rw [e2, gR_uI, e1, gR_uR, if_neg (by omega), f3.Rf (fun q => q)]; exact rw4 _ (by omega) k
    · intro j
      rw [e2, gR_uI, e1, gR_uR, nI_clamp (by omega)]
      by_cases c : j = sM S
      · rw [if_pos ⟨rfl, c⟩, if_pos c]
      · rw [if_neg (fun q => c q.2), if_neg c, f3.Rf (fun q => q)]; exact rw4 _ (by omega) j
    · have f4 : chg (fun b => b = z) (fun b => b = z + 2) H H2 := by rw [e2, e1]; exact (chg.rf.wR (P := fun b => b = z) (R := fun b => b = z + 2) _ _ _ rfl).wI _ _ _ rfl
      have hh : ∀ j, gI H2 (gZ G) j = gI G15 (gZ G) j := fun j => (f4.I (by omega) j).trans (hI j)
      refine ⟨by rw [f4.K, f3.K]; exact F1, by rw [hh]; exact F6, fun g g1 g2 => ?_, fun g g1 g2 => ?_, by rw [f4.Rf (by omega), f3.Rf (fun q => q)]; exact F4, by rw [f4.Rf (by omega), f3.Rf (fun q => q)]; exact F5, w1.keep f4 (by omega), w2.keep f4 (by omega)⟩
      · rw [hh]
        have gc : g = 1 ∨ g = 2 ∨ g = 3 ∨ g = 4 ∨ g = 5 := by omega
        rcases gc with e | e | e | e | e <;> subst e
        · rw [F7]; exact lkT_2.symm
        · rw [F8]; exact lkT_3.symm
        · rw [F9]; exact lkT_4.symm
        · rw [F10]; exact lkT_5.symm
        · rw [F11]; exact lkT_6.symm
      · rw [hh]
        have gc : g = 8 ∨ g = 9 ∨ g = 10 ∨ g = 11 ∨ g = 12 ∨ g = 13 := by omega
        rcases gc with e | e | e | e | e | e <;> subst e
        · rw [F12]; exact lkT_7.symm
        · rw [F13]; exact lkT_8.symm
        · rw [F14]; exact lkT_9.symm
        · rw [F15]; exact lkT_10.symm
        · rw [F16]; exact lkT_11.symm
        · rw [F17]; exact lkT_12.symm
  · have hl : ¬ sM S < 24 := fun q => c (by rw [i_lt, nI_toInt (by omega), il24]; omega)
    rw [if_neg hl] at hQ
    exact hQ G h'
theorem M_likeness {z : Nat} {G : Wd} {S T : St} {kd ab p q : Int32} {Q : Int64 → Wd → Prop} (h : mid z G T S) (hi : Inv S) (hQ : ∀ G', mid z G' T (oLikeness S kd ab p q).2 → Q (oLikeness S kd ab p q).1 G') : wpX11_likeness (z + 54) kd ab p q G Q := by
  unfold oLikeness at hQ
  have hb : ¬ (rng kd 0 4 ∧ rng ab 0 99 ∧ rng p 1 1000 ∧ rng q 1 1000) → Q (-9000000000000000001) G := fun n => by rw [if_neg n] at hQ; exact hQ G h
  unfold wpX11_likeness
  refine X11_in 0 4 rfl rfl (fun c1 => ifN (fun e => n10 e) (X11_in 0 99 rfl rfl (fun c2 => ifN (fun e => n10 e) (X11_in 1 1000 rfl rfl (fun c3 => ifN (fun e => n10 e) (X11_in 1 1000 rfl rfl (fun c4 => ifN (fun e => n10 e) ⟨h.K, ?_⟩) (fun c4 => ifP rfl (hb (fun c => c4 c.2.2.2))))) (fun c3 => ifP rfl (hb (fun c => c3 c.2.2.1))))) (fun c2 => ifP rfl (hb (fun c => c2 c.2.1))))) (fun c1 => ifP rfl (hb (fun c => c1 c.1)))
  rw [if_pos ⟨c1, c2, c3, c4⟩] at hQ
  have hM := hi.1.1
  rw [h.M]
  refine ifE (fun c => ?_) (fun c => ?_)
  · have hl : ¬ sM S < 24 := by rw [i_eq, nI_toInt (by omega), il24] at c; omega
    rw [if_neg hl] at hQ
    exact hQ G h
  · have hl : sM S < 24 := by
      by_cases q : sM S = 24
      · exact absurd (by rw [q]; rfl) c
      · omega
    rw [if_pos hl] at hQ
    have hv : vp_in (nI (sM S)) 24 := vp_in_nI hl (by decide)
    have h0 := h
    refine h0.2.at 2 2 20 24 rfl rfl rfl (by omega) (by omega) hv (fun G1 e1 => ?_)
    rw [nI_clamp (show sM S < 2 ^ 31 by omega)] at e1; subst e1
    have h1 := h0.setM 2 (sM S) (kd) (by omega) (by omega)
    rw [show gI _ (z + 54) 1 = nI (sM S) from h1.M]
    refine h1.2.at 3 3 20 24 rfl rfl rfl (by omega) (by omega) hv (fun G2 e2 => ?_)
    rw [nI_clamp (show sM S < 2 ^ 31 by omega)] at e2; subst e2
    have h2 := h1.setM 3 (sM S) (ab / 10) (by omega) (by omega)
    rw [show gI _ (z + 54) 1 = nI (sM S) from h2.M]
    refine h2.2.at 4 4 20 24 rfl rfl rfl (by omega) (by omega) hv (fun G3 e3 => ?_)
    rw [nI_clamp (show sM S < 2 ^ 31 by omega)] at e3; subst e3
    have h3 := h2.setM 4 (sM S) (ab % 10) (by omega) (by omega)
    rw [show gI _ (z + 54) 1 = nI (sM S) from h3.M]
    refine h3.2.at 5 5 20 24 rfl rfl rfl (by omega) (by omega) hv (fun G4 e4 => ?_)
    rw [nI_clamp (show sM S < 2 ^ 31 by omega)] at e4; subst e4
    have h4 := h3.setM 5 (sM S) (p) (by omega) (by omega)
    rw [show gI _ (z + 54) 1 = nI (sM S) from h4.M]
    refine h4.2.at 6 6 20 24 rfl rfl rfl (by omega) (by omega) hv (fun G5 e5 => ?_)
    rw [nI_clamp (show sM S < 2 ^ 31 by omega)] at e5; subst e5
    have h5 := h4.setM 6 (sM S) (q) (by omega) (by omega)
    rw [show gI _ (z + 54) 1 = nI (sM S) from h5.M]
    refine h5.2.at 7 7 20 24 rfl rfl rfl (by omega) (by omega) hv (fun G6 e6 => ?_)
    rw [nI_clamp (show sM S < 2 ^ 31 by omega)] at e6; subst e6
    have h6 := h5.setM 7 (sM S) (0) (by omega) (by omega)
    rw [show gI _ (z + 54) 1 = nI (sM S) from h6.M]
    refine h6.2.at 8 8 20 24 rfl rfl rfl (by omega) (by omega) hv (fun G7 e7 => ?_)
    rw [nI_clamp (show sM S < 2 ^ 31 by omega)] at e7; subst e7
    have h7 := h6.setM 8 (sM S) (0) (by omega) (by omega)
    rw [show gI _ (z + 54) 1 = nI (sM S) from h7.M]
    refine h7.2.at 9 9 20 24 rfl rfl rfl (by omega) (by omega) hv (fun G8 e8 => ?_)
    rw [nI_clamp (show sM S < 2 ^ 31 by omega)] at e8; subst e8
    have h8 := h7.setM 9 (sM S) (9999) (by omega) (by omega)
    rw [show gI _ (z + 54) 1 = nI (sM S) from h8.M]
    refine h8.2.at 10 10 20 24 rfl rfl rfl (by omega) (by omega) hv (fun G9 e9 => ?_)
    rw [nI_clamp (show sM S < 2 ^ 31 by omega)] at e9; subst e9
    have h9 := h8.setM 10 (sM S) (1) (by omega) (by omega)
    rw [show gI _ (z + 54) 1 = nI (sM S) from h9.M]
    refine h9.2.at 11 11 20 24 rfl rfl rfl (by omega) (by omega) hv (fun G10 e10 => ?_)
    rw [nI_clamp (show sM S < 2 ^ 31 by omega)] at e10; subst e10
    have h10 := h9.setM 11 (sM S) (0) (by omega) (by omega)
    rw [show gI _ (z + 54) 1 = nI (sM S) from h10.M]
    refine h10.2.at 12 12 22 24 rfl rfl rfl (by omega) (by omega) hv (fun G11 e11 => ?_)
    rw [nI_clamp (show sM S < 2 ^ 31 by omega)] at e11; subst e11
    have h11 := h10.setM 12 (sM S) (0) (by omega) (by omega)
    rw [show gI _ (z + 54) 1 = nI (sM S) from h11.M]
    have h12 : mid z _ T (lkS S kd ab p q) := h11
    intro G12 e12
    rw [nI_1] at e12; subst e12
    have h13 := h12.setN (sM S + 1)
    rw [gI_uI, if_pos ⟨rfl, rfl⟩, nI_pred]
    exact hQ _ h13
