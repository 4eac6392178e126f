/-! ===== new cells; lines ===== -/
theorem gZ_nC (G : Wd) (c n : Nat) : gZ (nC G c n) = gZ G + 1 := rfl
theorem gK_nC (G : Wd) (c n b : Nat) : gK (nC G c n) b = if b = gZ G then c else gK G b := rfl
theorem gN_nC (G : Wd) (c n b : Nat) : gN (nC G c n) b = if b = gZ G then n else gN G b := rfl
theorem gI_nC (G : Wd) (c n b j : Nat) : gI (nC G c n) b j = if b = gZ G then 0 else gI G b j := rfl
theorem gJ_nC (G : Wd) (c n b j : Nat) : gJ (nC G c n) b j = if b = gZ G then 0 else gJ G b j := rfl
theorem gR_nC (G : Wd) (c n b j : Nat) : gR (nC G c n) b j = if b = gZ G then none else gR G b j := rfl
/-- what was there stays: but ints of the object, references of its two rows -/
def grw (z : Nat) (G G' : Wd) : Prop := gZ G ≤ gZ G' ∧ ∀ b, b < gZ G → (gK G' b = gK G b ∧ gN G' b = gN G b) ∧ (b ≠ z → ∀ j, gI G' b j = gI G b j) ∧ (∀ j, gJ G' b j = gJ G b j) ∧ (b ≠ z + 2 → b ≠ z + 4 → ∀ j, gR G' b j = gR G b j)
theorem grw.rf {z : Nat} {G : Wd} : grw z G G := ⟨Nat.le_refl _, fun _ _ => ⟨⟨rfl, rfl⟩, fun _ _ => rfl, fun _ => rfl, fun _ _ _ => rfl⟩⟩
theorem grw.n {z : Nat} {G G1 : Wd} (h : grw z G G1) (c n : Nat) : grw z G (nC G1 c n) := by
  refine ⟨by rw [gZ_nC]; have := h.1; omega, fun b hb => ?_⟩
  obtain ⟨⟨a1, a2⟩, a3, a4, a5⟩ := h.2 b hb
  have hn : ¬ b = gZ G1 := by have := h.1; omega
  exact ⟨⟨by rw [gK_nC, if_neg hn]; exact a1, by rw [gN_nC, if_neg hn]; exact a2⟩, fun q j => by rw [gI_nC, if_neg hn]; exact a3 q j, fun j => by rw [gJ_nC, if_neg hn]; exact a4 j, fun q q' j => by rw [gR_nC, if_neg hn]; exact a5 q q' j⟩
theorem grw.i {z : Nat} {G G1 : Wd} (h : grw z G G1) (a k : Nat) (v : Int32) (ha : gZ G ≤ a ∨ a = z) : grw z G (uI G1 a k v) := by
  refine ⟨h.1, fun b hb => ?_⟩
  obtain ⟨⟨a1, a2⟩, a3, a4, a5⟩ := h.2 b hb
  exact ⟨⟨a1, a2⟩, fun q j => by rw [gI_uI, if_neg (by omega)]; exact a3 q j, a4, a5⟩
theorem grw.j {z : Nat} {G G1 : Wd} (h : grw z G G1) (a k : Nat) (v : Int64) (ha : gZ G ≤ a) : grw z G (uJ G1 a k v) := by
  refine ⟨h.1, fun b hb => ?_⟩
  obtain ⟨⟨a1, a2⟩, a3, a4, a5⟩ := h.2 b hb
  exact ⟨⟨a1, a2⟩, a3, fun j => by rw [gJ_uJ, if_neg (by omega)]; exact a4 j, a5⟩
theorem grw.r {z : Nat} {G G1 : Wd} (h : grw z G G1) (a k : Nat) (v : Option Nat) (ha : gZ G ≤ a ∨ a = z + 2 ∨ a = z + 4) : grw z G (uR G1 a k v) := by
  refine ⟨h.1, fun b hb => ?_⟩
  obtain ⟨⟨a1, a2⟩, a3, a4, a5⟩ := h.2 b hb
  exact ⟨⟨a1, a2⟩, a3, a4, fun q q' j => by rw [gR_uR, if_neg (by omega)]; exact a5 q q' j⟩
theorem grw.f {z : Nat} {G G1 : Wd} (h : grw z G G1) (a : Nat) (o : Fr) (ha : gZ G ≤ a) : grw z G (wF G1 a o) := by
  refine ⟨by rw [wF_Z]; exact h.1, fun b hb => ?_⟩
  obtain ⟨⟨a1, a2⟩, a3, a4, a5⟩ := h.2 b hb
  exact ⟨⟨by rw [wF_K]; exact a1, by rw [wF_N]; exact a2⟩, fun q j => by rw [wF_I (by omega)]; exact a3 q j, fun j => by rw [wF_J (by omega)]; exact a4 j, fun q q' j => by rw [wF_R]; exact a5 q q' j⟩
theorem isF.grow {z : Nat} {G G' : Wd} {a : Nat} {o : Fr} (h : isF G a o) (f : grw z G G') (ha : a < gZ G) (hz : a ≠ z) : isF G' a o := by
  obtain ⟨h1, h2⟩ := h
  obtain ⟨⟨a1, a2⟩, a3, a4, a5⟩ := f.2 a ha
  refine ⟨by rw [a1]; exact h1, ?_⟩
  cases o with
  | none => exact ⟨by rw [a3 hz]; exact h2.1, by rw [a4]; exact h2.2.1, by rw [a4]; exact h2.2.2⟩
  | some q => exact ⟨by rw [a3 hz]; exact h2.1, by rw [a4]; exact h2.2.1, by rw [a4]; exact h2.2.2⟩
theorem lkAt.grow {z : Nat} {G G' : Wd} {S : St} {a k : Nat} (h : lkAt G S a k) (f : grw z G G') (ha : a + 3 ≤ gZ G) (hz : z + 81 ≤ a) : lkAt G' S a k := by
  obtain ⟨b1, b2, b3, b4, b5, b6, b7, b8⟩ := h
  obtain ⟨⟨a1, a2⟩, a3, a4, a5⟩ := f.2 a (by omega)
  exact ⟨by rw [a1]; exact b1, by rw [a3 (by omega)]; exact b2, fun g g1 g2 => by rw [a3 (by omega)]; exact b3 g g1 g2, fun g g1 g2 => by rw [a3 (by omega)]; exact b4 g g1 g2, by rw [a5 (by omega) (by omega)]; exact b5, by rw [a5 (by omega) (by omega)]; exact b6, b7.grow f (by omega) (by omega), b8.grow f (by omega) (by omega)⟩
theorem lnAt.grow {z : Nat} {G G' : Wd} {S : St} {a k : Nat} (h : lnAt G S a k) (f : grw z G G') (ha : a + 3 ≤ gZ G) (hz : z + 81 ≤ a) : lnAt G' S a k := by
  obtain ⟨b1, b2, b3, b4, b5, b6, b7, b8, b9⟩ := h
  obtain ⟨⟨a1, a2⟩, a3, a4, a5⟩ := f.2 a (by omega)
  exact ⟨by rw [a1]; exact b1, by rw [a3 (by omega)]; exact b2, by rw [a3 (by omega)]; exact b3, by rw [a3 (by omega)]; exact b4, by rw [a3 (by omega)]; exact b5, by rw [a5 (by omega) (by omega)]; exact b6, by rw [a5 (by omega) (by omega)]; exact b7, by rw [(f.2 (a + 1) (by omega)).1.1]; exact b8, by rw [(f.2 (a + 2) (by omega)).1.1]; exact b9⟩
theorem CR.grow {z : Nat} {G G' : Wd} {S : St} {la lb : Nat → Nat} (h : CR z G S la lb) (f : grw z G G') : csh z G' ∧ (isF G' (z + 11) (some (1, 1)) ∧ isF G' (z + 12) (some (1, 1))) ∧ (∀ i, i < 8 → gI G' (z + 1) i = sA S 1 i) ∧ (∀ k, k < sM S → lkAt G' S (la k) k) ∧ (∀ j, j < sL S → lnAt G' S (lb j) j) ∧ cuAt z G' S := by
  have hap := h.A
  have hZ : z + 81 ≤ gZ G := hap.2.2.2.2.2
  obtain ⟨h1, ⟨h2a, h2b⟩, h3, ⟨h4a, h4b⟩, h5, h6, h7, h8⟩ := h
  refine ⟨⟨fun o ho => ⟨by rw [(f.2 (z + o) (by omega)).1.1]; exact (h1.1 o ho).1, by rw [(f.2 (z + o) (by omega)).1.2]; exact (h1.1 o ho).2⟩, fun q hq => ?_⟩, ⟨h2a.grow f (by omega) (by omega), h2b.grow f (by omega) (by omega)⟩, fun i hi => by rw [(f.2 (z + 1) (by omega)).2.1 (by omega)]; exact h3 i hi, fun k hk => (h5 k hk).2.grow f (hap.1 k hk).2 (hap.1 k hk).1, fun j hj => (h6 j hj).2.grow f (hap.2.1 j hj).2 (hap.2.1 j hj).1, fun c hc => ?_⟩
  · have hh : ∀ q ∈ cRf, q.1 ≠ 2 ∧ q.1 ≠ 4 ∧ q.1 < 54 := by decide
    have := hh q hq
    rw [(f.2 (z + q.1) (by omega)).2.2.2 (by omega) (by omega)]
    exact h1.2 q hq
  · have := h8 c hc
    rw [(f.2 (z + (46 + 2 * c)) (by omega)).2.1 (by omega), (f.2 (z + (46 + 2 * c)) (by omega)).2.1 (by omega)]
    refine ⟨this.1, fun q => ⟨(this.2 q).1, fun i hi => ?_⟩⟩
    rw [(f.2 (z + (47 + 2 * c)) (by omega)).2.1 (by omega)]
    exact (this.2 q).2 i hi
theorem MR.grow {z : Nat} {G G' : Wd} {S : St} (h : MR (z + 54) G S) (f : grw z G G') (hZ : z + 81 ≤ gZ G) : MR (z + 54) G' S := by
  refine h.keep (fun o ho => ?_)
  obtain ⟨⟨a1, a2⟩, a3, a4, a5⟩ := f.2 (z + 54 + o) (by omega)
  exact ⟨a1, a2, a3 (by omega), a4, a5 (by omega) (by omega)⟩
/-! line -/
def lnS (S : St) (a m p d : Int32) : St := sSet (sSet (sSet (sSet S 15 (sL S) a) 16 (sL S) m) 17 (sL S) p) 18 (sL S) d
def oLine (S : St) (a m p d : Int32) : Int64 × St := if rng a (-1000000) 1000000 ∧ rng m 0 9 ∧ rng p 0 7 ∧ rng d 0 9999 then (if sL S < 20 then ((nI (sL S)).toInt64, ((lnS S a m p d).1, sM S, sL S + 1)) else (-9000000000000000003, S)) else (-9000000000000000001, S)
theorem lnS_lo {S : St} {a m p d : Int32} {o i : Nat} (h : o < 15 ∨ i ≠ sL S) : sA ((lnS S a m p d).1, sM S, sL S + 1) o i = sA S o i := by
  show sA (lnS S a m p d) o i = sA S o i
  unfold lnS
  rw [sA_set, if_neg (by omega), sA_set, if_neg (by omega), sA_set, if_neg (by omega), sA_set, if_neg (by omega)]
theorem lnS_hi {S : St} {a m p d : Int32} : sA ((lnS S a m p d).1, sM S, sL S + 1) 15 (sL S) = a ∧ sA ((lnS S a m p d).1, sM S, sL S + 1) 16 (sL S) = m ∧ sA ((lnS S a m p d).1, sM S, sL S + 1) 17 (sL S) = p ∧ sA ((lnS S a m p d).1, sM S, sL S + 1) 18 (sL S) = d := by
  refine ⟨?_, ?_, ?_, ?_⟩
  · show sA (lnS S a m p d) 15 (sL S) = a
    unfold lnS
    rw [sA_set, if_neg (by omega), sA_set, if_neg (by omega), sA_set, if_neg (by omega), sA_set, if_pos ⟨rfl, rfl⟩]
  · show sA (lnS S a m p d) 16 (sL S) = m
    unfold lnS
    rw [sA_set, if_neg (by omega), sA_set, if_neg (by omega), sA_set, if_pos ⟨rfl, rfl⟩]
  · show sA (lnS S a m p d) 17 (sL S) = p
    unfold lnS
    rw [sA_set, if_neg (by omega), sA_set, if_pos ⟨rfl, rfl⟩]
  · show sA (lnS S a m p d) 18 (sL S) = d
    unfold lnS
    rw [sA_set, if_pos ⟨rfl, rfl⟩]
theorem lkAt.st {G : Wd} {S S' : St} {a k : Nat} (h : lkAt G S a k) (e : ∀ o, 2 ≤ o → o ≤ 12 → sA S' o k = sA S o k) : lkAt G S' a k := by
  obtain ⟨b1, b2, b3, b4, b5, b6, b7, b8⟩ := h
  obtain ⟨e1, e2⟩ := ends_congr (S := S) (S' := S') (k := k) (e 2 (by omega) (by omega)) (e 5 (by omega) (by omega)) (e 6 (by omega) (by omega)) (e 11 (by omega) (by omega))
  exact ⟨b1, b2, fun g g1 g2 => by rw [e (g + 1) (by omega) (by omega)]; exact b3 g g1 g2, fun g g1 g2 => by rw [e (g - 1) (by omega) (by omega)]; exact b4 g g1 g2, b5, b6, by rw [e1]; exact b7, by rw [e2]; exact b8⟩
theorem lnAt.st {G : Wd} {S S' : St} {a k : Nat} (h : lnAt G S a k) (e : ∀ o, 15 ≤ o → o ≤ 18 → sA S' o k = sA S o k) : lnAt G S' a k := by
  obtain ⟨b1, b2, b3, b4, b5, b6, b7, b8, b9⟩ := h
  exact ⟨b1, by rw [e 16 (by omega) (by omega)]; exact b2, by rw [e 17 (by omega) (by omega)]; exact b3, by rw [e 18 (by omega) (by omega)]; exact b4, by rw [e 15 (by omega) (by omega)]; exact b5, b6, b7, b8, b9⟩
theorem cuAt.st {z : Nat} {G : Wd} {S S' : St} (h : cuAt z G S) (e : ∀ o i, 13 ≤ o → o ≤ 14 → sA S' o i = sA S o i) : cuAt z G S' := by
  intro c hc
  have := h c hc
  rw [e 13 c (by omega) (by omega)]
  exact ⟨this.1, fun q => ⟨(this.2 q).1, fun i hi => by rw [e 14 _ (by omega) (by omega)]; exact (this.2 q).2 i hi⟩⟩
def lbA (N a : Nat) (lb : Nat → Nat) : Nat → Nat := fun j => if j = N then a else lb j
theorem lbA_e (N a : Nat) (lb : Nat → Nat) (j : Nat) : lbA N a lb j = if j = N then a else lb j := rfl
theorem CR.addLine {z : Nat} {G G' : Wd} {S : St} {la lb : Nat → Nat} {a m p d : Int32} (h : CR z G S la lb) (f : grw z G G') (hZ : gZ G' = gZ G + 3) (e2 : gI G' z 2 = nI (sM S)) (e5 : gI G' z 5 = nI (sL S + 1)) (r2 : ∀ k, gR G' (z + 2) k = gR G (z + 2) k) (r4 : ∀ j, gR G' (z + 4) j = if j = sL S then some (gZ G) else gR G (z + 4) j) (hl : lnAt G' ((lnS S a m p d).1, sM S, sL S + 1) (gZ G) (sL S)) : CR z G' ((lnS S a m p d).1, sM S, sL S + 1) la (lbA (sL S) (gZ G) lb) := by
  have hap := h.A
  obtain ⟨g1, g2, g3, g4, g5, g6⟩ := h.grow f
  have hk := h.2.2.2.2.1
  have hj := h.2.2.2.2.2.1
  obtain ⟨p1, p2, p3, p4, p5, p6⟩ := hap
  refine ⟨g1, g2, fun i hi => by rw [lnS_lo (by omega)]; exact g3 i hi, ⟨e2, e5⟩, fun k q => ⟨by rw [r2]; exact (hk k q).1, (g4 k q).st (fun o o1 o2 => lnS_lo (by omega))⟩, fun j q => ?_, ?_, g6.st (fun o i o1 o2 => lnS_lo (by omega))⟩
  · have q' : j < sL S + 1 := q
    by_cases c : j = sL S
    · refine ⟨by rw [r4, lbA_e, if_pos c, if_pos c], ?_⟩
      rw [lbA_e, if_pos c, c]; exact hl
    · refine ⟨by rw [r4, lbA_e, if_neg c, if_neg c]; exact (hj j (by omega)).1, ?_⟩
      rw [lbA_e, if_neg c]
      exact (g5 j (by omega)).st (fun o o1 o2 => lnS_lo (by omega))
  · rw [hZ]
    refine ⟨fun k q => ⟨(p1 k q).1, by have := (p1 k q).2; omega⟩, fun j q => ?_, p3, fun j j' q q' => ?_, fun k j q q' => ?_, by omega⟩
    · have q2 : j < sL S + 1 := q
      by_cases c : j = sL S
      · rw [lbA_e, if_pos c]; omega
      · rw [lbA_e, if_neg c]; have := p2 j (by omega); omega
    · have q2 : j' < sL S + 1 := q'
      rw [lbA_e, lbA_e, if_neg (show ¬ j = sL S by omega)]
      by_cases c : j' = sL S
      · rw [if_pos c]; exact (p2 j (by omega)).2
      · rw [if_neg c]; exact p4 j j' q (by omega)
    · have q2 : j < sL S + 1 := q'
      by_cases c : j = sL S
      · rw [lbA_e, if_pos c]; left; exact (p1 k q).2
      · rw [lbA_e, if_neg c]; exact p5 k j q (by omega)
theorem C_line {z : Nat} {G : Wd} {S T : St} {a m p d : Int32} {Q : Int64 → Wd → Prop} (h : mid z G S T) (hi : Inv S) (hQ : ∀ G', mid z G' (oLine S a m p d).2 T → Q (oLine S a m p d).1 G') : wpX10_line z a m p d G Q := by
  unfold oLine at hQ
  have hb : ¬ (rng a (-1000000) 1000000 ∧ rng m 0 9 ∧ rng p 0 7 ∧ rng d 0 9999) → Q (-9000000000000000001) G := fun n => by rw [if_neg n] at hQ; exact hQ G h
  have h' := h
  obtain ⟨⟨la, lb, hc⟩, hm⟩ := h
  unfold wpX10_line
  refine X10_isAmount (fun c1 => ifN (fun e => n10 e) (X10_isMeasure (fun c2 => ifN (fun e => n10 e) (X10_isPlace (fun c3 => ifN (fun e => n10 e) (X10_isDay (fun c4 => ifN (fun e => n10 e) ⟨hc.K, ?_⟩) (fun c4 => ifP rfl (hb (fun c => c4 c.2.2.2))))) (fun c3 => ifP rfl (hb (fun c => c3 c.2.2.1))))) (fun c2 => ifP rfl (hb (fun c => c2 c.2.1))))) (fun c1 => ifP rfl (hb (fun c => c1 c.1)))
  rw [if_pos ⟨c1, c2, c3, c4⟩] at hQ
  have hL := hi.1.2
  have hZ : z + 81 ≤ gZ G := hc.A.2.2.2.2.2
  have i5 := hc.2.2.2.1.2
  rw [i5]
  refine ifE (fun c => ?_) (fun c => ?_)
  · have hl : sL S < 20 := by rw [i_lt, nI_toInt (by omega), il_20] at c; omega
    rw [if_pos hl] at hQ
    refine ⟨z + 4, hc.1.R 0 4 4 (by decide), fun a0 G1 ea e1 => ?_⟩
    unfold wpX6_init wpX2_init
    intro z2 G2 ez2 e2
    refine ⟨by subst e2 ez2; simp [gI_uI, gI_uR, gI_uJ, gI_nC, gJ_uJ, gJ_uI, gJ_uR, gJ_nC, gR_uR, gR_uI, gR_uJ, gR_nC, gK_uI, gK_uR, gK_uJ, gK_nC, gZ_uI, gZ_uR, gZ_uJ, gZ_nC], fun G3 e3 => ⟨by subst e3 e2 ez2 e1 ea; simp [gI_uI, gI_uR, gI_uJ, gI_nC, gJ_uJ, gJ_uI, gJ_uR, gJ_nC, gR_uR, gR_uI, gR_uJ, gR_nC, gK_uI, gK_uR, gK_uJ, gK_nC, gZ_uI, gZ_uR, gZ_uJ, gZ_nC], fun G4 e4 z3 G5 ez3 e5 => ⟨by subst e5 ez3; simp [gI_uI, gI_uR, gI_uJ, gI_nC, gJ_uJ, gJ_uI, gJ_uR, gJ_nC, gR_uR, gR_uI, gR_uJ, gR_nC, gK_uI, gK_uR, gK_uJ, gK_nC, gZ_uI, gZ_uR, gZ_uJ, gZ_nC], fun G6 e6 => ⟨by subst e6 e5 ez3 e4 e3 e2 ez2 e1 ea; simp [gI_uI, gI_uR, gI_uJ, gI_nC, gJ_uJ, gJ_uI, gJ_uR, gJ_nC, gR_uR, gR_uI, gR_uJ, gR_nC, gK_uI, gK_uR, gK_uJ, gK_nC, gZ_uI, gZ_uR, gZ_uJ, gZ_nC]; omega, fun G7 e7 G8 e8 G9 e9 G10 e10 G11 e11 => ?_⟩⟩⟩⟩
    have f : grw z G G11 := by
      have z2e : z2 = gZ G + 1 := by rw [ez2, e1]; rfl
      have z3e : z3 = gZ G + 2 := by rw [ez3, e4, e3, e2]; show gZ G1 + 1 = _; rw [e1]; rfl
      rw [e11, e10, e9, e8, e7, e6, e5, e4, e3, e2, e1]
      exact ((((((((((((grw.rf.n _ _).n _ _).j _ _ _ (by omega)).r _ _ _ (by omega)).n _ _).j _ _ _ (by omega)).r _ _ _ (by omega)).i _ _ _ (by omega)).i _ _ _ (by omega)).i _ _ _ (by omega)).i _ _ _ (by omega)))
    have hZ' : gZ G11 = gZ G + 3 := by subst e11 e10 e9 e8 e7 e6 e5 e4 e3 e2 e1; rfl
    have hl2 : lnAt G11 ((lnS S a m p d).1, sM S, sL S + 1) (gZ G) (sL S) := by
      obtain ⟨s1, s2, s3, s4⟩ := lnS_hi (S := S) (a := a) (m := m) (p := p) (d := d)
      unfold lnAt
      rw [s1, s2, s3, s4]
      subst e11 e10 e9 e8 e7 e6 e5 ez3 e4 e3 e2 ez2 e1 ea
      refine ⟨?_, ?_, ?_, ?_, ?_, ?_, ?_, ?_, ?_⟩ <;> simp [gI_uI, gI_uR, gI_uJ, gI_nC, gJ_uJ, gJ_uI, gJ_uR, gJ_nC, gR_uR, gR_uI, gR_uJ, gR_nC, gK_uI, gK_uR, gK_uJ, gK_nC, gZ_uI, gZ_uR, gZ_uJ, gZ_nC] <;> omega
    have rw4 : ∀ b, b < gZ G → ∀ j, gR G11 b j = gR G b j := by
      intro b hb j
      subst e11 e10 e9 e8 e7 e6 e5 ez3 e4 e3 e2 ez2 e1 ea
      have n0 : ¬ b = gZ G := by omega
      have n1 : ¬ b = gZ G + 1 := by omega
      have n2 : ¬ b = gZ G + 1 + 1 := by omega
      simp [gI_uI, gI_uR, gI_uJ, gI_nC, gJ_uJ, gJ_uI, gJ_uR, gJ_nC, gR_uR, gR_uI, gR_uJ, gR_nC, gK_uI, gK_uR, gK_uJ, gK_nC, gZ_uI, gZ_uR, gZ_uJ, gZ_nC, n0, n1, n2]
    have ri : ∀ j, gI G11 z j = gI G z j := by
      intro j
      subst e11 e10 e9 e8 e7 e6 e5 ez3 e4 e3 e2 ez2 e1 ea
      have n0 : ¬ z = gZ G := by omega
      have n1 : ¬ z = gZ G + 1 := by omega
      have n2 : ¬ z = gZ G + 1 + 1 := by omega
      simp [gI_uI, gI_uR, gI_uJ, gI_nC, gJ_uJ, gJ_uI, gJ_uR, gJ_nC, gR_uR, gR_uI, gR_uJ, gR_nC, gK_uI, gK_uR, gK_uJ, gK_nC, gZ_uI, gZ_uR, gZ_uJ, gZ_nC, n0, n1, n2]
    have k4 : gK G11 (z + 4) = 26 := by rw [(f.2 (z + 4) (by omega)).1.1]; exact hc.1.K 4 (by omega)
    refine ⟨k4, by rw [ea]; exact hl2.1, by rw [(f.2 (z + 4) (by omega)).1.2, hc.1.N 4 (by omega)]; exact vp_in_nI (by show sL S < 20; omega) (by decide), fun G12 e12 => ?_⟩
    have f12 : grw z G G12 := by rw [e12]; exact f.r _ _ _ (by omega)
    have i12 : gI G12 z 5 = nI (sL S) := by rw [e12, gI_uR, ri]; exact i5
    refine ⟨by rw [(f12.2 z (by omega)).1.1]; exact hc.K, fun G13 e13 => ?_⟩
    rw [i12] at e13 ⊢
    have f13 : grw z G G13 := by rw [e13]; exact f12.i _ _ _ (.inr rfl)
    refine hQ _ ⟨⟨la, _, hc.addLine f13 (by rw [e13, gZ_uI, e12, gZ_uR]; exact hZ') ?_ ?_ ?_ ?_ ?_⟩, hm.grow f13 hZ⟩
    · rw [e13, gI_uI, if_neg (by omega), e12, gI_uR, ri]; exact hc.2.2.2.1.1
    · rw [e13, gI_uI, if_pos ⟨rfl, rfl⟩]; exact nI_1 _
    · intro k; rw [e13, gR_uI, e12, gR_uR, if_neg (by omega)]; exact rw4 _ (by omega) k
    · intro j
      rw [e13, gR_uI, e12, gR_uR, nI_clamp (by omega), ea]
      by_cases c : j = sL S
      · rw [if_pos ⟨rfl, c⟩, if_pos c]
      · rw [if_neg (fun q => c q.2), if_neg c]; exact rw4 _ (by omega) j
    · obtain ⟨b1, b2, b3, b4, b5, b6, b7, b8, b9⟩ := hl2
      have hh : ∀ j, gI G13 (gZ G) j = gI G11 (gZ G) j := fun j => by rw [e13, gI_uI, if_neg (by omega), e12, gI_uR]
      have hr : ∀ j, gR G13 (gZ G) j = gR G11 (gZ G) j := fun j => by rw [e13, gR_uI, e12, gR_uR, if_neg (by omega)]
      have hk : gK G13 = gK G11 := by rw [e13, gK_uI, e12, gK_uR]
      exact ⟨by rw [hk]; exact b1, by rw [hh]; exact b2, by rw [hh]; exact b3, by rw [hh]; exact b4, by rw [hh]; exact b5, by rw [hr]; exact b6, by rw [hr]; exact b7, by rw [hk]; exact b8, by rw [hk]; exact b9⟩
  · have hl : ¬ sL S < 20 := fun q => c (by rw [i_lt, nI_toInt (by omega), il_20]; omega)
    rw [if_neg hl] at hQ
    exact hQ G h'
theorem M_line {z : Nat} {G : Wd} {S T : St} {a m p d : Int32} {Q : Int64 → Wd → Prop} (h : mid z G T S) (hi : Inv S) (hQ : ∀ G', mid z G' T (oLine S a m p d).2 → Q (oLine S a m p d).1 G') : wpX11_line (z + 54) a m p d G Q := by
  unfold oLine at hQ
  have hb : ¬ (rng a (-1000000) 1000000 ∧ rng m 0 9 ∧ rng p 0 7 ∧ rng d 0 9999) → Q (-9000000000000000001) G := fun n => by rw [if_neg n] at hQ; exact hQ G h
  unfold wpX11_line
  refine X11_in (-1000000) 1000000 rfl rfl (fun c1 => ifN (fun e => n10 e) (X11_in 0 9 rfl rfl (fun c2 => ifN (fun e => n10 e) (X11_isPlace (fun c3 => ifN (fun e => n10 e) (X11_isDay (fun c4 => ifN (fun e => n10 e) ⟨h.K, ?_⟩) (fun c4 => ifP rfl (hb (fun c => c4 c.2.2.2))))) (fun c3 => ifP rfl (hb (fun c => c3 c.2.2.1))))) (fun c2 => ifP rfl (hb (fun c => c2 c.2.1))))) (fun c1 => ifP rfl (hb (fun c => c1 c.1)))
  rw [if_pos ⟨c1, c2, c3, c4⟩] at hQ
  have hL := hi.1.2
  rw [h.L]
  refine ifE (fun c => ?_) (fun c => ?_)
  · have hl : ¬ sL S < 20 := by rw [i_eq, nI_toInt (by omega), il_20] at c; omega
    rw [if_neg hl] at hQ
    exact hQ G h
  · have hl : sL S < 20 := by
      by_cases q : sL S = 20
      · exact absurd (by rw [q]; rfl) c
      · omega
    rw [if_pos hl] at hQ
    have hv : vp_in (nI (sL S)) 20 := vp_in_nI hl (by decide)
    refine h.2.at 15 16 20 20 rfl rfl rfl (by omega) (by omega) hv (fun G1 e1 => ?_)
    rw [nI_clamp (by omega)] at e1; subst e1
    have h1 := h.setM 15 (sL S) a (by omega) (by omega)
    rw [h1.L]
    refine h1.2.at 16 17 20 20 rfl rfl rfl (by omega) (by omega) hv (fun G2 e2 => ?_)
    rw [show sL (sSet S 15 (sL S) a) = sL S from rfl, nI_clamp (by omega)] at e2; subst e2
    have h2 := h1.setM 16 (sL S) m (by omega) (by omega)
    rw [h2.L]
    refine h2.2.at 17 18 20 20 rfl rfl rfl (by omega) (by omega) hv (fun G3 e3 => ?_)
    rw [show sL (sSet (sSet S 15 (sL S) a) 16 (sL S) m) = sL S from rfl, nI_clamp (by omega)] at e3; subst e3
    have h3 := h2.setM 17 (sL S) p (by omega) (by omega)
    rw [h3.L]
    refine h3.2.at 18 19 20 20 rfl rfl rfl (by omega) (by omega) hv (fun G4 e4 => ?_)
    rw [show sL (sSet (sSet (sSet S 15 (sL S) a) 16 (sL S) m) 17 (sL S) p) = sL S from rfl, nI_clamp (by omega)] at e4; subst e4
    have h4 : mid z _ T (lnS S a m p d) := h3.setM 18 (sL S) d (by omega) (by omega)
    rw [h4.L]
    intro G5 e5
    rw [show sL (lnS S a m p d) = sL S from rfl, nI_1] at e5; subst e5
    have h5 := h4.setL (sL S + 1)
    rw [gI_uI, if_pos ⟨rfl, rfl⟩, nI_pred]
    exact hQ _ h5
