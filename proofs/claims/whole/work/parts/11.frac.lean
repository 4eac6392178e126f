set_option maxRecDepth 100000 in
def wpJ9_abs_067f4 (p0 : Int64) (G : Wd) (Q : Int64 → Wd → Prop) : Prop := if p0 < 0 then (Q (-p0) G) else (Q p0 G)
abbrev rmJ9_abs_067f4 : Room := { frames := 0, cells := 0, slots := 0, locals := 0 }
set_option maxRecDepth 100000 in
def wpJ9_max_f86c9 (p0 : Int64) (p2 : Int64) (G : Wd) (Q : Int64 → Wd → Prop) : Prop := if p0 < p2 then (Q p2 G) else (Q p0 G)
abbrev rmJ9_max_f86c9 : Room := { frames := 0, cells := 0, slots := 0, locals := 0 }
set_option maxRecDepth 100000 in
def wpJ9_max_7cf53 (p0 : Int32) (p1 : Int32) (G : Wd) (Q : Int32 → Wd → Prop) : Prop := if p0 < p1 then (Q p1 G) else (Q p0 G)
abbrev rmJ9_max_7cf53 : Room := { frames := 0, cells := 0, slots := 0, locals := 0 }
set_option maxRecDepth 100000 in
def wpJ9_floorDiv_f86c9 (p0 : Int64) (p2 : Int64) (G : Wd) (Q : Int64 → Wd → Prop) : Prop := ¬ p2 = 0 ∧ ∀ x2 : Int64, x2 = (p0 / p2) → if (p0 ^^^ p2) < 0 then (if (x2 * p2) = p0 then (Q x2 G) else (Q (x2 - 1) G)) else (Q x2 G)
abbrev rmJ9_floorDiv_f86c9 : Room := { frames := 0, cells := 0, slots := 0, locals := 0 }
def wpX2_commonDivisor_50 (Q : Int64 → Wd → Prop) (v4 : Int64) (G : Wd) : Prop := wpJ9_max_f86c9 v4 1 G (fun r1 G2 => Q r1 G2)
def wpX2_commonDivisor_15 (Q : Int64 → Wd → Prop) : Nat → Int64 → Int64 → Int32 → Wd → Prop
  | 0, _, _, _, _ => False
  | n + 1, v4, v6, v8, G => if 100 ≤ v8 then (wpX2_commonDivisor_50 Q v4 G) else (if 0 < v6 then (¬ v6 = 0 ∧ ∀ x4 : Int64, x4 = (v4 % v6) → ∀ x5 : Int32, x5 = v8 + 1 → wpX2_commonDivisor_15 Q n v6 x4 x5 G) else (wpX2_commonDivisor_50 Q v4 G))
set_option maxRecDepth 100000 in
def wpX2_commonDivisor (p0 : Int64) (p2 : Int64) (G : Wd) (Q : Int64 → Wd → Prop) : Prop := wpJ9_abs_067f4 p0 G (fun r6 G7 => wpJ9_abs_067f4 p2 G7 (fun r8 G9 => ∃ m, wpX2_commonDivisor_15 Q m r6 r8 0 G9))
abbrev rmX2_commonDivisor : Room := { frames := 1, cells := 0, slots := 0, locals := 23 }
set_option maxRecDepth 100000 in
def wpX2_reaches (p0 : Int64) (p2 : Int64) (p4 : Int64) (G : Wd) (Q : Int32 → Wd → Prop) : Prop := wpJ9_abs_067f4 p0 G (fun r1 G2 => if 0 < r1 then (wpJ9_abs_067f4 p2 G2 (fun r3 G4 => ¬ r1 = 0 ∧ if ((p4 - 1) / r1) < r3 then (Q 1 G4) else (Q 0 G4))) else (Q 0 G2))
abbrev rmX2_reaches : Room := { frames := 1, cells := 0, slots := 0, locals := 21 }
def wpX2_settle_29 (Q : Wd → Prop) (s0 : Nat) (s1 : Int64) (G : Wd) : Prop := gK G s0 = 3 ∧ ∀ G2 : Wd, G2 = uJ G s0 1 s1 → Q G2
def wpX2_settle_15 (Q : Wd → Prop) (v0 : Nat) (v1 : Int32) (v4 : Int64) (s0 : Nat) (s1 : Int64) (G : Wd) : Prop := gK G s0 = 3 ∧ ∀ G4 : Wd, G4 = uJ G s0 0 s1 → if v1 = 0 then (wpX2_settle_29 Q v0 v4 G4) else (wpX2_settle_29 Q v0 1 G4)
set_option maxRecDepth 100000 in
def wpX2_settle (a0 : Nat) (p1 : Int32) (p2 : Int64) (p4 : Int64) (G : Wd) (Q : Wd → Prop) : Prop := gK G a0 = 3 ∧ isB p1 ∧ ∀ G6 : Wd, G6 = uI G a0 2 p1 → if p1 = 0 then (wpX2_settle_15 Q a0 p1 p4 a0 p2 G6) else (wpX2_settle_15 Q a0 p1 p4 a0 0 G6)
abbrev rmX2_settle : Room := { frames := 0, cells := 0, slots := 0, locals := 0 }
set_option maxRecDepth 100000 in
def wpX2_init (a0 : Nat) (G : Wd) (Q : Wd → Prop) : Prop := gK G a0 = 3 ∧ ∀ G2 : Wd, G2 = uJ G a0 1 1 → Q G2
abbrev rmX2_init : Room := { frames := 1, cells := 0, slots := 0, locals := 20 }
set_option maxRecDepth 100000 in
def wpX2_become (a0 : Nat) (p1 : Int64) (p3 : Int64) (G : Wd) (Q : Wd → Prop) : Prop := wpX2_commonDivisor p1 p3 G (fun r1 G2 => gK G2 a0 = 3 ∧ ∀ G4 : Wd, G4 = uI G2 a0 2 0 → ¬ r1 = 0 ∧ ∀ G7 : Wd, G7 = uJ G4 a0 0 (p1 / r1) → ¬ r1 = 0 ∧ ∀ G10 : Wd, G10 = uJ G7 a0 1 (p3 / r1) → Q G10)
abbrev rmX2_become : Room := { frames := 2, cells := 0, slots := 0, locals := 53 }
set_option maxRecDepth 100000 in
def wpX2_become_ (a0 : Nat) (a1 : Nat) (G : Wd) (Q : Wd → Prop) : Prop := gK G a1 = 3 ∧ gK G a0 = 3 ∧ isB (gI G a1 2) ∧ ∀ G3 : Wd, G3 = uI G a0 2 (gI G a1 2) → ∀ G7 : Wd, G7 = uJ G3 a0 0 (gJ G3 a1 0) → ∀ G10 : Wd, G10 = uJ G7 a0 1 (gJ G7 a1 1) → Q G10
abbrev rmX2_become_ : Room := { frames := 0, cells := 0, slots := 0, locals := 0 }
def wpX2_becomeProduct_75 (Q : Wd → Prop) (v1 : Nat) (v2 : Int64) (v4 : Int64) (v6 : Int64) (v8 : Int64) (s0 : Nat) (s1 : Int32) (G : Wd) : Prop := gK G v1 = 3 ∧ ¬ v6 = 0 ∧ ¬ v8 = 0 ∧ ¬ v8 = 0 ∧ ¬ v6 = 0 ∧ gK G s0 = 3 ∧ wpX2_settle s0 s1 (((gJ G v1 0) / v6) * (v2 / v8)) (((gJ G v1 1) / v8) * (v4 / v6)) G (fun G8 => Q G8)
def wpX2_becomeProduct_70 (Q : Wd → Prop) (v1 : Nat) (v2 : Int64) (v4 : Int64) (v6 : Int64) (v8 : Int64) (s0 : Nat) (G : Wd) : Prop := wpX2_becomeProduct_75 Q v1 v2 v4 v6 v8 s0 1 G
set_option maxRecDepth 100000 in
def wpX2_becomeProduct (a0 : Nat) (a1 : Nat) (p2 : Int64) (p4 : Int64) (G : Wd) (Q : Wd → Prop) : Prop := gK G a1 = 3 ∧ wpX2_commonDivisor (gJ G a1 0) p4 G (fun r10 G11 => gK G11 a1 = 3 ∧ wpX2_commonDivisor (gJ G11 a1 1) p2 G11 (fun r13 G14 => gK G14 a1 = 3 ∧ if (gI G14 a1 2) = 0 then (¬ r10 = 0 ∧ ¬ r13 = 0 ∧ wpX2_reaches ((gJ G14 a1 0) / r10) (p2 / r13) 1000000000000000 G14 (fun r18 G19 => if r18 = 0 then (gK G19 a1 = 3 ∧ ¬ r13 = 0 ∧ ¬ r10 = 0 ∧ wpX2_reaches ((gJ G19 a1 1) / r13) (p4 / r10) 1000000000000000 G19 (fun r23 G24 => if r23 = 0 then (wpX2_becomeProduct_75 Q a1 p2 p4 r10 r13 a0 0 G24) else (wpX2_becomeProduct_70 Q a1 p2 p4 r10 r13 a0 G24))) else (wpX2_becomeProduct_70 Q a1 p2 p4 r10 r13 a0 G19))) else (wpX2_becomeProduct_70 Q a1 p2 p4 r10 r13 a0 G14)))
abbrev rmX2_becomeProduct : Room := { frames := 2, cells := 0, slots := 0, locals := 53 }
def wpX2_add_87 (Q : Wd → Prop) (v0 : Nat) (G : Wd) : Prop := gK G v0 = 3 ∧ wpX2_settle v0 1 0 1 G (fun G3 => Q G3)
def wpX2_add_166 (Q : Wd → Prop) (v8 : Int64) (v10 : Int64) (v12 : Int64) (s0 : Nat) (s1 : Int32) (G : Wd) : Prop := ¬ v12 = 0 ∧ ¬ v12 = 0 ∧ gK G s0 = 3 ∧ wpX2_settle s0 s1 (v8 / v12) (v10 / v12) G (fun G8 => Q G8)
def wpX2_add_161 (Q : Wd → Prop) (v8 : Int64) (v10 : Int64) (v12 : Int64) (s0 : Nat) (G : Wd) : Prop := wpX2_add_166 Q v8 v10 v12 s0 1 G
set_option maxRecDepth 100000 in
def wpX2_add (a0 : Nat) (a1 : Nat) (G : Wd) (Q : Wd → Prop) : Prop := gK G a0 = 3 ∧ gK G a1 = 3 ∧ wpX2_commonDivisor (gJ G a0 1) (gJ G a1 1) G (fun r11 G12 => gK G12 a1 = 3 ∧ ¬ r11 = 0 ∧ ∀ x15 : Int64, x15 = ((gJ G12 a1 1) / r11) → gK G12 a0 = 3 ∧ ¬ r11 = 0 ∧ ∀ x18 : Int64, x18 = ((gJ G12 a0 1) / r11) → if (gI G12 a0 2) = 0 then (if (gI G12 a1 2) = 0 then (wpX2_reaches (gJ G12 a0 0) x15 1000000000000000000 G12 (fun r19 G20 => if r19 = 0 then (gK G20 a1 = 3 ∧ wpX2_reaches (gJ G20 a1 0) x18 1000000000000000000 G20 (fun r22 G23 => if r22 = 0 then (gK G23 a0 = 3 ∧ wpX2_reaches (gJ G23 a0 1) x15 1000000000000000000 G23 (fun r25 G26 => if r25 = 0 then (gK G26 a0 = 3 ∧ gK G26 a1 = 3 ∧ ∀ x29 : Int64, x29 = (((gJ G26 a0 0) * x15) + ((gJ G26 a1 0) * x18)) → ∀ x30 : Int64, x30 = ((gJ G26 a0 1) * x15) → wpX2_commonDivisor x29 x30 G26 (fun r31 G32 => ¬ r31 = 0 ∧ wpX2_reaches (x29 / r31) 1 1000000000000000 G32 (fun r34 G35 => if r34 = 0 then (¬ r31 = 0 ∧ wpX2_reaches (x30 / r31) 1 1000000000000000 G35 (fun r37 G38 => if r37 = 0 then (wpX2_add_166 Q x29 x30 r31 a0 0 G38) else (wpX2_add_161 Q x29 x30 r31 a0 G38))) else (wpX2_add_161 Q x29 x30 r31 a0 G35)))) else (wpX2_add_87 Q a0 G26))) else (wpX2_add_87 Q a0 G23))) else (wpX2_add_87 Q a0 G20))) else (wpX2_add_87 Q a0 G12)) else (wpX2_add_87 Q a0 G12))
abbrev rmX2_add : Room := { frames := 2, cells := 0, slots := 0, locals := 53 }
set_option maxRecDepth 100000 in
def wpX2_isAboveOne (a0 : Nat) (G : Wd) (Q : Int32 → Wd → Prop) : Prop := gK G a0 = 3 ∧ if (gI G a0 2) = 0 then (if (gJ G a0 1) < (gJ G a0 0) then (Q 1 G) else (Q 0 G)) else (Q 0 G)
abbrev rmX2_isAboveOne : Room := { frames := 0, cells := 0, slots := 0, locals := 0 }
def wpX2_isLess_106 (Q : Int32 → Wd → Prop) (v11 : Int64) (v13 : Int64) (G : Wd) : Prop := if v11 < v13 then (Q 1 G) else (Q 0 G)
def wpX2_isLess_26 (Q : Int32 → Wd → Prop) : Nat → Int64 → Int64 → Int64 → Int64 → Int32 → Wd → Prop
  | 0, _, _, _, _, _, _ => False
  | n + 1, v2, v4, v6, v8, v10, G => if 100 ≤ v10 then (Q 0 G) else (if 0 < v4 then (if 0 < v8 then (¬ v4 = 0 ∧ ¬ v8 = 0 ∧ if (v2 / v4) = (v6 / v8) then (¬ v4 = 0 ∧ ∀ x4 : Int64, x4 = (v2 % v4) → ¬ v8 = 0 ∧ ∀ x6 : Int64, x6 = (v6 % v8) → if x4 = 0 then (wpX2_isLess_106 Q x4 x6 G) else (if x6 = 0 then (wpX2_isLess_106 Q x4 x6 G) else (∀ x7 : Int32, x7 = v10 + 1 → wpX2_isLess_26 Q n v8 x6 v4 x4 x7 G))) else (¬ v4 = 0 ∧ ¬ v8 = 0 ∧ if (v2 / v4) < (v6 / v8) then (Q 1 G) else (Q 0 G))) else (Q 0 G)) else (Q 0 G))
set_option maxRecDepth 100000 in
def wpX2_isLess (a0 : Nat) (a1 : Nat) (G : Wd) (Q : Int32 → Wd → Prop) : Prop := gK G a0 = 3 ∧ ∀ x11 : Int64, x11 = gJ G a0 0 → ∀ x12 : Int64, x12 = gJ G a0 1 → gK G a1 = 3 ∧ ∀ x14 : Int64, x14 = gJ G a1 0 → ∀ x15 : Int64, x15 = gJ G a1 1 → ∃ m, wpX2_isLess_26 Q m x11 x12 x14 x15 0 G
abbrev rmX2_isLess : Room := { frames := 0, cells := 0, slots := 0, locals := 0 }
set_option maxRecDepth 100000 in
def wpX2_floor (a0 : Nat) (G : Wd) (Q : Int64 → Wd → Prop) : Prop := gK G a0 = 3 ∧ if 0 < (gJ G a0 1) then (wpJ9_floorDiv_f86c9 (gJ G a0 0) (gJ G a0 1) G (fun r2 G3 => Q r2 G3)) else (Q 0 G)
abbrev rmX2_floor : Room := { frames := 1, cells := 0, slots := 0, locals := 25 }
set_option maxRecDepth 100000 in
def wpX2_ceiling (a0 : Nat) (G : Wd) (Q : Int64 → Wd → Prop) : Prop := gK G a0 = 3 ∧ if 0 < (gJ G a0 1) then (wpJ9_floorDiv_f86c9 (-(gJ G a0 0)) (gJ G a0 1) G (fun r2 G3 => Q (-r2) G3)) else (Q 0 G)
abbrev rmX2_ceiling : Room := { frames := 1, cells := 0, slots := 0, locals := 25 }
set_option maxRecDepth 100000 in
theorem sJ9_abs_067f4 {l : Launch} {D : Dx} {p0 : Int64} {G : Wd} {Q : Int64 → Wd → Prop} (hw : wpJ9_abs_067f4 p0 G Q) : Met l yJ9_abs_067f4 (wM yJ9_abs_067f4 cJ9_abs_067f4 2 (some .long)) rmJ9_abs_067f4 (PM D [.long p0] G) (QMl D Q) 0 0 (Ab D) := by
  refine v_metF (by decide +kernel) (Nat.le_of_ble_eq_true rfl) (fun X hl hR F => ?_)
  subst hl
  have F : Fx X D cJ9_abs_067f4 2 RJ9 (some .long) "abs" := F
  refine v_cast (L' := [(0, .long p0)]) rfl rfl ?_
  unfold wpJ9_abs_067f4 at hw
  refine v_lload_n F dJ9_abs_067f4_0 rfl 0 rfl ?_
  refine v_lconst (v := 0) F dJ9_abs_067f4_1 rfl ?_
  refine v_lcmp F dJ9_abs_067f4_2 ?_
  refine v_lif_ge (tgt := 11) F dJ9_abs_067f4_3 (by decide) (fun h => ?_) (fun h => ?_)
  · rw [if_neg h] at hw
    refine v_lload_n F dJ9_abs_067f4_11 rfl 0 rfl ?_
    exact v_lret F hw dJ9_abs_067f4_12
  · rw [if_pos h] at hw
    refine v_lload_n F dJ9_abs_067f4_6 rfl 0 rfl ?_
    refine v_lneg F dJ9_abs_067f4_7 ?_
    refine v_goto (tgt := 12) F dJ9_abs_067f4_8 (by decide) ?_
    exact v_lret F hw dJ9_abs_067f4_12
set_option maxRecDepth 100000 in
theorem sJ9_max_f86c9 {l : Launch} {D : Dx} {p0 : Int64} {p2 : Int64} {G : Wd} {Q : Int64 → Wd → Prop} (hw : wpJ9_max_f86c9 p0 p2 G Q) : Met l yJ9_max_f86c9 (wM yJ9_max_f86c9 cJ9_max_f86c9 4 (some .long)) rmJ9_max_f86c9 (PM D [.long p0, .long p2] G) (QMl D Q) 0 0 (Ab D) := by
  refine v_metF (by decide +kernel) (Nat.le_of_ble_eq_true rfl) (fun X hl hR F => ?_)
  subst hl
  have F : Fx X D cJ9_max_f86c9 4 RJ9 (some .long) "max" := F
  refine v_cast (L' := [(0, .long p0), (2, .long p2)]) rfl rfl ?_
  unfold wpJ9_max_f86c9 at hw
  refine v_lload_n F dJ9_max_f86c9_0 rfl 0 rfl ?_
  refine v_lload_n F dJ9_max_f86c9_1 rfl 1 rfl ?_
  refine v_lcmp F dJ9_max_f86c9_2 ?_
  refine v_lif_lt (tgt := 10) F dJ9_max_f86c9_3 (by decide) (fun h => ?_) (fun h => ?_)
  · rw [if_pos h] at hw
    refine v_lload_n F dJ9_max_f86c9_10 rfl 1 rfl ?_
    exact v_lret F hw dJ9_max_f86c9_11
  · rw [if_neg h] at hw
    refine v_lload_n F dJ9_max_f86c9_6 rfl 0 rfl ?_
    refine v_goto (tgt := 11) F dJ9_max_f86c9_7 (by decide) ?_
    exact v_lret F hw dJ9_max_f86c9_11
set_option maxRecDepth 100000 in
theorem sJ9_max_7cf53 {l : Launch} {D : Dx} {p0 : Int32} {p1 : Int32} {G : Wd} {Q : Int32 → Wd → Prop} (hw : wpJ9_max_7cf53 p0 p1 G Q) : Met l yJ9_max_7cf53 (wM yJ9_max_7cf53 cJ9_max_7cf53 2 (some .int)) rmJ9_max_7cf53 (PM D [.int p0, .int p1] G) (QMi D Q) 0 0 (Ab D) := by
  refine v_metF (by decide +kernel) (Nat.le_of_ble_eq_true rfl) (fun X hl hR F => ?_)
  subst hl
  have F : Fx X D cJ9_max_7cf53 2 RJ9 (some .int) "max" := F
  refine v_cast (L' := [(0, .int p0), (1, .int p1)]) rfl rfl ?_
  unfold wpJ9_max_7cf53 at hw
  refine v_iload_n F dJ9_max_7cf53_0 rfl 0 rfl ?_
  refine v_iload_n F dJ9_max_7cf53_1 rfl 1 rfl ?_
  refine v_icmp_lt (tgt := 9) F dJ9_max_7cf53_2 (by decide) (fun h => ?_) (fun h => ?_)
  · rw [if_pos h] at hw
    refine v_iload_n F dJ9_max_7cf53_9 rfl 1 rfl ?_
    exact v_iret F hw dJ9_max_7cf53_10
  · rw [if_neg h] at hw
    refine v_iload_n F dJ9_max_7cf53_5 rfl 0 rfl ?_
    refine v_goto (tgt := 10) F dJ9_max_7cf53_6 (by decide) ?_
    exact v_iret F hw dJ9_max_7cf53_10
set_option maxRecDepth 100000 in
theorem sJ9_floorDiv_f86c9 {l : Launch} {D : Dx} {p0 : Int64} {p2 : Int64} {G : Wd} {Q : Int64 → Wd → Prop} (hw : wpJ9_floorDiv_f86c9 p0 p2 G Q) : Met l yJ9_floorDiv_f86c9 (wM yJ9_floorDiv_f86c9 cJ9_floorDiv_f86c9 6 (some .long)) rmJ9_floorDiv_f86c9 (PM D [.long p0, .long p2] G) (QMl D Q) 0 0 (Ab D) := by
  refine v_metF (by decide +kernel) (Nat.le_of_ble_eq_true rfl) (fun X hl hR F => ?_)
  subst hl
  have F : Fx X D cJ9_floorDiv_f86c9 6 RJ9 (some .long) "floorDiv" := F
  refine v_cast (L' := [(0, .long p0), (2, .long p2)]) rfl rfl ?_
  unfold wpJ9_floorDiv_f86c9 at hw
  refine v_lload_n F dJ9_floorDiv_f86c9_0 rfl 0 rfl ?_
  refine v_lload_n F dJ9_floorDiv_f86c9_1 rfl 1 rfl ?_
  obtain ⟨hn1, hw⟩ := hw
  refine v_ldiv F dJ9_floorDiv_f86c9_2 hn1 ?_
  refine v_topl (fun x2 hx2 => ?_)
  have hw := hw x2 hx2
  refine v_lstore (L' := [(4, .long x2), (0, .long p0), (2, .long p2)]) F dJ9_floorDiv_f86c9_3 (by decide) rfl ?_
  refine v_lload_n F dJ9_floorDiv_f86c9_5 rfl 1 rfl ?_
  refine v_lload_n F dJ9_floorDiv_f86c9_6 rfl 2 rfl ?_
  refine v_lxor F dJ9_floorDiv_f86c9_7 ?_
  refine v_lconst (v := 0) F dJ9_floorDiv_f86c9_8 rfl ?_
  refine v_lcmp F dJ9_floorDiv_f86c9_9 ?_
  refine v_lif_ge (tgt := 27) F dJ9_floorDiv_f86c9_10 (by decide) (fun h => ?_) (fun h => ?_)
  · rw [if_neg h] at hw
    refine v_lload F dJ9_floorDiv_f86c9_27 0 rfl ?_
    exact v_lret F hw dJ9_floorDiv_f86c9_29
  · rw [if_pos h] at hw
    refine v_lload F dJ9_floorDiv_f86c9_13 0 rfl ?_
    refine v_lload_n F dJ9_floorDiv_f86c9_15 rfl 2 rfl ?_
    refine v_lmul F dJ9_floorDiv_f86c9_16 ?_
    refine v_lload_n F dJ9_floorDiv_f86c9_17 rfl 1 rfl ?_
    refine v_lcmp F dJ9_floorDiv_f86c9_18 ?_
    refine v_lif_eq (tgt := 27) F dJ9_floorDiv_f86c9_19 (by decide) (fun h => ?_) (fun h => ?_)
    · rw [if_pos h] at hw
      refine v_lload F dJ9_floorDiv_f86c9_27 0 rfl ?_
      exact v_lret F hw dJ9_floorDiv_f86c9_29
    · rw [if_neg h] at hw
      refine v_lload F dJ9_floorDiv_f86c9_22 0 rfl ?_
      refine v_lconst (v := 1) F dJ9_floorDiv_f86c9_24 rfl ?_
      refine v_lsub F dJ9_floorDiv_f86c9_25 ?_
      exact v_lret F hw dJ9_floorDiv_f86c9_26
set_option maxRecDepth 100000 in
theorem sbX2_commonDivisor_50 {X : Cx} {D : Dx} (hR : X.2.2.2.1 = rmX2_commonDivisor) (F : Fx X D cX2_commonDivisor 11 RX2 (some .long) "commonDivisor") {Q : Int64 → Wd → Prop} {v4 : Int64} {G : Wd} (hw : wpX2_commonDivisor_50 Q  v4 G) : V X D 11 (ZM X D (QMl D Q) 0 0) G 0 0 50 [(4, .long v4)] [] := by
  unfold wpX2_commonDivisor_50 at hw
  refine v_lload F dX2_commonDivisor_50 0 rfl ?_
  refine v_lconst (v := 1) F dX2_commonDivisor_52 rfl ?_
  refine v_calll (r_S F ls_X2_45 (sJ9_max_f86c9 hw) (mkRm hR rfl rfl rfl rfl rfl rfl) rfl rfl (Nat.le_of_ble_eq_true rfl) dX2_commonDivisor_53) (fun r1 G2 hw => ?_)
  refine v_widen (c' := 0) (s' := 0) (by decide) (by decide) ?_
  exact v_lret F hw dX2_commonDivisor_56
set_option maxRecDepth 100000 in
theorem sbX2_commonDivisor_15 {X : Cx} {D : Dx} (hR : X.2.2.2.1 = rmX2_commonDivisor) (F : Fx X D cX2_commonDivisor 11 RX2 (some .long) "commonDivisor") {Q : Int64 → Wd → Prop} : ∀ (n : Nat) (v4 : Int64) (v6 : Int64) (v8 : Int32) (G : Wd), wpX2_commonDivisor_15 Q  n v4 v6 v8 G → V X D 11 (ZM X D (QMl D Q) 0 0) G 0 0 15 [(4, .long v4), (6, .long v6), (8, .int v8)] [] := by
  intro n
  induction n with
  | zero => intro v4 v6 v8 G hw; exact hw.elim
  | succ n ih =>
    intro v4 v6 v8 G hw
    simp only [wpX2_commonDivisor_15] at hw
    refine v_iload F dX2_commonDivisor_15 2 rfl ?_
    refine v_bipush (v := 100) F dX2_commonDivisor_17 (by decide) ?_
    refine v_icmp_ge (tgt := 50) F dX2_commonDivisor_19 (by decide) (fun h => ?_) (fun h => ?_)
    · rw [if_pos h] at hw
      exact v_loc [0] rfl (sbX2_commonDivisor_50 hR F  hw)
    · rw [if_neg h] at hw
      refine v_lload F dX2_commonDivisor_22 1 rfl ?_
      refine v_lconst (v := 0) F dX2_commonDivisor_24 rfl ?_
      refine v_lcmp F dX2_commonDivisor_25 ?_
      refine v_lif_le (tgt := 50) F dX2_commonDivisor_26 (by decide) (fun h => ?_) (fun h => ?_)
      · rw [if_neg h] at hw
        exact v_loc [0] rfl (sbX2_commonDivisor_50 hR F  hw)
      · rw [if_pos h] at hw
        refine v_lload F dX2_commonDivisor_29 0 rfl ?_
        refine v_lload F dX2_commonDivisor_31 1 rfl ?_
        obtain ⟨hn3, hw⟩ := hw
        refine v_lremE F dX2_commonDivisor_33 hn3 ?_
        refine v_topl (fun x4 hx4 => ?_)
        have hw := hw x4 hx4
        refine v_lstore (L' := [(9, .long x4), (4, .long v4), (6, .long v6), (8, .int v8)]) F dX2_commonDivisor_34 (by decide) rfl ?_
        refine v_lload F dX2_commonDivisor_36 2 rfl ?_
        refine v_lstore (L' := [(4, .long v6), (9, .long x4), (6, .long v6), (8, .int v8)]) F dX2_commonDivisor_38 (by decide) rfl ?_
        refine v_lload F dX2_commonDivisor_40 1 rfl ?_
        refine v_lstore (L' := [(6, .long x4), (4, .long v6), (9, .long x4), (8, .int v8)]) F dX2_commonDivisor_42 (by decide) rfl ?_
        refine v_iincN (c := 1) F dX2_commonDivisor_44 3 rfl (by decide) (by decide) (fun x5 hx5 => ?_)
        refine v_cast (L' := [(8, .int x5), (6, .long x4), (4, .long v6), (9, .long x4)]) rfl rfl ?_
        have hw := hw x5 hx5
        refine v_goto (tgt := 15) F dX2_commonDivisor_47 (by decide) ?_
        exact v_loc [2, 1, 0] rfl (ih _ _ _ _ hw)
set_option maxRecDepth 100000 in
theorem sX2_commonDivisor {l : Launch} {D : Dx} {p0 : Int64} {p2 : Int64} {G : Wd} {Q : Int64 → Wd → Prop} (hw : wpX2_commonDivisor p0 p2 G Q) : Met l yX2_commonDivisor (wM yX2_commonDivisor cX2_commonDivisor 11 (some .long)) rmX2_commonDivisor (PM D [.long p0, .long p2] G) (QMl D Q) 0 0 (Ab D) := by
  refine v_met (by decide) (Nat.le_of_ble_eq_true rfl) (fun X hl hR F => ?_)
  subst hl
  have F : Fx X D cX2_commonDivisor 11 RX2 (some .long) "commonDivisor" := F
  refine v_cast (L' := [(0, .long p0), (2, .long p2)]) rfl rfl ?_
  unfold wpX2_commonDivisor at hw
  refine v_lload_n F dX2_commonDivisor_0 rfl 0 rfl ?_
  refine v_calll (r_S F ls_X2_41 (sJ9_abs_067f4 hw) (mkRm hR rfl rfl rfl rfl rfl rfl) rfl rfl (Nat.le_of_ble_eq_true rfl) dX2_commonDivisor_1) (fun r6 G7 hw => ?_)
  refine v_lstore (L' := [(4, .long r6), (0, .long p0), (2, .long p2)]) F dX2_commonDivisor_4 (by decide) rfl ?_
  refine v_lload_n F dX2_commonDivisor_6 rfl 2 rfl ?_
  refine v_calll (r_S F ls_X2_41 (sJ9_abs_067f4 hw) (mkRm hR rfl rfl rfl rfl rfl rfl) rfl rfl (Nat.le_of_ble_eq_true rfl) dX2_commonDivisor_7) (fun r8 G9 hw => ?_)
  refine v_lstore (L' := [(6, .long r8), (4, .long r6), (0, .long p0), (2, .long p2)]) F dX2_commonDivisor_10 (by decide) rfl ?_
  refine v_iconst (v := 0) F dX2_commonDivisor_12 (by decide) ?_
  refine v_istore (L' := [(8, .int 0), (6, .long r8), (4, .long r6), (0, .long p0), (2, .long p2)]) F dX2_commonDivisor_13 (by decide) rfl ?_
  obtain ⟨m, hw⟩ := hw
  exact v_loc [2, 1, 0] rfl (sbX2_commonDivisor_15 hR F  m _ _ _ _ hw)
set_option maxRecDepth 100000 in
theorem sX2_reaches {l : Launch} {D : Dx} {p0 : Int64} {p2 : Int64} {p4 : Int64} {G : Wd} {Q : Int32 → Wd → Prop} (hw : wpX2_reaches p0 p2 p4 G Q) : Met l yX2_reaches (wM yX2_reaches cX2_reaches 8 (some .boolean)) rmX2_reaches (PM D [.long p0, .long p2, .long p4] G) (QMi D Q) 0 0 (Ab D) := by
  refine v_met (by decide) (Nat.le_of_ble_eq_true rfl) (fun X hl hR F => ?_)
  subst hl
  have F : Fx X D cX2_reaches 8 RX2 (some .boolean) "reaches" := F
  refine v_cast (L' := [(0, .long p0), (2, .long p2), (4, .long p4)]) rfl rfl ?_
  unfold wpX2_reaches at hw
  refine v_lload_n F dX2_reaches_0 rfl 0 rfl ?_
  refine v_calll (r_S F ls_X2_41 (sJ9_abs_067f4 hw) (mkRm hR rfl rfl rfl rfl rfl rfl) rfl rfl (Nat.le_of_ble_eq_true rfl) dX2_reaches_1) (fun r1 G2 hw => ?_)
  refine v_lstore (L' := [(6, .long r1), (0, .long p0), (2, .long p2), (4, .long p4)]) F dX2_reaches_4 (by decide) rfl ?_
  refine v_lload F dX2_reaches_6 0 rfl ?_
  refine v_lconst (v := 0) F dX2_reaches_8 rfl ?_
  refine v_lcmp F dX2_reaches_9 ?_
  refine v_lif_le (tgt := 32) F dX2_reaches_10 (by decide) (fun h => ?_) (fun h => ?_)
  · rw [if_neg h] at hw
    refine v_iconst (v := 0) F dX2_reaches_32 (by decide) ?_
    refine v_widen (c' := 0) (s' := 0) (by decide) (by decide) ?_
    exact v_zret F (Or.inl rfl) hw dX2_reaches_33
  · rw [if_pos h] at hw
    refine v_lload_n F dX2_reaches_13 rfl 2 rfl ?_
    refine v_calll (r_S F ls_X2_41 (sJ9_abs_067f4 hw) (mkRm hR rfl rfl rfl rfl rfl rfl) rfl rfl (Nat.le_of_ble_eq_true rfl) dX2_reaches_14) (fun r3 G4 hw => ?_)
    refine v_lload F dX2_reaches_17 3 rfl ?_
    refine v_lconst (v := 1) F dX2_reaches_19 rfl ?_
    refine v_lsub F dX2_reaches_20 ?_
    refine v_lload F dX2_reaches_21 0 rfl ?_
    obtain ⟨hn5, hw⟩ := hw
    refine v_ldiv F dX2_reaches_23 hn5 ?_
    refine v_lcmp F dX2_reaches_24 ?_
    refine v_lif_le (tgt := 32) F dX2_reaches_25 (by decide) (fun h => ?_) (fun h => ?_)
    · rw [if_neg h] at hw
      refine v_iconst (v := 0) F dX2_reaches_32 (by decide) ?_
      refine v_widen (c' := 0) (s' := 0) (by decide) (by decide) ?_
      exact v_zret F (Or.inl rfl) hw dX2_reaches_33
    · rw [if_pos h] at hw
      refine v_iconst (v := 1) F dX2_reaches_28 (by decide) ?_
      refine v_goto (tgt := 33) F dX2_reaches_29 (by decide) ?_
      refine v_widen (c' := 0) (s' := 0) (by decide) (by decide) ?_
      exact v_zret F (Or.inr rfl) hw dX2_reaches_33
set_option maxRecDepth 100000 in
theorem sbX2_settle_29 {X : Cx} {D : Dx} (hR : X.2.2.2.1 = rmX2_settle) (F : Fx X D cX2_settle 6 RX2 none "settle") {Q : Wd → Prop} {s0 : Nat} {s1 : Int64} {G : Wd} (hw : wpX2_settle_29 Q  s0 s1 G) : V X D 6 (ZM X D (QMv D Q) 0 0) G 0 0 29 [] [.long s1, .ref s0] := by
  unfold wpX2_settle_29 at hw
  obtain ⟨kd1, hw⟩ := hw
  refine v_putJ F fl_X2_7 (fun h => absurd h (by decide)) rfl kd1 dX2_settle_29 ?_
  refine v_nmG (fun G2 hG2 => ?_)
  have hw := hw G2 hG2
  exact v_vret F hw dX2_settle_32
set_option maxRecDepth 100000 in
theorem sbX2_settle_15 {X : Cx} {D : Dx} (hR : X.2.2.2.1 = rmX2_settle) (F : Fx X D cX2_settle 6 RX2 none "settle") {Q : Wd → Prop} {v0 : Nat} {v1 : Int32} {v4 : Int64} {s0 : Nat} {s1 : Int64} {G : Wd} (hw : wpX2_settle_15 Q  v0 v1 v4 s0 s1 G) : V X D 6 (ZM X D (QMv D Q) 0 0) G 0 0 15 [(0, .ref v0), (1, .int v1), (4, .long v4)] [.long s1, .ref s0] := by
  unfold wpX2_settle_15 at hw
  obtain ⟨kd3, hw⟩ := hw
  refine v_putJ F fl_X2_21 (fun h => absurd h (by decide)) rfl kd3 dX2_settle_15 ?_
  refine v_nmG (fun G4 hG4 => ?_)
  have hw := hw G4 hG4
  refine v_aload_n F dX2_settle_18 rfl 0 rfl ?_
  refine v_iload_n F dX2_settle_19 rfl 1 rfl ?_
  refine v_if_eq (tgt := 27) F dX2_settle_20 (by decide) (fun h => ?_) (fun h => ?_)
  · rw [if_pos h] at hw
    refine v_lload F dX2_settle_27 2 rfl ?_
    exact v_loc [] rfl (sbX2_settle_29 hR F  hw)
  · rw [if_neg h] at hw
    refine v_lconst (v := 1) F dX2_settle_23 rfl ?_
    refine v_goto (tgt := 29) F dX2_settle_24 (by decide) ?_
    exact v_loc [] rfl (sbX2_settle_29 hR F  hw)
set_option maxRecDepth 100000 in
theorem sX2_settle {l : Launch} {D : Dx} {a0 : Nat} {p1 : Int32} {p2 : Int64} {p4 : Int64} {G : Wd} {Q : Wd → Prop} (hw : wpX2_settle a0 p1 p2 p4 G Q) : Met l yX2_settle (wM yX2_settle cX2_settle 6 none) rmX2_settle (PM D [.ref a0, .int p1, .long p2, .long p4] G) (QMv D Q) 0 0 (Ab D) := by
  refine v_met (by decide) (Nat.le_of_ble_eq_true rfl) (fun X hl hR F => ?_)
  subst hl
  have F : Fx X D cX2_settle 6 RX2 none "settle" := F
  refine v_cast (L' := [(0, .ref a0), (1, .int p1), (2, .long p2), (4, .long p4)]) rfl rfl ?_
  unfold wpX2_settle at hw
  refine v_aload_n F dX2_settle_0 rfl 0 rfl ?_
  refine v_iload_n F dX2_settle_1 rfl 1 rfl ?_
  obtain ⟨kd5, hw⟩ := hw
  obtain ⟨hB7, hw⟩ := hw
  refine v_putZ F fl_X2_17 (fun h => absurd h (by decide)) rfl hB7 kd5 dX2_settle_2 ?_
  refine v_nmG (fun G6 hG6 => ?_)
  have hw := hw G6 hG6
  refine v_aload_n F dX2_settle_5 rfl 0 rfl ?_
  refine v_iload_n F dX2_settle_6 rfl 1 rfl ?_
  refine v_if_eq (tgt := 14) F dX2_settle_7 (by decide) (fun h => ?_) (fun h => ?_)
  · rw [if_pos h] at hw
    refine v_lload_n F dX2_settle_14 rfl 2 rfl ?_
    exact v_loc [0, 1, 3] rfl (sbX2_settle_15 hR F  hw)
  · rw [if_neg h] at hw
    refine v_lconst (v := 0) F dX2_settle_10 rfl ?_
    refine v_goto (tgt := 15) F dX2_settle_11 (by decide) ?_
    exact v_loc [0, 1, 3] rfl (sbX2_settle_15 hR F  hw)
set_option maxRecDepth 100000 in
theorem sX2_init {l : Launch} {D : Dx} {a0 : Nat} {G : Wd} {Q : Wd → Prop} (hw : wpX2_init a0 G Q) : Met l yX2_init (wM yX2_init cX2_init 1 none) rmX2_init (PM D [.ref a0] G) (QMv D Q) 0 0 (Ab D) := by
  refine v_met (by decide) (Nat.le_of_ble_eq_true rfl) (fun X hl hR F => ?_)
  subst hl
  have F : Fx X D cX2_init 1 RX2 none "<init>" := F
  refine v_cast (L' := [(0, .ref a0)]) rfl rfl ?_
  unfold wpX2_init at hw
  refine v_aload_n F dX2_init_0 rfl 0 rfl ?_
  refine v_objInit F wd_107 wd_86 wd_87 (by rw [hR]; exact Nat.le_of_ble_eq_true rfl) (by rw [hR]; exact Nat.le_of_ble_eq_true rfl) dX2_init_1 ?_
  refine v_aload_n F dX2_init_4 rfl 0 rfl ?_
  refine v_lconst (v := 1) F dX2_init_5 rfl ?_
  obtain ⟨kd1, hw⟩ := hw
  refine v_putJ F fl_X2_7 (fun h => absurd h (by decide)) rfl kd1 dX2_init_6 ?_
  refine v_nmG (fun G2 hG2 => ?_)
  have hw := hw G2 hG2
  exact v_vret F hw dX2_init_9
set_option maxRecDepth 100000 in
theorem sX2_become {l : Launch} {D : Dx} {a0 : Nat} {p1 : Int64} {p3 : Int64} {G : Wd} {Q : Wd → Prop} (hw : wpX2_become a0 p1 p3 G Q) : Met l yX2_become (wM yX2_become cX2_become 7 none) rmX2_become (PM D [.ref a0, .long p1, .long p3] G) (QMv D Q) 0 0 (Ab D) := by
  refine v_met (by decide) (Nat.le_of_ble_eq_true rfl) (fun X hl hR F => ?_)
  subst hl
  have F : Fx X D cX2_become 7 RX2 none "become" := F
  refine v_cast (L' := [(0, .ref a0), (1, .long p1), (3, .long p3)]) rfl rfl ?_
  unfold wpX2_become at hw
  refine v_lload_n F dX2_become_0 rfl 1 rfl ?_
  refine v_lload_n F dX2_become_1 rfl 2 rfl ?_
  refine v_calll (r_S F ls_X2_13 (sX2_commonDivisor hw) (mkRm hR rfl rfl rfl rfl rfl rfl) rfl rfl (Nat.le_of_ble_eq_true rfl) dX2_become_2) (fun r1 G2 hw => ?_)
  refine v_lstore (L' := [(5, .long r1), (0, .ref a0), (1, .long p1), (3, .long p3)]) F dX2_become_5 (by decide) rfl ?_
  refine v_aload_n F dX2_become_7 rfl 1 rfl ?_
  refine v_iconst (v := 0) F dX2_become_8 (by decide) ?_
  obtain ⟨kd3, hw⟩ := hw
  refine v_putZ F fl_X2_17 (fun h => absurd h (by decide)) rfl (Or.inl rfl) kd3 dX2_become_9 ?_
  refine v_nmG (fun G4 hG4 => ?_)
  have hw := hw G4 hG4
  refine v_aload_n F dX2_become_12 rfl 1 rfl ?_
  refine v_lload_n F dX2_become_13 rfl 2 rfl ?_
  refine v_lload F dX2_become_14 0 rfl ?_
  obtain ⟨hn5, hw⟩ := hw
  refine v_ldiv F dX2_become_16 hn5 ?_
  have kd6 : gK G4 a0 = 3 := by rw [hG4]; exact kd3
  refine v_putJ F fl_X2_21 (fun h => absurd h (by decide)) rfl kd6 dX2_become_17 ?_
  refine v_nmG (fun G7 hG7 => ?_)
  have hw := hw G7 hG7
  refine v_aload_n F dX2_become_20 rfl 1 rfl ?_
  refine v_lload_n F dX2_become_21 rfl 3 rfl ?_
  refine v_lload F dX2_become_22 0 rfl ?_
  obtain ⟨hn8, hw⟩ := hw
  refine v_ldiv F dX2_become_24 hn8 ?_
  have kd9 : gK G7 a0 = 3 := by rw [hG7]; exact kd6
  refine v_putJ F fl_X2_7 (fun h => absurd h (by decide)) rfl kd9 dX2_become_25 ?_
  refine v_nmG (fun G10 hG10 => ?_)
  have hw := hw G10 hG10
  refine v_widen (c' := 0) (s' := 0) (by decide) (by decide) ?_
  exact v_vret F hw dX2_become_28
set_option maxRecDepth 100000 in
theorem sX2_become_ {l : Launch} {D : Dx} {a0 : Nat} {a1 : Nat} {G : Wd} {Q : Wd → Prop} (hw : wpX2_become_ a0 a1 G Q) : Met l yX2_become_ (wM yX2_become_ cX2_become_ 2 none) rmX2_become_ (PM D [.ref a0, .ref a1] G) (QMv D Q) 0 0 (Ab D) := by
  refine v_met (by decide) (Nat.le_of_ble_eq_true rfl) (fun X hl hR F => ?_)
  subst hl
  have F : Fx X D cX2_become_ 2 RX2 none "become" := F
  refine v_cast (L' := [(0, .ref a0), (1, .ref a1)]) rfl rfl ?_
  unfold wpX2_become_ at hw
  refine v_aload_n F dX2_become__0 rfl 0 rfl ?_
  refine v_aload_n F dX2_become__1 rfl 1 rfl ?_
  obtain ⟨kd1, hw⟩ := hw
  refine v_get F fl_X2_17 kd1 rfl dX2_become__2 ?_
  obtain ⟨kd2, hw⟩ := hw
  obtain ⟨hB4, hw⟩ := hw
  refine v_putZ F fl_X2_17 (fun h => absurd h (by decide)) rfl hB4 kd2 dX2_become__5 ?_
  refine v_nmG (fun G3 hG3 => ?_)
  have hw := hw G3 hG3
  refine v_aload_n F dX2_become__8 rfl 0 rfl ?_
  refine v_aload_n F dX2_become__9 rfl 1 rfl ?_
  have kd5 : gK G3 a1 = 3 := by rw [hG3]; exact kd1
  refine v_get F fl_X2_21 kd5 rfl dX2_become__10 ?_
  have kd6 : gK G3 a0 = 3 := by rw [hG3]; exact kd2
  refine v_putJ F fl_X2_21 (fun h => absurd h (by decide)) rfl kd6 dX2_become__13 ?_
  refine v_nmG (fun G7 hG7 => ?_)
  have hw := hw G7 hG7
  refine v_aload_n F dX2_become__16 rfl 0 rfl ?_
  refine v_aload_n F dX2_become__17 rfl 1 rfl ?_
  have kd8 : gK G7 a1 = 3 := by rw [hG7]; exact kd5
  refine v_get F fl_X2_7 kd8 rfl dX2_become__18 ?_
  have kd9 : gK G7 a0 = 3 := by rw [hG7]; exact kd6
  refine v_putJ F fl_X2_7 (fun h => absurd h (by decide)) rfl kd9 dX2_become__21 ?_
  refine v_nmG (fun G10 hG10 => ?_)
  have hw := hw G10 hG10
  exact v_vret F hw dX2_become__24
set_option maxRecDepth 100000 in
theorem sbX2_becomeProduct_75 {X : Cx} {D : Dx} (hR : X.2.2.2.1 = rmX2_becomeProduct) (F : Fx X D cX2_becomeProduct 10 RX2 none "becomeProduct") {Q : Wd → Prop} {v1 : Nat} {v2 : Int64} {v4 : Int64} {v6 : Int64} {v8 : Int64} {s0 : Nat} {s1 : Int32} {G : Wd} (hw : wpX2_becomeProduct_75 Q  v1 v2 v4 v6 v8 s0 s1 G) : V X D 10 (ZM X D (QMv D Q) 0 0) G 0 0 75 [(1, .ref v1), (2, .long v2), (4, .long v4), (6, .long v6), (8, .long v8)] [.int s1, .ref s0] := by
  unfold wpX2_becomeProduct_75 at hw
  refine v_aload_n F dX2_becomeProduct_75 rfl 0 rfl ?_
  obtain ⟨kd1, hw⟩ := hw
  refine v_get F fl_X2_21 kd1 rfl dX2_becomeProduct_76 ?_
  refine v_lload F dX2_becomeProduct_79 3 rfl ?_
  obtain ⟨hn2, hw⟩ := hw
  refine v_ldiv F dX2_becomeProduct_81 hn2 ?_
  refine v_lload_n F dX2_becomeProduct_82 rfl 1 rfl ?_
  refine v_lload F dX2_becomeProduct_83 4 rfl ?_
  obtain ⟨hn3, hw⟩ := hw
  refine v_ldiv F dX2_becomeProduct_85 hn3 ?_
  refine v_lmul F dX2_becomeProduct_86 ?_
  refine v_aload_n F dX2_becomeProduct_87 rfl 0 rfl ?_
  refine v_get F fl_X2_7 kd1 rfl dX2_becomeProduct_88 ?_
  refine v_lload F dX2_becomeProduct_91 4 rfl ?_
  obtain ⟨hn4, hw⟩ := hw
  refine v_ldiv F dX2_becomeProduct_93 hn4 ?_
  refine v_lload F dX2_becomeProduct_94 2 rfl ?_
  refine v_lload F dX2_becomeProduct_96 3 rfl ?_
  obtain ⟨hn5, hw⟩ := hw
  refine v_ldiv F dX2_becomeProduct_98 hn5 ?_
  refine v_lmul F dX2_becomeProduct_99 ?_
  obtain ⟨kd6, hw⟩ := hw
  refine v_callv (r_V F lk_X2_30 kd6 (sX2_settle hw) (mkRm hR rfl rfl rfl rfl rfl rfl) rfl rfl (Nat.le_of_ble_eq_true rfl) dX2_becomeProduct_100) (fun G8 hw => ?_)
  refine v_widen (c' := 0) (s' := 0) (by decide) (by decide) ?_
  exact v_vret F hw dX2_becomeProduct_103
set_option maxRecDepth 100000 in
theorem sbX2_becomeProduct_70 {X : Cx} {D : Dx} (hR : X.2.2.2.1 = rmX2_becomeProduct) (F : Fx X D cX2_becomeProduct 10 RX2 none "becomeProduct") {Q : Wd → Prop} {v1 : Nat} {v2 : Int64} {v4 : Int64} {v6 : Int64} {v8 : Int64} {s0 : Nat} {G : Wd} (hw : wpX2_becomeProduct_70 Q  v1 v2 v4 v6 v8 s0 G) : V X D 10 (ZM X D (QMv D Q) 0 0) G 0 0 70 [(1, .ref v1), (2, .long v2), (4, .long v4), (6, .long v6), (8, .long v8)] [.ref s0] := by
  unfold wpX2_becomeProduct_70 at hw
  refine v_iconst (v := 1) F dX2_becomeProduct_70 (by decide) ?_
  refine v_goto (tgt := 75) F dX2_becomeProduct_71 (by decide) ?_
  exact v_loc [0, 1, 2, 3, 4] rfl (sbX2_becomeProduct_75 hR F  hw)
set_option maxRecDepth 100000 in
theorem sX2_becomeProduct {l : Launch} {D : Dx} {a0 : Nat} {a1 : Nat} {p2 : Int64} {p4 : Int64} {G : Wd} {Q : Wd → Prop} (hw : wpX2_becomeProduct a0 a1 p2 p4 G Q) : Met l yX2_becomeProduct (wM yX2_becomeProduct cX2_becomeProduct 10 none) rmX2_becomeProduct (PM D [.ref a0, .ref a1, .long p2, .long p4] G) (QMv D Q) 0 0 (Ab D) := by
  refine v_met (by decide) (Nat.le_of_ble_eq_true rfl) (fun X hl hR F => ?_)
  subst hl
  have F : Fx X D cX2_becomeProduct 10 RX2 none "becomeProduct" := F
  refine v_cast (L' := [(0, .ref a0), (1, .ref a1), (2, .long p2), (4, .long p4)]) rfl rfl ?_
  unfold wpX2_becomeProduct at hw
  refine v_aload_n F dX2_becomeProduct_0 rfl 1 rfl ?_
  obtain ⟨kd9, hw⟩ := hw
  refine v_get F fl_X2_21 kd9 rfl dX2_becomeProduct_1 ?_
  refine v_lload F dX2_becomeProduct_4 3 rfl ?_
  refine v_calll (r_S F ls_X2_13 (sX2_commonDivisor hw) (mkRm hR rfl rfl rfl rfl rfl rfl) rfl rfl (Nat.le_of_ble_eq_true rfl) dX2_becomeProduct_6) (fun r10 G11 hw => ?_)
  refine v_lstore (L' := [(6, .long r10), (0, .ref a0), (1, .ref a1), (2, .long p2), (4, .long p4)]) F dX2_becomeProduct_9 (by decide) rfl ?_
  refine v_aload_n F dX2_becomeProduct_11 rfl 2 rfl ?_
  obtain ⟨kd12, hw⟩ := hw
  refine v_get F fl_X2_7 kd12 rfl dX2_becomeProduct_12 ?_
  refine v_lload_n F dX2_becomeProduct_15 rfl 3 rfl ?_
  refine v_calll (r_S F ls_X2_13 (sX2_commonDivisor hw) (mkRm hR rfl rfl rfl rfl rfl rfl) rfl rfl (Nat.le_of_ble_eq_true rfl) dX2_becomeProduct_16) (fun r13 G14 hw => ?_)
  refine v_lstore (L' := [(8, .long r13), (6, .long r10), (0, .ref a0), (1, .ref a1), (2, .long p2), (4, .long p4)]) F dX2_becomeProduct_19 (by decide) rfl ?_
  refine v_aload_n F dX2_becomeProduct_21 rfl 2 rfl ?_
  refine v_aload_n F dX2_becomeProduct_22 rfl 3 rfl ?_
  obtain ⟨kd15, hw⟩ := hw
  refine v_get F fl_X2_17 kd15 rfl dX2_becomeProduct_23 ?_
  refine v_if_ne (tgt := 70) F dX2_becomeProduct_26 (by decide) (fun h => ?_) (fun h => ?_)
  · rw [if_neg h] at hw
    exact v_loc [3, 4, 5, 1, 0] rfl (sbX2_becomeProduct_70 hR F  hw)
  · rw [if_pos h] at hw
    refine v_aload_n F dX2_becomeProduct_29 rfl 3 rfl ?_
    refine v_get F fl_X2_21 kd15 rfl dX2_becomeProduct_30 ?_
    refine v_lload F dX2_becomeProduct_33 1 rfl ?_
    obtain ⟨hn16, hw⟩ := hw
    refine v_ldiv F dX2_becomeProduct_35 hn16 ?_
    refine v_lload_n F dX2_becomeProduct_36 rfl 4 rfl ?_
    refine v_lload F dX2_becomeProduct_37 0 rfl ?_
    obtain ⟨hn17, hw⟩ := hw
    refine v_ldiv F dX2_becomeProduct_39 hn17 ?_
    refine v_ldc2 (v := 1000000000000000) F wd_595 dX2_becomeProduct_40 ?_
    refine v_calli (r_S F ls_X2_26 (sX2_reaches hw) (mkRm hR rfl rfl rfl rfl rfl rfl) rfl rfl (Nat.le_of_ble_eq_true rfl) dX2_becomeProduct_43) (fun r18 G19 hw => ?_)
    refine v_if_ne (tgt := 70) F dX2_becomeProduct_46 (by decide) (fun h => ?_) (fun h => ?_)
    · rw [if_neg h] at hw
      exact v_loc [3, 4, 5, 1, 0] rfl (sbX2_becomeProduct_70 hR F  hw)
    · rw [if_pos h] at hw
      refine v_aload_n F dX2_becomeProduct_49 rfl 3 rfl ?_
      obtain ⟨kd20, hw⟩ := hw
      refine v_get F fl_X2_7 kd20 rfl dX2_becomeProduct_50 ?_
      refine v_lload F dX2_becomeProduct_53 0 rfl ?_
      obtain ⟨hn21, hw⟩ := hw
      refine v_ldiv F dX2_becomeProduct_55 hn21 ?_
      refine v_lload F dX2_becomeProduct_56 5 rfl ?_
      refine v_lload F dX2_becomeProduct_58 1 rfl ?_
      obtain ⟨hn22, hw⟩ := hw
      refine v_ldiv F dX2_becomeProduct_60 hn22 ?_
      refine v_ldc2 (v := 1000000000000000) F wd_595 dX2_becomeProduct_61 ?_
      refine v_calli (r_S F ls_X2_26 (sX2_reaches hw) (mkRm hR rfl rfl rfl rfl rfl rfl) rfl rfl (Nat.le_of_ble_eq_true rfl) dX2_becomeProduct_64) (fun r23 G24 hw => ?_)
      refine v_if_eq (tgt := 74) F dX2_becomeProduct_67 (by decide) (fun h => ?_) (fun h => ?_)
      · rw [if_pos h] at hw
        refine v_iconst (v := 0) F dX2_becomeProduct_74 (by decide) ?_
        exact v_loc [3, 4, 5, 1, 0] rfl (sbX2_becomeProduct_75 hR F  hw)
      · rw [if_neg h] at hw
        exact v_loc [3, 4, 5, 1, 0] rfl (sbX2_becomeProduct_70 hR F  hw)
set_option maxRecDepth 100000 in
theorem sbX2_add_87 {X : Cx} {D : Dx} (hR : X.2.2.2.1 = rmX2_add) (F : Fx X D cX2_add 14 RX2 none "add") {Q : Wd → Prop} {v0 : Nat} {G : Wd} (hw : wpX2_add_87 Q  v0 G) : V X D 14 (ZM X D (QMv D Q) 0 0) G 0 0 87 [(0, .ref v0)] [] := by
  unfold wpX2_add_87 at hw
  refine v_aload_n F dX2_add_87 rfl 0 rfl ?_
  refine v_iconst (v := 1) F dX2_add_88 (by decide) ?_
  refine v_lconst (v := 0) F dX2_add_89 rfl ?_
  refine v_lconst (v := 1) F dX2_add_90 rfl ?_
  obtain ⟨kd1, hw⟩ := hw
  refine v_callv (r_V F lk_X2_30 kd1 (sX2_settle hw) (mkRm hR rfl rfl rfl rfl rfl rfl) rfl rfl (Nat.le_of_ble_eq_true rfl) dX2_add_91) (fun G3 hw => ?_)
  refine v_widen (c' := 0) (s' := 0) (by decide) (by decide) ?_
  exact v_vret F hw dX2_add_94
set_option maxRecDepth 100000 in
theorem sbX2_add_166 {X : Cx} {D : Dx} (hR : X.2.2.2.1 = rmX2_add) (F : Fx X D cX2_add 14 RX2 none "add") {Q : Wd → Prop} {v8 : Int64} {v10 : Int64} {v12 : Int64} {s0 : Nat} {s1 : Int32} {G : Wd} (hw : wpX2_add_166 Q  v8 v10 v12 s0 s1 G) : V X D 14 (ZM X D (QMv D Q) 0 0) G 0 0 166 [(8, .long v8), (10, .long v10), (12, .long v12)] [.int s1, .ref s0] := by
  unfold wpX2_add_166 at hw
  refine v_lload F dX2_add_166 0 rfl ?_
  refine v_lload F dX2_add_168 2 rfl ?_
  obtain ⟨hn4, hw⟩ := hw
  refine v_ldiv F dX2_add_170 hn4 ?_
  refine v_lload F dX2_add_171 1 rfl ?_
  refine v_lload F dX2_add_173 2 rfl ?_
  obtain ⟨hn5, hw⟩ := hw
  refine v_ldiv F dX2_add_175 hn5 ?_
  obtain ⟨kd6, hw⟩ := hw
  refine v_callv (r_V F lk_X2_30 kd6 (sX2_settle hw) (mkRm hR rfl rfl rfl rfl rfl rfl) rfl rfl (Nat.le_of_ble_eq_true rfl) dX2_add_176) (fun G8 hw => ?_)
  refine v_widen (c' := 0) (s' := 0) (by decide) (by decide) ?_
  exact v_vret F hw dX2_add_179
set_option maxRecDepth 100000 in
theorem sbX2_add_161 {X : Cx} {D : Dx} (hR : X.2.2.2.1 = rmX2_add) (F : Fx X D cX2_add 14 RX2 none "add") {Q : Wd → Prop} {v8 : Int64} {v10 : Int64} {v12 : Int64} {s0 : Nat} {G : Wd} (hw : wpX2_add_161 Q  v8 v10 v12 s0 G) : V X D 14 (ZM X D (QMv D Q) 0 0) G 0 0 161 [(8, .long v8), (10, .long v10), (12, .long v12)] [.ref s0] := by
  unfold wpX2_add_161 at hw
  refine v_iconst (v := 1) F dX2_add_161 (by decide) ?_
  refine v_goto (tgt := 166) F dX2_add_162 (by decide) ?_
  exact v_loc [0, 1, 2] rfl (sbX2_add_166 hR F  hw)
set_option maxRecDepth 100000 in
theorem sX2_add {l : Launch} {D : Dx} {a0 : Nat} {a1 : Nat} {G : Wd} {Q : Wd → Prop} (hw : wpX2_add a0 a1 G Q) : Met l yX2_add (wM yX2_add cX2_add 14 none) rmX2_add (PM D [.ref a0, .ref a1] G) (QMv D Q) 0 0 (Ab D) := by
  refine v_met (by decide) (Nat.le_of_ble_eq_true rfl) (fun X hl hR F => ?_)
  subst hl
  have F : Fx X D cX2_add 14 RX2 none "add" := F
  refine v_cast (L' := [(0, .ref a0), (1, .ref a1)]) rfl rfl ?_
  unfold wpX2_add at hw
  refine v_aload_n F dX2_add_0 rfl 0 rfl ?_
  obtain ⟨kd9, hw⟩ := hw
  refine v_get F fl_X2_7 kd9 rfl dX2_add_1 ?_
  refine v_aload_n F dX2_add_4 rfl 1 rfl ?_
  obtain ⟨kd10, hw⟩ := hw
  refine v_get F fl_X2_7 kd10 rfl dX2_add_5 ?_
  refine v_calll (r_S F ls_X2_13 (sX2_commonDivisor hw) (mkRm hR rfl rfl rfl rfl rfl rfl) rfl rfl (Nat.le_of_ble_eq_true rfl) dX2_add_8) (fun r11 G12 hw => ?_)
  refine v_lstore_n (L' := [(2, .long r11), (0, .ref a0), (1, .ref a1)]) F dX2_add_11 rfl (by decide) rfl ?_
  refine v_aload_n F dX2_add_12 rfl 2 rfl ?_
  obtain ⟨kd13, hw⟩ := hw
  refine v_get F fl_X2_7 kd13 rfl dX2_add_13 ?_
  refine v_lload_n F dX2_add_16 rfl 0 rfl ?_
  obtain ⟨hn14, hw⟩ := hw
  refine v_ldiv F dX2_add_17 hn14 ?_
  refine v_topl (fun x15 hx15 => ?_)
  have hw := hw x15 hx15
  refine v_lstore (L' := [(4, .long x15), (2, .long r11), (0, .ref a0), (1, .ref a1)]) F dX2_add_18 (by decide) rfl ?_
  refine v_aload_n F dX2_add_20 rfl 2 rfl ?_
  obtain ⟨kd16, hw⟩ := hw
  refine v_get F fl_X2_7 kd16 rfl dX2_add_21 ?_
  refine v_lload_n F dX2_add_24 rfl 1 rfl ?_
  obtain ⟨hn17, hw⟩ := hw
  refine v_ldiv F dX2_add_25 hn17 ?_
  refine v_topl (fun x18 hx18 => ?_)
  have hw := hw x18 hx18
  refine v_lstore (L' := [(6, .long x18), (4, .long x15), (2, .long r11), (0, .ref a0), (1, .ref a1)]) F dX2_add_26 (by decide) rfl ?_
  refine v_aload_n F dX2_add_28 rfl 3 rfl ?_
  refine v_get F fl_X2_17 kd16 rfl dX2_add_29 ?_
  refine v_if_ne (tgt := 87) F dX2_add_32 (by decide) (fun h => ?_) (fun h => ?_)
  · rw [if_neg h] at hw
    exact v_loc [3] rfl (sbX2_add_87 hR F  hw)
  · rw [if_pos h] at hw
    refine v_aload_n F dX2_add_35 rfl 4 rfl ?_
    refine v_get F fl_X2_17 kd13 rfl dX2_add_36 ?_
    refine v_if_ne (tgt := 87) F dX2_add_39 (by decide) (fun h => ?_) (fun h => ?_)
    · rw [if_neg h] at hw
      exact v_loc [3] rfl (sbX2_add_87 hR F  hw)
    · rw [if_pos h] at hw
      refine v_aload_n F dX2_add_42 rfl 3 rfl ?_
      refine v_get F fl_X2_21 kd16 rfl dX2_add_43 ?_
      refine v_lload F dX2_add_46 1 rfl ?_
      refine v_ldc2 (v := 1000000000000000000) F wd_810 dX2_add_48 ?_
      refine v_calli (r_S F ls_X2_26 (sX2_reaches hw) (mkRm hR rfl rfl rfl rfl rfl rfl) rfl rfl (Nat.le_of_ble_eq_true rfl) dX2_add_51) (fun r19 G20 hw => ?_)
      refine v_if_ne (tgt := 87) F dX2_add_54 (by decide) (fun h => ?_) (fun h => ?_)
      · rw [if_neg h] at hw
        exact v_loc [3] rfl (sbX2_add_87 hR F  hw)
      · rw [if_pos h] at hw
        refine v_aload_n F dX2_add_57 rfl 4 rfl ?_
        obtain ⟨kd21, hw⟩ := hw
        refine v_get F fl_X2_21 kd21 rfl dX2_add_58 ?_
        refine v_lload F dX2_add_61 0 rfl ?_
        refine v_ldc2 (v := 1000000000000000000) F wd_810 dX2_add_63 ?_
        refine v_calli (r_S F ls_X2_26 (sX2_reaches hw) (mkRm hR rfl rfl rfl rfl rfl rfl) rfl rfl (Nat.le_of_ble_eq_true rfl) dX2_add_66) (fun r22 G23 hw => ?_)
        refine v_if_ne (tgt := 87) F dX2_add_69 (by decide) (fun h => ?_) (fun h => ?_)
        · rw [if_neg h] at hw
          exact v_loc [3] rfl (sbX2_add_87 hR F  hw)
        · rw [if_pos h] at hw
          refine v_aload_n F dX2_add_72 rfl 3 rfl ?_
          obtain ⟨kd24, hw⟩ := hw
          refine v_get F fl_X2_7 kd24 rfl dX2_add_73 ?_
          refine v_lload F dX2_add_76 1 rfl ?_
          refine v_ldc2 (v := 1000000000000000000) F wd_810 dX2_add_78 ?_
          refine v_calli (r_S F ls_X2_26 (sX2_reaches hw) (mkRm hR rfl rfl rfl rfl rfl rfl) rfl rfl (Nat.le_of_ble_eq_true rfl) dX2_add_81) (fun r25 G26 hw => ?_)
          refine v_if_eq (tgt := 95) F dX2_add_84 (by decide) (fun h => ?_) (fun h => ?_)
          · rw [if_pos h] at hw
            refine v_aload_n F dX2_add_95 rfl 3 rfl ?_
            obtain ⟨kd27, hw⟩ := hw
            refine v_get F fl_X2_21 kd27 rfl dX2_add_96 ?_
            refine v_lload F dX2_add_99 1 rfl ?_
            refine v_lmul F dX2_add_101 ?_
            refine v_aload_n F dX2_add_102 rfl 4 rfl ?_
            obtain ⟨kd28, hw⟩ := hw
            refine v_get F fl_X2_21 kd28 rfl dX2_add_103 ?_
            refine v_lload F dX2_add_106 0 rfl ?_
            refine v_lmul F dX2_add_108 ?_
            refine v_ladd F dX2_add_109 ?_
            refine v_topl (fun x29 hx29 => ?_)
            have hw := hw x29 hx29
            refine v_lstore (L' := [(8, .long x29), (6, .long x18), (4, .long x15), (2, .long r11), (0, .ref a0), (1, .ref a1)]) F dX2_add_110 (by decide) rfl ?_
            refine v_aload_n F dX2_add_112 rfl 4 rfl ?_
            refine v_get F fl_X2_7 kd27 rfl dX2_add_113 ?_
            refine v_lload F dX2_add_116 2 rfl ?_
            refine v_lmul F dX2_add_118 ?_
            refine v_topl (fun x30 hx30 => ?_)
            have hw := hw x30 hx30
            refine v_lstore (L' := [(10, .long x30), (8, .long x29), (6, .long x18), (4, .long x15), (2, .long r11), (0, .ref a0), (1, .ref a1)]) F dX2_add_119 (by decide) rfl ?_
            refine v_lload F dX2_add_121 1 rfl ?_
            refine v_lload F dX2_add_123 0 rfl ?_
            refine v_calll (r_S F ls_X2_13 (sX2_commonDivisor hw) (mkRm hR rfl rfl rfl rfl rfl rfl) rfl rfl (Nat.le_of_ble_eq_true rfl) dX2_add_125) (fun r31 G32 hw => ?_)
            refine v_lstore (L' := [(12, .long r31), (10, .long x30), (8, .long x29), (6, .long x18), (4, .long x15), (2, .long r11), (0, .ref a0), (1, .ref a1)]) F dX2_add_128 (by decide) rfl ?_
            refine v_aload_n F dX2_add_130 rfl 6 rfl ?_
            refine v_lload F dX2_add_131 2 rfl ?_
            refine v_lload F dX2_add_133 0 rfl ?_
            obtain ⟨hn33, hw⟩ := hw
            refine v_ldiv F dX2_add_135 hn33 ?_
            refine v_lconst (v := 1) F dX2_add_136 rfl ?_
            refine v_ldc2 (v := 1000000000000000) F wd_595 dX2_add_137 ?_
            refine v_calli (r_S F ls_X2_26 (sX2_reaches hw) (mkRm hR rfl rfl rfl rfl rfl rfl) rfl rfl (Nat.le_of_ble_eq_true rfl) dX2_add_140) (fun r34 G35 hw => ?_)
            refine v_if_ne (tgt := 161) F dX2_add_143 (by decide) (fun h => ?_) (fun h => ?_)
            · rw [if_neg h] at hw
              exact v_loc [2, 1, 0] rfl (sbX2_add_161 hR F  hw)
            · rw [if_pos h] at hw
              refine v_lload F dX2_add_146 1 rfl ?_
              refine v_lload F dX2_add_148 0 rfl ?_
              obtain ⟨hn36, hw⟩ := hw
              refine v_ldiv F dX2_add_150 hn36 ?_
              refine v_lconst (v := 1) F dX2_add_151 rfl ?_
              refine v_ldc2 (v := 1000000000000000) F wd_595 dX2_add_152 ?_
              refine v_calli (r_S F ls_X2_26 (sX2_reaches hw) (mkRm hR rfl rfl rfl rfl rfl rfl) rfl rfl (Nat.le_of_ble_eq_true rfl) dX2_add_155) (fun r37 G38 hw => ?_)
              refine v_if_eq (tgt := 165) F dX2_add_158 (by decide) (fun h => ?_) (fun h => ?_)
              · rw [if_pos h] at hw
                refine v_iconst (v := 0) F dX2_add_165 (by decide) ?_
                exact v_loc [2, 1, 0] rfl (sbX2_add_166 hR F  hw)
              · rw [if_neg h] at hw
                exact v_loc [2, 1, 0] rfl (sbX2_add_161 hR F  hw)
          · rw [if_neg h] at hw
            exact v_loc [3] rfl (sbX2_add_87 hR F  hw)
set_option maxRecDepth 100000 in
theorem sX2_isAboveOne {l : Launch} {D : Dx} {a0 : Nat} {G : Wd} {Q : Int32 → Wd → Prop} (hw : wpX2_isAboveOne a0 G Q) : Met l yX2_isAboveOne (wM yX2_isAboveOne cX2_isAboveOne 1 (some .boolean)) rmX2_isAboveOne (PM D [.ref a0] G) (QMi D Q) 0 0 (Ab D) := by
  refine v_met (by decide) (Nat.le_of_ble_eq_true rfl) (fun X hl hR F => ?_)
  subst hl
  have F : Fx X D cX2_isAboveOne 1 RX2 (some .boolean) "isAboveOne" := F
  refine v_cast (L' := [(0, .ref a0)]) rfl rfl ?_
  unfold wpX2_isAboveOne at hw
  refine v_aload_n F dX2_isAboveOne_0 rfl 0 rfl ?_
  obtain ⟨kd1, hw⟩ := hw
  refine v_get F fl_X2_17 kd1 rfl dX2_isAboveOne_1 ?_
  refine v_if_ne (tgt := 23) F dX2_isAboveOne_4 (by decide) (fun h => ?_) (fun h => ?_)
  · rw [if_neg h] at hw
    refine v_iconst (v := 0) F dX2_isAboveOne_23 (by decide) ?_
    exact v_zret F (Or.inl rfl) hw dX2_isAboveOne_24
  · rw [if_pos h] at hw
    refine v_aload_n F dX2_isAboveOne_7 rfl 0 rfl ?_
    refine v_get F fl_X2_21 kd1 rfl dX2_isAboveOne_8 ?_
    refine v_aload_n F dX2_isAboveOne_11 rfl 0 rfl ?_
    refine v_get F fl_X2_7 kd1 rfl dX2_isAboveOne_12 ?_
    refine v_lcmp F dX2_isAboveOne_15 ?_
    refine v_lif_le (tgt := 23) F dX2_isAboveOne_16 (by decide) (fun h => ?_) (fun h => ?_)
    · rw [if_neg h] at hw
      refine v_iconst (v := 0) F dX2_isAboveOne_23 (by decide) ?_
      exact v_zret F (Or.inl rfl) hw dX2_isAboveOne_24
    · rw [if_pos h] at hw
      refine v_iconst (v := 1) F dX2_isAboveOne_19 (by decide) ?_
      refine v_goto (tgt := 24) F dX2_isAboveOne_20 (by decide) ?_
      exact v_zret F (Or.inr rfl) hw dX2_isAboveOne_24
set_option maxRecDepth 100000 in
theorem sbX2_isLess_106 {X : Cx} {D : Dx} (hR : X.2.2.2.1 = rmX2_isLess) (F : Fx X D cX2_isLess 15 RX2 (some .boolean) "isLess") {Q : Int32 → Wd → Prop} {v11 : Int64} {v13 : Int64} {G : Wd} (hw : wpX2_isLess_106 Q  v11 v13 G) : V X D 15 (ZM X D (QMi D Q) 0 0) G 0 0 106 [(11, .long v11), (13, .long v13)] [] := by
  unfold wpX2_isLess_106 at hw
  refine v_lload F dX2_isLess_106 0 rfl ?_
  refine v_lload F dX2_isLess_108 1 rfl ?_
  refine v_lcmp F dX2_isLess_110 ?_
  refine v_lif_ge (tgt := 118) F dX2_isLess_111 (by decide) (fun h => ?_) (fun h => ?_)
  · rw [if_neg h] at hw
    refine v_iconst (v := 0) F dX2_isLess_118 (by decide) ?_
    exact v_zret F (Or.inl rfl) hw dX2_isLess_119
  · rw [if_pos h] at hw
    refine v_iconst (v := 1) F dX2_isLess_114 (by decide) ?_
    refine v_goto (tgt := 119) F dX2_isLess_115 (by decide) ?_
    exact v_zret F (Or.inr rfl) hw dX2_isLess_119
set_option maxRecDepth 100000 in
theorem sbX2_isLess_26 {X : Cx} {D : Dx} (hR : X.2.2.2.1 = rmX2_isLess) (F : Fx X D cX2_isLess 15 RX2 (some .boolean) "isLess") {Q : Int32 → Wd → Prop} : ∀ (n : Nat) (v2 : Int64) (v4 : Int64) (v6 : Int64) (v8 : Int64) (v10 : Int32) (G : Wd), wpX2_isLess_26 Q  n v2 v4 v6 v8 v10 G → V X D 15 (ZM X D (QMi D Q) 0 0) G 0 0 26 [(2, .long v2), (4, .long v4), (6, .long v6), (8, .long v8), (10, .int v10)] [] := by
  intro n
  induction n with
  | zero => intro v2 v4 v6 v8 v10 G hw; exact hw.elim
  | succ n ih =>
    intro v2 v4 v6 v8 v10 G hw
    simp only [wpX2_isLess_26] at hw
    refine v_iload F dX2_isLess_26 4 rfl ?_
    refine v_bipush (v := 100) F dX2_isLess_28 (by decide) ?_
    refine v_icmp_ge (tgt := 141) F dX2_isLess_30 (by decide) (fun h => ?_) (fun h => ?_)
    · rw [if_pos h] at hw
      refine v_iconst (v := 0) F dX2_isLess_141 (by decide) ?_
      exact v_zret F (Or.inl rfl) hw dX2_isLess_142
    · rw [if_neg h] at hw
      refine v_lload F dX2_isLess_33 1 rfl ?_
      refine v_lconst (v := 0) F dX2_isLess_35 rfl ?_
      refine v_lcmp F dX2_isLess_36 ?_
      refine v_lif_le (tgt := 141) F dX2_isLess_37 (by decide) (fun h => ?_) (fun h => ?_)
      · rw [if_neg h] at hw
        refine v_iconst (v := 0) F dX2_isLess_141 (by decide) ?_
        exact v_zret F (Or.inl rfl) hw dX2_isLess_142
      · rw [if_pos h] at hw
        refine v_lload F dX2_isLess_40 3 rfl ?_
        refine v_lconst (v := 0) F dX2_isLess_42 rfl ?_
        refine v_lcmp F dX2_isLess_43 ?_
        refine v_lif_le (tgt := 141) F dX2_isLess_44 (by decide) (fun h => ?_) (fun h => ?_)
        · rw [if_neg h] at hw
          refine v_iconst (v := 0) F dX2_isLess_141 (by decide) ?_
          exact v_zret F (Or.inl rfl) hw dX2_isLess_142
        · rw [if_pos h] at hw
          refine v_lload_n F dX2_isLess_47 rfl 0 rfl ?_
          refine v_lload F dX2_isLess_48 1 rfl ?_
          obtain ⟨hn1, hw⟩ := hw
          refine v_ldiv F dX2_isLess_50 hn1 ?_
          refine v_lload F dX2_isLess_51 2 rfl ?_
          refine v_lload F dX2_isLess_53 3 rfl ?_
          obtain ⟨hn2, hw⟩ := hw
          refine v_ldiv F dX2_isLess_55 hn2 ?_
          refine v_lcmp F dX2_isLess_56 ?_
          refine v_lif_eq (tgt := 79) F dX2_isLess_57 (by decide) (fun h => ?_) (fun h => ?_)
          · rw [if_pos h] at hw
            refine v_lload_n F dX2_isLess_79 rfl 0 rfl ?_
            refine v_lload F dX2_isLess_80 1 rfl ?_
            obtain ⟨hn3, hw⟩ := hw
            refine v_lremE F dX2_isLess_82 hn3 ?_
            refine v_topl (fun x4 hx4 => ?_)
            have hw := hw x4 hx4
            refine v_lstore (L' := [(11, .long x4), (2, .long v2), (4, .long v4), (6, .long v6), (8, .long v8), (10, .int v10)]) F dX2_isLess_83 (by decide) rfl ?_
            refine v_lload F dX2_isLess_85 3 rfl ?_
            refine v_lload F dX2_isLess_87 4 rfl ?_
            obtain ⟨hn5, hw⟩ := hw
            refine v_lremE F dX2_isLess_89 hn5 ?_
            refine v_topl (fun x6 hx6 => ?_)
            have hw := hw x6 hx6
            refine v_lstore (L' := [(13, .long x6), (11, .long x4), (2, .long v2), (4, .long v4), (6, .long v6), (8, .long v8), (10, .int v10)]) F dX2_isLess_90 (by decide) rfl ?_
            refine v_lload F dX2_isLess_92 1 rfl ?_
            refine v_lconst (v := 0) F dX2_isLess_94 rfl ?_
            refine v_lcmp F dX2_isLess_95 ?_
            refine v_lif_eq (tgt := 106) F dX2_isLess_96 (by decide) (fun h => ?_) (fun h => ?_)
            · rw [if_pos h] at hw
              exact v_loc [1, 0] rfl (sbX2_isLess_106 hR F  hw)
            · rw [if_neg h] at hw
              refine v_lload F dX2_isLess_99 0 rfl ?_
              refine v_lconst (v := 0) F dX2_isLess_101 rfl ?_
              refine v_lcmp F dX2_isLess_102 ?_
              refine v_lif_ne (tgt := 120) F dX2_isLess_103 (by decide) (fun h => ?_) (fun h => ?_)
              · rw [if_neg h] at hw
                refine v_lload F dX2_isLess_120 5 rfl ?_
                refine v_lstore_n (L' := [(2, .long v8), (13, .long x6), (11, .long x4), (4, .long v4), (6, .long v6), (8, .long v8), (10, .int v10)]) F dX2_isLess_122 rfl (by decide) rfl ?_
                refine v_lload F dX2_isLess_123 3 rfl ?_
                refine v_lstore (L' := [(6, .long v4), (2, .long v8), (13, .long x6), (11, .long x4), (4, .long v4), (8, .long v8), (10, .int v10)]) F dX2_isLess_125 (by decide) rfl ?_
                refine v_lload F dX2_isLess_127 2 rfl ?_
                refine v_lstore (L' := [(4, .long x6), (6, .long v4), (2, .long v8), (13, .long x6), (11, .long x4), (8, .long v8), (10, .int v10)]) F dX2_isLess_129 (by decide) rfl ?_
                refine v_lload F dX2_isLess_131 4 rfl ?_
                refine v_lstore (L' := [(8, .long x4), (4, .long x6), (6, .long v4), (2, .long v8), (13, .long x6), (11, .long x4), (10, .int v10)]) F dX2_isLess_133 (by decide) rfl ?_
                refine v_iincN (c := 1) F dX2_isLess_135 6 rfl (by decide) (by decide) (fun x7 hx7 => ?_)
                refine v_cast (L' := [(10, .int x7), (8, .long x4), (4, .long x6), (6, .long v4), (2, .long v8), (13, .long x6), (11, .long x4)]) rfl rfl ?_
                have hw := hw x7 hx7
                refine v_goto (tgt := 26) F dX2_isLess_138 (by decide) ?_
                exact v_loc [4, 2, 3, 1, 0] rfl (ih _ _ _ _ _ _ hw)
              · rw [if_pos h] at hw
                exact v_loc [1, 0] rfl (sbX2_isLess_106 hR F  hw)
          · rw [if_neg h] at hw
            refine v_lload_n F dX2_isLess_60 rfl 0 rfl ?_
            refine v_lload F dX2_isLess_61 1 rfl ?_
            obtain ⟨hn8, hw⟩ := hw
            refine v_ldiv F dX2_isLess_63 hn8 ?_
            refine v_lload F dX2_isLess_64 2 rfl ?_
            refine v_lload F dX2_isLess_66 3 rfl ?_
            obtain ⟨hn9, hw⟩ := hw
            refine v_ldiv F dX2_isLess_68 hn9 ?_
            refine v_lcmp F dX2_isLess_69 ?_
            refine v_lif_ge (tgt := 77) F dX2_isLess_70 (by decide) (fun h => ?_) (fun h => ?_)
            · rw [if_neg h] at hw
              refine v_iconst (v := 0) F dX2_isLess_77 (by decide) ?_
              exact v_zret F (Or.inl rfl) hw dX2_isLess_78
            · rw [if_pos h] at hw
              refine v_iconst (v := 1) F dX2_isLess_73 (by decide) ?_
              refine v_goto (tgt := 78) F dX2_isLess_74 (by decide) ?_
              exact v_zret F (Or.inr rfl) hw dX2_isLess_78
set_option maxRecDepth 100000 in
theorem sX2_isLess {l : Launch} {D : Dx} {a0 : Nat} {a1 : Nat} {G : Wd} {Q : Int32 → Wd → Prop} (hw : wpX2_isLess a0 a1 G Q) : Met l yX2_isLess (wM yX2_isLess cX2_isLess 15 (some .boolean)) rmX2_isLess (PM D [.ref a0, .ref a1] G) (QMi D Q) 0 0 (Ab D) := by
  refine v_met (by decide) (Nat.le_of_ble_eq_true rfl) (fun X hl hR F => ?_)
  subst hl
  have F : Fx X D cX2_isLess 15 RX2 (some .boolean) "isLess" := F
  refine v_cast (L' := [(0, .ref a0), (1, .ref a1)]) rfl rfl ?_
  unfold wpX2_isLess at hw
  refine v_aload_n F dX2_isLess_0 rfl 0 rfl ?_
  obtain ⟨kd10, hw⟩ := hw
  refine v_get F fl_X2_21 kd10 rfl dX2_isLess_1 ?_
  refine v_topl (fun x11 hx11 => ?_)
  have hw := hw x11 hx11
  refine v_lstore_n (L' := [(2, .long x11), (0, .ref a0), (1, .ref a1)]) F dX2_isLess_4 rfl (by decide) rfl ?_
  refine v_aload_n F dX2_isLess_5 rfl 1 rfl ?_
  refine v_get F fl_X2_7 kd10 rfl dX2_isLess_6 ?_
  refine v_topl (fun x12 hx12 => ?_)
  have hw := hw x12 hx12
  refine v_lstore (L' := [(4, .long x12), (2, .long x11), (0, .ref a0), (1, .ref a1)]) F dX2_isLess_9 (by decide) rfl ?_
  refine v_aload_n F dX2_isLess_11 rfl 3 rfl ?_
  obtain ⟨kd13, hw⟩ := hw
  refine v_get F fl_X2_21 kd13 rfl dX2_isLess_12 ?_
  refine v_topl (fun x14 hx14 => ?_)
  have hw := hw x14 hx14
  refine v_lstore (L' := [(6, .long x14), (4, .long x12), (2, .long x11), (0, .ref a0), (1, .ref a1)]) F dX2_isLess_15 (by decide) rfl ?_
  refine v_aload_n F dX2_isLess_17 rfl 4 rfl ?_
  refine v_get F fl_X2_7 kd13 rfl dX2_isLess_18 ?_
  refine v_topl (fun x15 hx15 => ?_)
  have hw := hw x15 hx15
  refine v_lstore (L' := [(8, .long x15), (6, .long x14), (4, .long x12), (2, .long x11), (0, .ref a0), (1, .ref a1)]) F dX2_isLess_21 (by decide) rfl ?_
  refine v_iconst (v := 0) F dX2_isLess_23 (by decide) ?_
  refine v_istore (L' := [(10, .int 0), (8, .long x15), (6, .long x14), (4, .long x12), (2, .long x11), (0, .ref a0), (1, .ref a1)]) F dX2_isLess_24 (by decide) rfl ?_
  obtain ⟨m, hw⟩ := hw
  exact v_loc [4, 3, 2, 1, 0] rfl (sbX2_isLess_26 hR F  m _ _ _ _ _ _ hw)
set_option maxRecDepth 100000 in
theorem sX2_floor {l : Launch} {D : Dx} {a0 : Nat} {G : Wd} {Q : Int64 → Wd → Prop} (hw : wpX2_floor a0 G Q) : Met l yX2_floor (wM yX2_floor cX2_floor 1 (some .long)) rmX2_floor (PM D [.ref a0] G) (QMl D Q) 0 0 (Ab D) := by
  refine v_met (by decide) (Nat.le_of_ble_eq_true rfl) (fun X hl hR F => ?_)
  subst hl
  have F : Fx X D cX2_floor 1 RX2 (some .long) "floor" := F
  refine v_cast (L' := [(0, .ref a0)]) rfl rfl ?_
  unfold wpX2_floor at hw
  refine v_aload_n F dX2_floor_0 rfl 0 rfl ?_
  obtain ⟨kd1, hw⟩ := hw
  refine v_get F fl_X2_7 kd1 rfl dX2_floor_1 ?_
  refine v_lconst (v := 0) F dX2_floor_4 rfl ?_
  refine v_lcmp F dX2_floor_5 ?_
  refine v_lif_le (tgt := 23) F dX2_floor_6 (by decide) (fun h => ?_) (fun h => ?_)
  · rw [if_neg h] at hw
    refine v_lconst (v := 0) F dX2_floor_23 rfl ?_
    exact v_lret F hw dX2_floor_24
  · rw [if_pos h] at hw
    refine v_aload_n F dX2_floor_9 rfl 0 rfl ?_
    refine v_get F fl_X2_21 kd1 rfl dX2_floor_10 ?_
    refine v_aload_n F dX2_floor_13 rfl 0 rfl ?_
    refine v_get F fl_X2_7 kd1 rfl dX2_floor_14 ?_
    refine v_calll (r_S F ls_X2_36 (sJ9_floorDiv_f86c9 hw) (mkRm hR rfl rfl rfl rfl rfl rfl) rfl rfl (Nat.le_of_ble_eq_true rfl) dX2_floor_17) (fun r2 G3 hw => ?_)
    refine v_goto (tgt := 24) F dX2_floor_20 (by decide) ?_
    refine v_widen (c' := 0) (s' := 0) (by decide) (by decide) ?_
    exact v_lret F hw dX2_floor_24
set_option maxRecDepth 100000 in
theorem sX2_ceiling {l : Launch} {D : Dx} {a0 : Nat} {G : Wd} {Q : Int64 → Wd → Prop} (hw : wpX2_ceiling a0 G Q) : Met l yX2_ceiling (wM yX2_ceiling cX2_ceiling 1 (some .long)) rmX2_ceiling (PM D [.ref a0] G) (QMl D Q) 0 0 (Ab D) := by
  refine v_met (by decide) (Nat.le_of_ble_eq_true rfl) (fun X hl hR F => ?_)
  subst hl
  have F : Fx X D cX2_ceiling 1 RX2 (some .long) "ceiling" := F
  refine v_cast (L' := [(0, .ref a0)]) rfl rfl ?_
  unfold wpX2_ceiling at hw
  refine v_aload_n F dX2_ceiling_0 rfl 0 rfl ?_
  obtain ⟨kd1, hw⟩ := hw
  refine v_get F fl_X2_7 kd1 rfl dX2_ceiling_1 ?_
  refine v_lconst (v := 0) F dX2_ceiling_4 rfl ?_
  refine v_lcmp F dX2_ceiling_5 ?_
  refine v_lif_le (tgt := 25) F dX2_ceiling_6 (by decide) (fun h => ?_) (fun h => ?_)
  · rw [if_neg h] at hw
    refine v_lconst (v := 0) F dX2_ceiling_25 rfl ?_
    exact v_lret F hw dX2_ceiling_26
  · rw [if_pos h] at hw
    refine v_aload_n F dX2_ceiling_9 rfl 0 rfl ?_
    refine v_get F fl_X2_21 kd1 rfl dX2_ceiling_10 ?_
    refine v_lneg F dX2_ceiling_13 ?_
    refine v_aload_n F dX2_ceiling_14 rfl 0 rfl ?_
    refine v_get F fl_X2_7 kd1 rfl dX2_ceiling_15 ?_
    refine v_calll (r_S F ls_X2_36 (sJ9_floorDiv_f86c9 hw) (mkRm hR rfl rfl rfl rfl rfl rfl) rfl rfl (Nat.le_of_ble_eq_true rfl) dX2_ceiling_18) (fun r2 G3 hw => ?_)
    refine v_lneg F dX2_ceiling_21 ?_
    refine v_goto (tgt := 26) F dX2_ceiling_22 (by decide) ?_
    refine v_widen (c' := 0) (s' := 0) (by decide) (by decide) ?_
    exact v_lret F hw dX2_ceiling_26
