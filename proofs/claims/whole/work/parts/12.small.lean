set_option maxRecDepth 100000 in
def wpX3_init (a0 : Nat) (G : Wd) (Q : Wd → Prop) : Prop := Q G
abbrev rmX3_init : Room := { frames := 1, cells := 0, slots := 0, locals := 20 }
set_option maxRecDepth 100000 in
def wpX0_init (a0 : Nat) (G : Wd) (Q : Wd → Prop) : Prop := wpX3_init a0 G (fun G2 => Q G2)
abbrev rmX0_init : Room := { frames := 2, cells := 0, slots := 0, locals := 40 }
set_option maxRecDepth 100000 in
def wpX0_arrived (a0 : Nat) (a1 : Nat) (G : Wd) (Q : Wd → Prop) : Prop := gK G a0 = 1 ∧ ∀ G2 : Wd, G2 = uJ G a0 0 ((gJ G a0 0) + 1) → Q G2
abbrev rmX0_arrived : Room := { frames := 0, cells := 0, slots := 0, locals := 0 }
def wpJ7_fill_53178_5 (Q : Wd → Prop) : Nat → Nat → Int32 → Int32 → Int32 → Wd → Prop
  | 0, _, _, _, _, _ => False
  | n + 1, v0, v1, v2, v3, G => if v3 ≤ v2 then (Q G) else (gK G v0 = 20 ∧ vp_in v2 (gN G v0) ∧ ∀ G3 : Wd, G3 = uI G v0 (v2).toNatClampNeg v1 → ∀ x4 : Int32, x4 = v2 + 1 → wpJ7_fill_53178_5 Q n v0 v1 x4 v3 G3)
set_option maxRecDepth 100000 in
def wpJ7_fill_53178 (a0 : Nat) (p1 : Int32) (G : Wd) (Q : Wd → Prop) : Prop := gK G a0 = 20 ∧ ∀ x6 : Int32, x6 = nI (gN G a0) → ∃ m, wpJ7_fill_53178_5 Q m a0 p1 0 x6 G
abbrev rmJ7_fill_53178 : Room := { frames := 0, cells := 0, slots := 0, locals := 0 }
set_option maxRecDepth 100000 in
def wpX1_init (a0 : Nat) (G : Wd) (Q : Wd → Prop) : Prop := ∀ (z2 : Nat) (G1 : Wd), z2 = gZ G → G1 = nC G 20 5 → gK G1 a0 = 2 ∧ ∀ G4 : Wd, G4 = uR G1 a0 0 (some z2) → ∀ G6 : Wd, G6 = uI G4 a0 2 1 → ∃ b8, gR G6 a0 0 = some b8 ∧ wpJ7_fill_53178 b8 2 G6 (fun G11 => Q G11)
abbrev rmX1_init : Room := { frames := 1, cells := 1, slots := 5, locals := 23 }
set_option maxRecDepth 100000 in
def wpX1_begin (a0 : Nat) (p1 : Int32) (G : Wd) (Q : Wd → Prop) : Prop := gK G a0 = 2 ∧ ∀ G2 : Wd, G2 = uI G a0 2 0 → ∀ G4 : Wd, G4 = uI G2 a0 1 p1 → ∃ b6, gR G4 a0 0 = some b6 ∧ wpJ7_fill_53178 b6 2 G4 (fun G9 => Q G9)
abbrev rmX1_begin : Room := { frames := 1, cells := 0, slots := 0, locals := 23 }
set_option maxRecDepth 100000 in
def wpX1_stepAt (a0 : Nat) (p1 : Int32) (G : Wd) (Q : Int32 → Wd → Prop) : Prop := if p1 < 0 then (Q 2 G) else (if 5 ≤ p1 then (Q 2 G) else (gK G a0 = 2 ∧ ∃ b2, gR G a0 0 = some b2 ∧ gK G b2 = 20 ∧ vp_in p1 (gN G b2) ∧ wpJ9_max_7cf53 (gI G b2 (p1).toNatClampNeg) 2 G (fun r6 G7 => Q r6 G7)))
abbrev rmX1_stepAt : Room := { frames := 1, cells := 0, slots := 0, locals := 21 }
def wpX1_partOf_11 (Q : Int64 → Wd → Prop) : Nat → Nat → Int32 → Int64 → Int32 → Wd → Prop
  | 0, _, _, _, _, _ => False
  | n + 1, v0, v3, v4, v6, G => if v6 < v3 then (if v3 = 0 then (Q v4 G) else (gK G v0 = 2 ∧ wpX1_stepAt v0 (v3 - 1) G (fun r2 G3 => ¬ ((r2).toInt64) = 0 ∧ Q (v4 % ((r2).toInt64)) G3))) else (gK G v0 = 2 ∧ wpX1_stepAt v0 v6 G (fun r6 G7 => ¬ ((r6).toInt64) = 0 ∧ ∀ x9 : Int64, x9 = (v4 / ((r6).toInt64)) → ∀ x10 : Int32, x10 = v6 + (-1) → wpX1_partOf_11 Q n v0 v3 x9 x10 G7))
set_option maxRecDepth 100000 in
def wpX1_partOf (a0 : Nat) (p1 : Int64) (p3 : Int32) (G : Wd) (Q : Int64 → Wd → Prop) : Prop := gK G a0 = 2 ∧ ∀ x12 : Int32, x12 = ((gI G a0 1) - 1) → ∃ m, wpX1_partOf_11 Q m a0 p3 p1 x12 G
abbrev rmX1_partOf : Room := { frames := 2, cells := 0, slots := 0, locals := 42 }
def wpX1_putTogether_57 (Q : Int64 → Wd → Prop) (k14 : Nat → Int64 → Int64 → Int64 → Int32 → Wd → Prop) (v0 : Nat) (v3 : Int64) (v5 : Int64) (v7 : Int64) (v9 : Int32) (G : Wd) : Prop := ∀ x1 : Int32, x1 = v9 + (-1) → k14 v0 v3 v5 v7 x1 G
def wpX1_putTogether_14 (Q : Int64 → Wd → Prop) : Nat → Nat → Int64 → Int64 → Int64 → Int32 → Wd → Prop
  | 0, _, _, _, _, _, _ => False
  | n + 1, v0, v3, v5, v7, v9, G => if v9 < 0 then (Q v7 G) else (∀ x2 : Int64, x2 = (v7 + ((v3 % 1000) * v5)) → ∀ x3 : Int64, x3 = (v3 / 1000) → if v9 ≤ 0 then (wpX1_putTogether_57 Q (fun y0 y1 y2 y3 y4 y5 => wpX1_putTogether_14 Q n y0 y1 y2 y3 y4 y5) v0 x3 v5 x2 v9 G) else (gK G v0 = 2 ∧ wpX1_stepAt v0 (v9 - 1) G (fun r5 G6 => ∀ x7 : Int64, x7 = (v5 * ((r5).toInt64)) → wpX1_putTogether_57 Q (fun y0 y1 y2 y3 y4 y5 => wpX1_putTogether_14 Q n y0 y1 y2 y3 y4 y5) v0 x3 x7 x2 v9 G6)))
set_option maxRecDepth 100000 in
def wpX1_putTogether (a0 : Nat) (p1 : Int64) (G : Wd) (Q : Int64 → Wd → Prop) : Prop := gK G a0 = 2 ∧ ∀ x9 : Int32, x9 = gI G a0 1 → ∃ m, wpX1_putTogether_14 Q m a0 p1 1 0 x9 G
abbrev rmX1_putTogether : Room := { frames := 2, cells := 0, slots := 0, locals := 42 }
def wpX5_is_24 (Q : Int32 → Wd → Prop)  (G : Wd) : Prop := Q 1 G
set_option maxRecDepth 100000 in
def wpX5_is (a0 : Nat) (p1 : Int32) (G : Wd) (Q : Int32 → Wd → Prop) : Prop := if p1 = 0 then (wpX5_is_24 Q  G) else (gK G a0 = 5 ∧ if p1 = (gI G a0 1) then (wpX5_is_24 Q  G) else (vp_in (gI G a0 1) 5 ∧ if p1 = (wider (gI G a0 1).toNatClampNeg) then (wpX5_is_24 Q  G) else (Q 0 G)))
abbrev rmX5_is : Room := { frames := 0, cells := 0, slots := 0, locals := 0 }
set_option maxRecDepth 100000 in
def wpJ6_bitCount_0f7a4 (p0 : Int32) (G : Wd) (Q : Int32 → Wd → Prop) : Prop := ∀ x1 : Int32, x1 = (p0 - ((((p0).toUInt32 >>> (((1 : Int32)).toUInt32 &&& Int32.toUInt32 31)).toInt32) &&& 1431655765)) → ∀ x2 : Int32, x2 = ((x1 &&& 858993459) + ((((x1).toUInt32 >>> (((2 : Int32)).toUInt32 &&& Int32.toUInt32 31)).toInt32) &&& 858993459)) → ∀ x3 : Int32, x3 = ((x2 + (((x2).toUInt32 >>> (((4 : Int32)).toUInt32 &&& Int32.toUInt32 31)).toInt32)) &&& 252645135) → ∀ x4 : Int32, x4 = (x3 + (((x3).toUInt32 >>> (((8 : Int32)).toUInt32 &&& Int32.toUInt32 31)).toInt32)) → ∀ x5 : Int32, x5 = (x4 + (((x4).toUInt32 >>> (((16 : Int32)).toUInt32 &&& Int32.toUInt32 31)).toInt32)) → Q (x5 &&& 63) G
abbrev rmJ6_bitCount_0f7a4 : Room := { frames := 0, cells := 0, slots := 0, locals := 0 }
def wpX5_reckonEnds_86 (Q : Wd → Prop) (v0 : Nat) (v1 : Int32) (v2 : Int32) (s0 : Int32) (G : Wd) : Prop := gK G v0 = 5 ∧ ∃ b2, gR G v0 6 = some b2 ∧ gK G b2 = 3 ∧ wpX2_become b2 (((gI G v0 4).toInt64) * ((v1).toInt64)) ((((gI G v0 5).toInt64) * 1000) * ((s0).toInt64)) G (fun G6 => gK G6 v0 = 5 ∧ ∃ b8, gR G6 v0 7 = some b8 ∧ gK G6 b8 = 3 ∧ wpX2_become b8 ((((gI G6 v0 4).toInt64) * ((v2).toInt64)) * ((s0).toInt64)) (((gI G6 v0 5).toInt64) * 1000) G6 (fun G12 => Q G12))
def wpX5_reckonEnds_72 (Q : Wd → Prop) (v0 : Nat) (v1 : Int32) (s0 : Int32) (G : Wd) : Prop := gK G v0 = 5 ∧ if (gI G v0 1) = 4 then (wpX5_reckonEnds_86 Q v0 v1 s0 2 G) else (wpX5_reckonEnds_86 Q v0 v1 s0 1 G)
def wpX5_reckonEnds_58 (Q : Wd → Prop) (v0 : Nat) (v1 : Int32) (G : Wd) : Prop := gK G v0 = 5 ∧ wpX5_reckonEnds_72 Q v0 v1 (1000 + (gI G v0 12)) G
def wpX5_reckonEnds_41 (Q : Wd → Prop) (v0 : Nat) (s0 : Int32) (G : Wd) : Prop := gK G v0 = 5 ∧ wpX5_is v0 2 G (fun r16 G17 => if r16 = 0 then (gK G17 v0 = 5 ∧ wpX5_is v0 1 G17 (fun r19 G20 => if r19 = 0 then (wpX5_reckonEnds_72 Q v0 s0 1000 G20) else (wpX5_reckonEnds_58 Q v0 s0 G20))) else (wpX5_reckonEnds_58 Q v0 s0 G17))
set_option maxRecDepth 100000 in
def wpX5_reckonEnds (a0 : Nat) (G : Wd) (Q : Wd → Prop) : Prop := gK G a0 = 5 ∧ wpX5_is a0 2 G (fun r22 G23 => if r22 = 0 then (gK G23 a0 = 5 ∧ wpX5_is a0 1 G23 (fun r25 G26 => if r25 = 0 then (wpX5_reckonEnds_41 Q a0 1000 G26) else (gK G26 a0 = 5 ∧ wpX5_reckonEnds_41 Q a0 (1000 + (gI G26 a0 12)) G26))) else (gK G23 a0 = 5 ∧ wpX5_reckonEnds_41 Q a0 (1000 - (gI G23 a0 12)) G23))
abbrev rmX5_reckonEnds : Room := { frames := 3, cells := 0, slots := 0, locals := 79 }
set_option maxRecDepth 100000 in
def wpX5_init (a0 : Nat) (p1 : Int32) (p2 : Int32) (p3 : Int32) (p4 : Int32) (p5 : Int32) (G : Wd) (Q : Wd → Prop) : Prop := ∀ (z2 : Nat) (G1 : Wd), z2 = gZ G → G1 = nC G 3 0 → wpX2_init z2 G1 (fun G4 => gK G4 a0 = 5 ∧ ∀ G6 : Wd, G6 = uR G4 a0 6 (some z2) → ∀ (z8 : Nat) (G7 : Wd), z8 = gZ G6 → G7 = nC G6 3 0 → wpX2_init z8 G7 (fun G10 => gK G10 a0 = 5 ∧ ∀ G12 : Wd, G12 = uR G10 a0 7 (some z8) → ∀ G14 : Wd, G14 = uI G12 a0 10 9999 → ∀ G16 : Wd, G16 = uI G14 a0 11 1 → ∀ G18 : Wd, G18 = uI G16 a0 0 p1 → ∀ G20 : Wd, G20 = uI G18 a0 1 p2 → ∀ G22 : Wd, G22 = uI G20 a0 2 (p3 / 10) → ∀ G24 : Wd, G24 = uI G22 a0 3 (p3 % 10) → ∀ G26 : Wd, G26 = uI G24 a0 4 p4 → ∀ G28 : Wd, G28 = uI G26 a0 5 p5 → wpX5_reckonEnds a0 G28 (fun G31 => Q G31)))
abbrev rmX5_init : Room := { frames := 4, cells := 2, slots := 6, locals := 102 }
set_option maxRecDepth 100000 in
def wpX5_across (a0 : Nat) (p1 : Int32) (G : Wd) (Q : Int32 → Wd → Prop) : Prop := gK G a0 = 5 ∧ if p1 = (gI G a0 2) then (Q (gI G a0 3) G) else (if p1 = (gI G a0 3) then (Q (gI G a0 2) G) else (Q (-1) G))
abbrev rmX5_across : Room := { frames := 0, cells := 0, slots := 0, locals := 0 }
set_option maxRecDepth 100000 in
def wpX6_init (a0 : Nat) (p1 : Int32) (p2 : Int32) (p3 : Int32) (p4 : Int32) (G : Wd) (Q : Wd → Prop) : Prop := ∀ (z2 : Nat) (G1 : Wd), z2 = gZ G → G1 = nC G 3 0 → wpX2_init z2 G1 (fun G4 => gK G4 a0 = 6 ∧ ∀ G6 : Wd, G6 = uR G4 a0 3 (some z2) → ∀ (z8 : Nat) (G7 : Wd), z8 = gZ G6 → G7 = nC G6 3 0 → wpX2_init z8 G7 (fun G10 => gK G10 a0 = 6 ∧ ∀ G12 : Wd, G12 = uR G10 a0 4 (some z8) → ∀ G14 : Wd, G14 = uI G12 a0 5 p1 → ∀ G16 : Wd, G16 = uI G14 a0 0 p2 → ∀ G18 : Wd, G18 = uI G16 a0 1 p3 → ∀ G20 : Wd, G20 = uI G18 a0 2 p4 → Q G20))
abbrev rmX6_init : Room := { frames := 2, cells := 2, slots := 6, locals := 40 }
set_option maxRecDepth 100000 in
def wpX6_canBe (p0 : Int32) (p1 : Int32) (G : Wd) (Q : Int32 → Wd → Prop) : Prop := if p0 = 1 then (Q 1 G) else (if p0 = 2 then (Q 1 G) else (if p0 = 3 then (if (p1 % 10) = 0 then (Q 1 G) else (Q 0 G)) else (if (p1 % 12) = 0 then (Q 1 G) else (Q 0 G))))
abbrev rmX6_canBe : Room := { frames := 0, cells := 0, slots := 0, locals := 0 }
set_option maxRecDepth 100000 in
def wpX6_amended (p0 : Int32) (p1 : Int32) (G : Wd) (Q : Int64 → Wd → Prop) : Prop := if p0 = 1 then (Q (2 * ((p1).toInt64)) G) else (if p0 = 2 then (Q 0 G) else (if p0 = 3 then (Q ((((p1 / 10)).toInt64) * 12) G) else (Q ((((p1 / 12)).toInt64) * 10) G)))
abbrev rmX6_amended : Room := { frames := 0, cells := 0, slots := 0, locals := 0 }
set_option maxRecDepth 100000 in
def wpX7_init (a0 : Nat) (G : Wd) (Q : Wd → Prop) : Prop := wpX3_init a0 G (fun G2 => Q G2)
abbrev rmX7_init : Room := { frames := 2, cells := 0, slots := 0, locals := 40 }
def wpX7_arrived_24 (Q : Wd → Prop) (v0 : Nat) (G : Wd) : Prop := gK G v0 = 7 ∧ ∀ G2 : Wd, G2 = uI G v0 1 ((gI G v0 1) - 1) → Q G2
set_option maxRecDepth 100000 in
def wpX7_arrived (a0 : Nat) (a1 : Nat) (G : Wd) (Q : Wd → Prop) : Prop := gK G a1 = 9 ∧ gK G a0 = 7 ∧ if (gI G a1 3) = (gI G a0 0) then (if (gI G a0 1) = 0 then (∀ G5 : Wd, G5 = uI G a1 4 1 → wpX7_arrived_24 Q a0 G5) else (wpX7_arrived_24 Q a0 G)) else (Q G)
abbrev rmX7_arrived : Room := { frames := 0, cells := 0, slots := 0, locals := 0 }
set_option maxRecDepth 100000 in
def wpJ13_bitCount_95d88 (p0 : Int64) (G : Wd) (Q : Int32 → Wd → Prop) : Prop := ∀ x1 : Int64, x1 = (p0 - ((((p0).toUInt64 >>> (((1 : Int32)).toInt64.toUInt64 &&& Int64.toUInt64 63)).toInt64) &&& 6148914691236517205)) → ∀ x2 : Int64, x2 = ((x1 &&& 3689348814741910323) + ((((x1).toUInt64 >>> (((2 : Int32)).toInt64.toUInt64 &&& Int64.toUInt64 63)).toInt64) &&& 3689348814741910323)) → ∀ x3 : Int64, x3 = ((x2 + (((x2).toUInt64 >>> (((4 : Int32)).toInt64.toUInt64 &&& Int64.toUInt64 63)).toInt64)) &&& 1085102592571150095) → ∀ x4 : Int64, x4 = (x3 + (((x3).toUInt64 >>> (((8 : Int32)).toInt64.toUInt64 &&& Int64.toUInt64 63)).toInt64)) → ∀ x5 : Int64, x5 = (x4 + (((x4).toUInt64 >>> (((16 : Int32)).toInt64.toUInt64 &&& Int64.toUInt64 63)).toInt64)) → ∀ x6 : Int64, x6 = (x5 + (((x5).toUInt64 >>> (((32 : Int32)).toInt64.toUInt64 &&& Int64.toUInt64 63)).toInt64)) → Q (((x6).toInt32) &&& 127) G
abbrev rmJ13_bitCount_95d88 : Room := { frames := 0, cells := 0, slots := 0, locals := 0 }
set_option maxRecDepth 100000 in
theorem sX3_init {l : Launch} {D : Dx} {a0 : Nat} {G : Wd} {Q : Wd → Prop} (hw : wpX3_init a0 G Q) : Met l yX3_init (wM yX3_init cX3_init 1 none) rmX3_init (PM D [.ref a0] G) (QMv D Q) 0 0 (Ab D) := by
  refine v_met (by decide) (Nat.le_of_ble_eq_true rfl) (fun X hl hR F => ?_)
  subst hl
  have F : Fx X D cX3_init 1 RX3 none "<init>" := F
  refine v_cast (L' := [(0, .ref a0)]) rfl rfl ?_
  unfold wpX3_init at hw
  refine v_aload_n F dX3_init_0 rfl 0 rfl ?_
  refine v_objInit F wd_192 wd_86 wd_87 (by rw [hR]; exact Nat.le_of_ble_eq_true rfl) (by rw [hR]; exact Nat.le_of_ble_eq_true rfl) dX3_init_1 ?_
  exact v_vret F hw dX3_init_4
set_option maxRecDepth 100000 in
theorem sX0_init {l : Launch} {D : Dx} {a0 : Nat} {G : Wd} {Q : Wd → Prop} (hw : wpX0_init a0 G Q) : Met l yX0_init (wM yX0_init cX0_init 1 none) rmX0_init (PM D [.ref a0] G) (QMv D Q) 0 0 (Ab D) := by
  refine v_met (by decide) (Nat.le_of_ble_eq_true rfl) (fun X hl hR F => ?_)
  subst hl
  have F : Fx X D cX0_init 1 RX0 none "<init>" := F
  refine v_cast (L' := [(0, .ref a0)]) rfl rfl ?_
  unfold wpX0_init at hw
  refine v_aload_n F dX0_init_0 rfl 0 rfl ?_
  refine v_callv (r_N F ln_X0_1 (sX3_init hw) (mkRm hR rfl rfl rfl rfl rfl rfl) rfl rfl (Nat.le_of_ble_eq_true rfl) dX0_init_1) (fun G2 hw => ?_)
  refine v_widen (c' := 0) (s' := 0) (by decide) (by decide) ?_
  exact v_vret F hw dX0_init_4
set_option maxRecDepth 100000 in
theorem sX0_arrived {l : Launch} {D : Dx} {a0 : Nat} {a1 : Nat} {G : Wd} {Q : Wd → Prop} (hw : wpX0_arrived a0 a1 G Q) : Met l yX0_arrived (wM yX0_arrived cX0_arrived 2 none) rmX0_arrived (PM D [.ref a0, .ref a1] G) (QMv D Q) 0 0 (Ab D) := by
  refine v_met (by decide) (Nat.le_of_ble_eq_true rfl) (fun X hl hR F => ?_)
  subst hl
  have F : Fx X D cX0_arrived 2 RX0 none "arrived" := F
  refine v_cast (L' := [(0, .ref a0), (1, .ref a1)]) rfl rfl ?_
  unfold wpX0_arrived at hw
  refine v_aload_n F dX0_arrived_0 rfl 0 rfl ?_
  refine v_dup F dX0_arrived_1 rfl ?_
  obtain ⟨kd1, hw⟩ := hw
  refine v_get F fl_X0_7 kd1 rfl dX0_arrived_2 ?_
  refine v_lconst (v := 1) F dX0_arrived_5 rfl ?_
  refine v_ladd F dX0_arrived_6 ?_
  refine v_putJ F fl_X0_7 (fun h => absurd h (by decide)) rfl kd1 dX0_arrived_7 ?_
  refine v_nmG (fun G2 hG2 => ?_)
  have hw := hw G2 hG2
  exact v_vret F hw dX0_arrived_10
set_option maxRecDepth 100000 in
theorem sbJ7_fill_53178_5 {X : Cx} {D : Dx} (hR : X.2.2.2.1 = rmJ7_fill_53178) (F : Fx X D cJ7_fill_53178 4 RJ7 none "fill") {Q : Wd → Prop} : ∀ (n : Nat) (v0 : Nat) (v1 : Int32) (v2 : Int32) (v3 : Int32) (G : Wd), wpJ7_fill_53178_5 Q  n v0 v1 v2 v3 G → V X D 4 (ZM X D (QMv D Q) 0 0) G 0 0 5 [(0, .ref v0), (1, .int v1), (2, .int v2), (3, .int v3)] [] := by
  intro n
  induction n with
  | zero => intro v0 v1 v2 v3 G hw; exact hw.elim
  | succ n ih =>
    intro v0 v1 v2 v3 G hw
    simp only [wpJ7_fill_53178_5] at hw
    refine v_iload_n F dJ7_fill_53178_5 rfl 2 rfl ?_
    refine v_iload_n F dJ7_fill_53178_6 rfl 3 rfl ?_
    refine v_icmp_ge (tgt := 20) F dJ7_fill_53178_7 (by decide) (fun h => ?_) (fun h => ?_)
    · rw [if_pos h] at hw
      exact v_vret F hw dJ7_fill_53178_20
    · rw [if_neg h] at hw
      refine v_aload_n F dJ7_fill_53178_10 rfl 0 rfl ?_
      refine v_iload_n F dJ7_fill_53178_11 rfl 2 rfl ?_
      refine v_iload_n F dJ7_fill_53178_12 rfl 1 rfl ?_
      obtain ⟨kd1, hw⟩ := hw
      obtain ⟨hi2, hw⟩ := hw
      refine v_iastE F rfl kd1 hi2 dJ7_fill_53178_13 (fun G3 hG3 => ?_)
      have hw := hw G3 hG3
      refine v_iincN (c := 1) F dJ7_fill_53178_14 2 rfl (by decide) (by decide) (fun x4 hx4 => ?_)
      refine v_cast (L' := [(2, .int x4), (0, .ref v0), (1, .int v1), (3, .int v3)]) rfl rfl ?_
      have hw := hw x4 hx4
      refine v_goto (tgt := 5) F dJ7_fill_53178_17 (by decide) ?_
      exact v_loc [1, 2, 0, 3] rfl (ih _ _ _ _ _ hw)
set_option maxRecDepth 100000 in
theorem sJ7_fill_53178 {l : Launch} {D : Dx} {a0 : Nat} {p1 : Int32} {G : Wd} {Q : Wd → Prop} (hw : wpJ7_fill_53178 a0 p1 G Q) : Met l yJ7_fill_53178 (wM yJ7_fill_53178 cJ7_fill_53178 4 none) rmJ7_fill_53178 (PM D [.ref a0, .int p1] G) (QMv D Q) 0 0 (Ab D) := by
  refine v_metF (by decide +kernel) (Nat.le_of_ble_eq_true rfl) (fun X hl hR F => ?_)
  subst hl
  have F : Fx X D cJ7_fill_53178 4 RJ7 none "fill" := F
  refine v_cast (L' := [(0, .ref a0), (1, .int p1)]) rfl rfl ?_
  unfold wpJ7_fill_53178 at hw
  refine v_iconst (v := 0) F dJ7_fill_53178_0 (by decide) ?_
  refine v_istore_n (L' := [(2, .int 0), (0, .ref a0), (1, .int p1)]) F dJ7_fill_53178_1 rfl (by decide) rfl ?_
  refine v_aload_n F dJ7_fill_53178_2 rfl 1 rfl ?_
  obtain ⟨kd5, hw⟩ := hw
  refine v_alen F kd5 dJ7_fill_53178_3 ?_
  refine v_topi (fun x6 hx6 => ?_)
  have hw := hw x6 hx6
  refine v_istore_n (L' := [(3, .int x6), (2, .int 0), (0, .ref a0), (1, .int p1)]) F dJ7_fill_53178_4 rfl (by decide) rfl ?_
  obtain ⟨m, hw⟩ := hw
  exact v_loc [2, 3, 1, 0] rfl (sbJ7_fill_53178_5 hR F  m _ _ _ _ _ hw)
set_option maxRecDepth 100000 in
theorem sX1_init {l : Launch} {D : Dx} {a0 : Nat} {G : Wd} {Q : Wd → Prop} (hw : wpX1_init a0 G Q) : Met l yX1_init (wM yX1_init cX1_init 1 none) rmX1_init (PM D [.ref a0] G) (QMv D Q) 1 5 (Ab D) := by
  refine v_met (by decide) (Nat.le_of_ble_eq_true rfl) (fun X hl hR F => ?_)
  subst hl
  have F : Fx X D cX1_init 1 RX1 none "<init>" := F
  refine v_cast (L' := [(0, .ref a0)]) rfl rfl ?_
  unfold wpX1_init at hw
  refine v_aload_n F dX1_init_0 rfl 0 rfl ?_
  refine v_objInit F wd_273 wd_86 wd_87 (by rw [hR]; exact Nat.le_of_ble_eq_true rfl) (by rw [hR]; exact Nat.le_of_ble_eq_true rfl) dX1_init_1 ?_
  refine v_aload_n F dX1_init_4 rfl 0 rfl ?_
  refine v_iconst (v := 5) F dX1_init_5 (by decide) ?_
  refine v_newaI (N := 5) F wd_125 (by decide) (by decide) (by decide) (by rw [hR]; exact Nat.le_of_ble_eq_true rfl) (by rw [hR]; exact Nat.le_of_ble_eq_true rfl) dX1_init_6 ?_
  generalize hz2 : gZ G = z2
  refine v_nmG (fun G1 hG1 => ?_)
  have hw := hw z2 G1 hz2.symm hG1
  obtain ⟨kd3, hw⟩ := hw
  refine v_putR F fl_X1_9 (fun _ => rfl) ⟨rfl, rfl, fun _ => rfl⟩ kd3 dX1_init_8 ?_
  refine v_nmG (fun G4 hG4 => ?_)
  have hw := hw G4 hG4
  refine v_aload_n F dX1_init_11 rfl 0 rfl ?_
  refine v_iconst (v := 1) F dX1_init_12 (by decide) ?_
  have kd5 : gK G4 a0 = 2 := by rw [hG4]; exact kd3
  refine v_putZ F fl_X1_15 (fun h => absurd h (by decide)) rfl (Or.inr rfl) kd5 dX1_init_13 ?_
  refine v_nmG (fun G6 hG6 => ?_)
  have hw := hw G6 hG6
  refine v_aload_n F dX1_init_16 rfl 0 rfl ?_
  have kd7 : gK G6 a0 = 2 := by rw [hG6]; exact kd5
  obtain ⟨b8, hr9, hw⟩ := hw
  refine v_getS F fl_X1_9 (fun _ => rfl) kd7 hr9 dX1_init_17 ?_
  refine v_iconst (v := 2) F dX1_init_20 (by decide) ?_
  refine v_callv (r_S F ls_X1_19 (sJ7_fill_53178 hw) (mkRm hR rfl rfl rfl rfl rfl rfl) rfl rfl (Nat.le_of_ble_eq_true rfl) dX1_init_21) (fun G11 hw => ?_)
  refine v_widen (c' := 1) (s' := 5) (by decide) (by decide) ?_
  exact v_vret F hw dX1_init_24
set_option maxRecDepth 100000 in
theorem sX1_begin {l : Launch} {D : Dx} {a0 : Nat} {p1 : Int32} {G : Wd} {Q : Wd → Prop} (hw : wpX1_begin a0 p1 G Q) : Met l yX1_begin (wM yX1_begin cX1_begin 2 none) rmX1_begin (PM D [.ref a0, .int p1] G) (QMv D Q) 0 0 (Ab D) := by
  refine v_met (by decide) (Nat.le_of_ble_eq_true rfl) (fun X hl hR F => ?_)
  subst hl
  have F : Fx X D cX1_begin 2 RX1 none "begin" := F
  refine v_cast (L' := [(0, .ref a0), (1, .int p1)]) rfl rfl ?_
  unfold wpX1_begin at hw
  refine v_aload_n F dX1_begin_0 rfl 0 rfl ?_
  refine v_iconst (v := 0) F dX1_begin_1 (by decide) ?_
  obtain ⟨kd1, hw⟩ := hw
  refine v_putZ F fl_X1_15 (fun h => absurd h (by decide)) rfl (Or.inl rfl) kd1 dX1_begin_2 ?_
  refine v_nmG (fun G2 hG2 => ?_)
  have hw := hw G2 hG2
  refine v_aload_n F dX1_begin_5 rfl 0 rfl ?_
  refine v_iload_n F dX1_begin_6 rfl 1 rfl ?_
  have kd3 : gK G2 a0 = 2 := by rw [hG2]; exact kd1
  refine v_putI F fl_X1_25 (fun h => absurd h (by decide)) rfl kd3 dX1_begin_7 ?_
  refine v_nmG (fun G4 hG4 => ?_)
  have hw := hw G4 hG4
  refine v_aload_n F dX1_begin_10 rfl 0 rfl ?_
  have kd5 : gK G4 a0 = 2 := by rw [hG4]; exact kd3
  obtain ⟨b6, hr7, hw⟩ := hw
  refine v_getS F fl_X1_9 (fun _ => rfl) kd5 hr7 dX1_begin_11 ?_
  refine v_iconst (v := 2) F dX1_begin_14 (by decide) ?_
  refine v_callv (r_S F ls_X1_19 (sJ7_fill_53178 hw) (mkRm hR rfl rfl rfl rfl rfl rfl) rfl rfl (Nat.le_of_ble_eq_true rfl) dX1_begin_15) (fun G9 hw => ?_)
  refine v_widen (c' := 0) (s' := 0) (by decide) (by decide) ?_
  exact v_vret F hw dX1_begin_18
set_option maxRecDepth 100000 in
theorem sX1_stepAt {l : Launch} {D : Dx} {a0 : Nat} {p1 : Int32} {G : Wd} {Q : Int32 → Wd → Prop} (hw : wpX1_stepAt a0 p1 G Q) : Met l yX1_stepAt (wM yX1_stepAt cX1_stepAt 2 (some .int)) rmX1_stepAt (PM D [.ref a0, .int p1] G) (QMi D Q) 0 0 (Ab D) := by
  refine v_met (by decide) (Nat.le_of_ble_eq_true rfl) (fun X hl hR F => ?_)
  subst hl
  have F : Fx X D cX1_stepAt 2 RX1 (some .int) "stepAt" := F
  refine v_cast (L' := [(0, .ref a0), (1, .int p1)]) rfl rfl ?_
  unfold wpX1_stepAt at hw
  refine v_iload_n F dX1_stepAt_0 rfl 1 rfl ?_
  refine v_if_lt (tgt := 22) F dX1_stepAt_1 (by decide) (fun h => ?_) (fun h => ?_)
  · rw [if_pos h] at hw
    refine v_iconst (v := 2) F dX1_stepAt_22 (by decide) ?_
    exact v_iret F hw dX1_stepAt_23
  · rw [if_neg h] at hw
    refine v_iload_n F dX1_stepAt_4 rfl 1 rfl ?_
    refine v_iconst (v := 5) F dX1_stepAt_5 (by decide) ?_
    refine v_icmp_ge (tgt := 22) F dX1_stepAt_6 (by decide) (fun h => ?_) (fun h => ?_)
    · rw [if_pos h] at hw
      refine v_iconst (v := 2) F dX1_stepAt_22 (by decide) ?_
      exact v_iret F hw dX1_stepAt_23
    · rw [if_neg h] at hw
      refine v_aload_n F dX1_stepAt_9 rfl 0 rfl ?_
      obtain ⟨kd1, hw⟩ := hw
      obtain ⟨b2, hr3, hw⟩ := hw
      refine v_getS F fl_X1_9 (fun _ => rfl) kd1 hr3 dX1_stepAt_10 ?_
      refine v_iload_n F dX1_stepAt_13 rfl 1 rfl ?_
      obtain ⟨kd4, hw⟩ := hw
      obtain ⟨hi5, hw⟩ := hw
      refine v_ialdE F rfl kd4 hi5 dX1_stepAt_14 ?_
      refine v_iconst (v := 2) F dX1_stepAt_15 (by decide) ?_
      refine v_calli (r_S F ls_X1_35 (sJ9_max_7cf53 hw) (mkRm hR rfl rfl rfl rfl rfl rfl) rfl rfl (Nat.le_of_ble_eq_true rfl) dX1_stepAt_16) (fun r6 G7 hw => ?_)
      refine v_goto (tgt := 23) F dX1_stepAt_19 (by decide) ?_
      refine v_widen (c' := 0) (s' := 0) (by decide) (by decide) ?_
      exact v_iret F hw dX1_stepAt_23
set_option maxRecDepth 100000 in
theorem sbX1_partOf_11 {X : Cx} {D : Dx} (hR : X.2.2.2.1 = rmX1_partOf) (F : Fx X D cX1_partOf 7 RX1 (some .long) "partOf") {Q : Int64 → Wd → Prop} : ∀ (n : Nat) (v0 : Nat) (v3 : Int32) (v4 : Int64) (v6 : Int32) (G : Wd), wpX1_partOf_11 Q  n v0 v3 v4 v6 G → V X D 7 (ZM X D (QMl D Q) 0 0) G 0 0 11 [(0, .ref v0), (3, .int v3), (4, .long v4), (6, .int v6)] [] := by
  intro n
  induction n with
  | zero => intro v0 v3 v4 v6 G hw; exact hw.elim
  | succ n ih =>
    intro v0 v3 v4 v6 G hw
    simp only [wpX1_partOf_11] at hw
    refine v_iload F dX1_partOf_11 3 rfl ?_
    refine v_iload_n F dX1_partOf_13 rfl 1 rfl ?_
    refine v_icmp_lt (tgt := 35) F dX1_partOf_14 (by decide) (fun h => ?_) (fun h => ?_)
    · rw [if_pos h] at hw
      refine v_iload_n F dX1_partOf_35 rfl 1 rfl ?_
      refine v_if_ne (tgt := 44) F dX1_partOf_36 (by decide) (fun h => ?_) (fun h => ?_)
      · rw [if_neg h] at hw
        refine v_lload F dX1_partOf_44 2 rfl ?_
        refine v_aload_n F dX1_partOf_46 rfl 0 rfl ?_
        refine v_iload_n F dX1_partOf_47 rfl 1 rfl ?_
        refine v_iconst (v := 1) F dX1_partOf_48 (by decide) ?_
        refine v_isub F dX1_partOf_49 ?_
        obtain ⟨kd1, hw⟩ := hw
        refine v_calli (r_V F lk_X1_29 kd1 (sX1_stepAt hw) (mkRm hR rfl rfl rfl rfl rfl rfl) rfl rfl (Nat.le_of_ble_eq_true rfl) dX1_partOf_50) (fun r2 G3 hw => ?_)
        refine v_i2l F dX1_partOf_53 ?_
        obtain ⟨hn4, hw⟩ := hw
        refine v_lremE F dX1_partOf_54 hn4 ?_
        refine v_widen (c' := 0) (s' := 0) (by decide) (by decide) ?_
        exact v_lret F hw dX1_partOf_55
      · rw [if_pos h] at hw
        refine v_lload F dX1_partOf_39 2 rfl ?_
        refine v_goto (tgt := 55) F dX1_partOf_41 (by decide) ?_
        exact v_lret F hw dX1_partOf_55
    · rw [if_neg h] at hw
      refine v_lload F dX1_partOf_17 2 rfl ?_
      refine v_aload_n F dX1_partOf_19 rfl 0 rfl ?_
      refine v_iload F dX1_partOf_20 3 rfl ?_
      obtain ⟨kd5, hw⟩ := hw
      refine v_calli (r_V F lk_X1_29 kd5 (sX1_stepAt hw) (mkRm hR rfl rfl rfl rfl rfl rfl) rfl rfl (Nat.le_of_ble_eq_true rfl) dX1_partOf_22) (fun r6 G7 hw => ?_)
      refine v_i2l F dX1_partOf_25 ?_
      obtain ⟨hn8, hw⟩ := hw
      refine v_ldiv F dX1_partOf_26 hn8 ?_
      refine v_topl (fun x9 hx9 => ?_)
      have hw := hw x9 hx9
      refine v_lstore (L' := [(4, .long x9), (0, .ref v0), (3, .int v3), (6, .int v6)]) F dX1_partOf_27 (by decide) rfl ?_
      refine v_iincN (c := (-1)) F dX1_partOf_29 3 rfl (by decide) (by decide) (fun x10 hx10 => ?_)
      refine v_cast (L' := [(6, .int x10), (4, .long x9), (0, .ref v0), (3, .int v3)]) rfl rfl ?_
      have hw := hw x10 hx10
      refine v_goto (tgt := 11) F dX1_partOf_32 (by decide) ?_
      exact v_loc [2, 3, 1, 0] rfl (ih _ _ _ _ _ hw)
set_option maxRecDepth 100000 in
theorem sX1_partOf {l : Launch} {D : Dx} {a0 : Nat} {p1 : Int64} {p3 : Int32} {G : Wd} {Q : Int64 → Wd → Prop} (hw : wpX1_partOf a0 p1 p3 G Q) : Met l yX1_partOf (wM yX1_partOf cX1_partOf 7 (some .long)) rmX1_partOf (PM D [.ref a0, .long p1, .int p3] G) (QMl D Q) 0 0 (Ab D) := by
  refine v_met (by decide) (Nat.le_of_ble_eq_true rfl) (fun X hl hR F => ?_)
  subst hl
  have F : Fx X D cX1_partOf 7 RX1 (some .long) "partOf" := F
  refine v_cast (L' := [(0, .ref a0), (1, .long p1), (3, .int p3)]) rfl rfl ?_
  unfold wpX1_partOf at hw
  refine v_lload_n F dX1_partOf_0 rfl 1 rfl ?_
  refine v_lstore (L' := [(4, .long p1), (0, .ref a0), (1, .long p1), (3, .int p3)]) F dX1_partOf_1 (by decide) rfl ?_
  refine v_aload_n F dX1_partOf_3 rfl 1 rfl ?_
  obtain ⟨kd11, hw⟩ := hw
  refine v_get F fl_X1_25 kd11 rfl dX1_partOf_4 ?_
  refine v_iconst (v := 1) F dX1_partOf_7 (by decide) ?_
  refine v_isub F dX1_partOf_8 ?_
  refine v_topi (fun x12 hx12 => ?_)
  have hw := hw x12 hx12
  refine v_istore (L' := [(6, .int x12), (4, .long p1), (0, .ref a0), (1, .long p1), (3, .int p3)]) F dX1_partOf_9 (by decide) rfl ?_
  obtain ⟨m, hw⟩ := hw
  exact v_loc [2, 4, 1, 0] rfl (sbX1_partOf_11 hR F  m _ _ _ _ _ hw)
set_option maxRecDepth 100000 in
theorem sbX1_putTogether_57 {X : Cx} {D : Dx} (hR : X.2.2.2.1 = rmX1_putTogether) (F : Fx X D cX1_putTogether 10 RX1 (some .long) "putTogether") {Q : Int64 → Wd → Prop} {k14 : Nat → Int64 → Int64 → Int64 → Int32 → Wd → Prop} (hk14 : ∀ v0 v3 v5 v7 v9 G, k14 v0 v3 v5 v7 v9 G → V X D 10 (ZM X D (QMl D Q) 0 0) G 0 0 14 [(0, .ref v0), (3, .long v3), (5, .long v5), (7, .long v7), (9, .int v9)] []) {v0 : Nat} {v3 : Int64} {v5 : Int64} {v7 : Int64} {v9 : Int32} {G : Wd} (hw : wpX1_putTogether_57 Q k14 v0 v3 v5 v7 v9 G) : V X D 10 (ZM X D (QMl D Q) 0 0) G 0 0 57 [(0, .ref v0), (3, .long v3), (5, .long v5), (7, .long v7), (9, .int v9)] [] := by
  unfold wpX1_putTogether_57 at hw
  refine v_iincN (c := (-1)) F dX1_putTogether_57 4 rfl (by decide) (by decide) (fun x1 hx1 => ?_)
  refine v_cast (L' := [(9, .int x1), (0, .ref v0), (3, .long v3), (5, .long v5), (7, .long v7)]) rfl rfl ?_
  have hw := hw x1 hx1
  refine v_goto (tgt := 14) F dX1_putTogether_60 (by decide) ?_
  exact v_loc [1, 2, 3, 4, 0] rfl (hk14 _ _ _ _ _ _ hw)
set_option maxRecDepth 100000 in
theorem sbX1_putTogether_14 {X : Cx} {D : Dx} (hR : X.2.2.2.1 = rmX1_putTogether) (F : Fx X D cX1_putTogether 10 RX1 (some .long) "putTogether") {Q : Int64 → Wd → Prop} : ∀ (n : Nat) (v0 : Nat) (v3 : Int64) (v5 : Int64) (v7 : Int64) (v9 : Int32) (G : Wd), wpX1_putTogether_14 Q  n v0 v3 v5 v7 v9 G → V X D 10 (ZM X D (QMl D Q) 0 0) G 0 0 14 [(0, .ref v0), (3, .long v3), (5, .long v5), (7, .long v7), (9, .int v9)] [] := by
  intro n
  induction n with
  | zero => intro v0 v3 v5 v7 v9 G hw; exact hw.elim
  | succ n ih =>
    intro v0 v3 v5 v7 v9 G hw
    simp only [wpX1_putTogether_14] at hw
    refine v_iload F dX1_putTogether_14 4 rfl ?_
    refine v_if_lt (tgt := 63) F dX1_putTogether_16 (by decide) (fun h => ?_) (fun h => ?_)
    · rw [if_pos h] at hw
      refine v_lload F dX1_putTogether_63 3 rfl ?_
      exact v_lret F hw dX1_putTogether_65
    · rw [if_neg h] at hw
      refine v_lload F dX1_putTogether_19 3 rfl ?_
      refine v_lload_n F dX1_putTogether_21 rfl 1 rfl ?_
      refine v_ldc2 (v := 1000) F wd_734 dX1_putTogether_22 ?_
      refine v_lremE F dX1_putTogether_25 (by decide) ?_
      refine v_lload F dX1_putTogether_26 2 rfl ?_
      refine v_lmul F dX1_putTogether_28 ?_
      refine v_ladd F dX1_putTogether_29 ?_
      refine v_topl (fun x2 hx2 => ?_)
      have hw := hw x2 hx2
      refine v_lstore (L' := [(7, .long x2), (0, .ref v0), (3, .long v3), (5, .long v5), (9, .int v9)]) F dX1_putTogether_30 (by decide) rfl ?_
      refine v_lload_n F dX1_putTogether_32 rfl 2 rfl ?_
      refine v_ldc2 (v := 1000) F wd_734 dX1_putTogether_33 ?_
      refine v_ldiv F dX1_putTogether_36 (by decide) ?_
      refine v_topl (fun x3 hx3 => ?_)
      have hw := hw x3 hx3
      refine v_lstore_n (L' := [(3, .long x3), (7, .long x2), (0, .ref v0), (5, .long v5), (9, .int v9)]) F dX1_putTogether_37 rfl (by decide) rfl ?_
      refine v_iload F dX1_putTogether_38 4 rfl ?_
      refine v_if_le (tgt := 57) F dX1_putTogether_40 (by decide) (fun h => ?_) (fun h => ?_)
      · rw [if_pos h] at hw
        exact v_loc [2, 0, 3, 1, 4] rfl (sbX1_putTogether_57 hR F ih hw)
      · rw [if_neg h] at hw
        refine v_lload F dX1_putTogether_43 3 rfl ?_
        refine v_aload_n F dX1_putTogether_45 rfl 2 rfl ?_
        refine v_iload F dX1_putTogether_46 4 rfl ?_
        refine v_iconst (v := 1) F dX1_putTogether_48 (by decide) ?_
        refine v_isub F dX1_putTogether_49 ?_
        obtain ⟨kd4, hw⟩ := hw
        refine v_calli (r_V F lk_X1_29 kd4 (sX1_stepAt hw) (mkRm hR rfl rfl rfl rfl rfl rfl) rfl rfl (Nat.le_of_ble_eq_true rfl) dX1_putTogether_50) (fun r5 G6 hw => ?_)
        refine v_i2l F dX1_putTogether_53 ?_
        refine v_lmul F dX1_putTogether_54 ?_
        refine v_topl (fun x7 hx7 => ?_)
        have hw := hw x7 hx7
        refine v_lstore (L' := [(5, .long x7), (3, .long x3), (7, .long x2), (0, .ref v0), (9, .int v9)]) F dX1_putTogether_55 (by decide) rfl ?_
        exact v_loc [3, 1, 0, 2, 4] rfl (sbX1_putTogether_57 hR F ih hw)
set_option maxRecDepth 100000 in
theorem sX1_putTogether {l : Launch} {D : Dx} {a0 : Nat} {p1 : Int64} {G : Wd} {Q : Int64 → Wd → Prop} (hw : wpX1_putTogether a0 p1 G Q) : Met l yX1_putTogether (wM yX1_putTogether cX1_putTogether 10 (some .long)) rmX1_putTogether (PM D [.ref a0, .long p1] G) (QMl D Q) 0 0 (Ab D) := by
  refine v_met (by decide) (Nat.le_of_ble_eq_true rfl) (fun X hl hR F => ?_)
  subst hl
  have F : Fx X D cX1_putTogether 10 RX1 (some .long) "putTogether" := F
  refine v_cast (L' := [(0, .ref a0), (1, .long p1)]) rfl rfl ?_
  unfold wpX1_putTogether at hw
  refine v_lload_n F dX1_putTogether_0 rfl 1 rfl ?_
  refine v_lstore_n (L' := [(3, .long p1), (0, .ref a0), (1, .long p1)]) F dX1_putTogether_1 rfl (by decide) rfl ?_
  refine v_lconst (v := 1) F dX1_putTogether_2 rfl ?_
  refine v_lstore (L' := [(5, .long 1), (3, .long p1), (0, .ref a0), (1, .long p1)]) F dX1_putTogether_3 (by decide) rfl ?_
  refine v_lconst (v := 0) F dX1_putTogether_5 rfl ?_
  refine v_lstore (L' := [(7, .long 0), (5, .long 1), (3, .long p1), (0, .ref a0), (1, .long p1)]) F dX1_putTogether_6 (by decide) rfl ?_
  refine v_aload_n F dX1_putTogether_8 rfl 3 rfl ?_
  obtain ⟨kd8, hw⟩ := hw
  refine v_get F fl_X1_25 kd8 rfl dX1_putTogether_9 ?_
  refine v_topi (fun x9 hx9 => ?_)
  have hw := hw x9 hx9
  refine v_istore (L' := [(9, .int x9), (7, .long 0), (5, .long 1), (3, .long p1), (0, .ref a0), (1, .long p1)]) F dX1_putTogether_12 (by decide) rfl ?_
  obtain ⟨m, hw⟩ := hw
  exact v_loc [4, 3, 2, 1, 0] rfl (sbX1_putTogether_14 hR F  m _ _ _ _ _ _ hw)
set_option maxRecDepth 100000 in
theorem sbX5_is_24 {X : Cx} {D : Dx} (hR : X.2.2.2.1 = rmX5_is) (F : Fx X D cX5_is 2 RX5 (some .boolean) "is") {Q : Int32 → Wd → Prop}  {G : Wd} (hw : wpX5_is_24 Q   G) : V X D 2 (ZM X D (QMi D Q) 0 0) G 0 0 24 [] [] := by
  unfold wpX5_is_24 at hw
  refine v_iconst (v := 1) F dX5_is_24 (by decide) ?_
  refine v_goto (tgt := 29) F dX5_is_25 (by decide) ?_
  exact v_zret F (Or.inr rfl) hw dX5_is_29
set_option maxRecDepth 100000 in
theorem sX5_is {l : Launch} {D : Dx} {a0 : Nat} {p1 : Int32} {G : Wd} {Q : Int32 → Wd → Prop} (hw : wpX5_is a0 p1 G Q) : Met l yX5_is (wM yX5_is cX5_is 2 (some .boolean)) rmX5_is (PM D [.ref a0, .int p1] G) (QMi D Q) 0 0 (Ab D) := by
  refine v_met (by decide) (Nat.le_of_ble_eq_true rfl) (fun X hl hR F => ?_)
  subst hl
  have F : Fx X D cX5_is 2 RX5 (some .boolean) "is" := F
  refine v_cast (L' := [(0, .ref a0), (1, .int p1)]) rfl rfl ?_
  unfold wpX5_is at hw
  refine v_iload_n F dX5_is_0 rfl 1 rfl ?_
  refine v_if_eq (tgt := 24) F dX5_is_1 (by decide) (fun h => ?_) (fun h => ?_)
  · rw [if_pos h] at hw
    exact v_loc [] rfl (sbX5_is_24 hR F  hw)
  · rw [if_neg h] at hw
    refine v_iload_n F dX5_is_4 rfl 1 rfl ?_
    refine v_aload_n F dX5_is_5 rfl 0 rfl ?_
    obtain ⟨kd1, hw⟩ := hw
    refine v_get F fl_X5_31 kd1 rfl dX5_is_6 ?_
    refine v_icmp_eq (tgt := 24) F dX5_is_9 (by decide) (fun h => ?_) (fun h => ?_)
    · rw [if_pos h] at hw
      exact v_loc [] rfl (sbX5_is_24 hR F  hw)
    · rw [if_neg h] at hw
      refine v_iload_n F dX5_is_12 rfl 1 rfl ?_
      refine v_gets F wd_378 dX5_is_13 ?_
      refine v_aload_n F dX5_is_16 rfl 0 rfl ?_
      refine v_get F fl_X5_31 kd1 rfl dX5_is_17 ?_
      obtain ⟨hi2, hw⟩ := hw
      refine v_wald F hi2 dX5_is_20 ?_
      refine v_icmp_ne (tgt := 28) F dX5_is_21 (by decide) (fun h => ?_) (fun h => ?_)
      · rw [if_neg h] at hw
        refine v_iconst (v := 0) F dX5_is_28 (by decide) ?_
        exact v_zret F (Or.inl rfl) hw dX5_is_29
      · rw [if_pos h] at hw
        exact v_loc [] rfl (sbX5_is_24 hR F  hw)
set_option maxRecDepth 100000 in
theorem sJ6_bitCount_0f7a4 {l : Launch} {D : Dx} {p0 : Int32} {G : Wd} {Q : Int32 → Wd → Prop} (hw : wpJ6_bitCount_0f7a4 p0 G Q) : Met l yJ6_bitCount_0f7a4 (wM yJ6_bitCount_0f7a4 cJ6_bitCount_0f7a4 1 (some .int)) rmJ6_bitCount_0f7a4 (PM D [.int p0] G) (QMi D Q) 0 0 (Ab D) := by
  refine v_metF (by decide +kernel) (Nat.le_of_ble_eq_true rfl) (fun X hl hR F => ?_)
  subst hl
  have F : Fx X D cJ6_bitCount_0f7a4 1 RJ6 (some .int) "bitCount" := F
  refine v_cast (L' := [(0, .int p0)]) rfl rfl ?_
  unfold wpJ6_bitCount_0f7a4 at hw
  refine v_iload_n F dJ6_bitCount_0f7a4_0 rfl 0 rfl ?_
  refine v_iload_n F dJ6_bitCount_0f7a4_1 rfl 0 rfl ?_
  refine v_iconst (v := 1) F dJ6_bitCount_0f7a4_2 (by decide) ?_
  refine v_iushr F dJ6_bitCount_0f7a4_3 ?_
  refine v_ldcw (v := 1431655765) F wd_667 dJ6_bitCount_0f7a4_4 ?_
  refine v_iand F dJ6_bitCount_0f7a4_7 ?_
  refine v_isub F dJ6_bitCount_0f7a4_8 ?_
  refine v_topi (fun x1 hx1 => ?_)
  have hw := hw x1 hx1
  refine v_istore_n (L' := [(0, .int x1)]) F dJ6_bitCount_0f7a4_9 rfl (by decide) rfl ?_
  refine v_iload_n F dJ6_bitCount_0f7a4_10 rfl 0 rfl ?_
  refine v_ldcw (v := 858993459) F wd_668 dJ6_bitCount_0f7a4_11 ?_
  refine v_iand F dJ6_bitCount_0f7a4_14 ?_
  refine v_iload_n F dJ6_bitCount_0f7a4_15 rfl 0 rfl ?_
  refine v_iconst (v := 2) F dJ6_bitCount_0f7a4_16 (by decide) ?_
  refine v_iushr F dJ6_bitCount_0f7a4_17 ?_
  refine v_ldcw (v := 858993459) F wd_668 dJ6_bitCount_0f7a4_18 ?_
  refine v_iand F dJ6_bitCount_0f7a4_21 ?_
  refine v_iadd F dJ6_bitCount_0f7a4_22 ?_
  refine v_topi (fun x2 hx2 => ?_)
  have hw := hw x2 hx2
  refine v_istore_n (L' := [(0, .int x2)]) F dJ6_bitCount_0f7a4_23 rfl (by decide) rfl ?_
  refine v_iload_n F dJ6_bitCount_0f7a4_24 rfl 0 rfl ?_
  refine v_iload_n F dJ6_bitCount_0f7a4_25 rfl 0 rfl ?_
  refine v_iconst (v := 4) F dJ6_bitCount_0f7a4_26 (by decide) ?_
  refine v_iushr F dJ6_bitCount_0f7a4_27 ?_
  refine v_iadd F dJ6_bitCount_0f7a4_28 ?_
  refine v_ldcw (v := 252645135) F wd_669 dJ6_bitCount_0f7a4_29 ?_
  refine v_iand F dJ6_bitCount_0f7a4_32 ?_
  refine v_topi (fun x3 hx3 => ?_)
  have hw := hw x3 hx3
  refine v_istore_n (L' := [(0, .int x3)]) F dJ6_bitCount_0f7a4_33 rfl (by decide) rfl ?_
  refine v_iload_n F dJ6_bitCount_0f7a4_34 rfl 0 rfl ?_
  refine v_iload_n F dJ6_bitCount_0f7a4_35 rfl 0 rfl ?_
  refine v_bipush (v := 8) F dJ6_bitCount_0f7a4_36 (by decide) ?_
  refine v_iushr F dJ6_bitCount_0f7a4_38 ?_
  refine v_iadd F dJ6_bitCount_0f7a4_39 ?_
  refine v_topi (fun x4 hx4 => ?_)
  have hw := hw x4 hx4
  refine v_istore_n (L' := [(0, .int x4)]) F dJ6_bitCount_0f7a4_40 rfl (by decide) rfl ?_
  refine v_iload_n F dJ6_bitCount_0f7a4_41 rfl 0 rfl ?_
  refine v_iload_n F dJ6_bitCount_0f7a4_42 rfl 0 rfl ?_
  refine v_bipush (v := 16) F dJ6_bitCount_0f7a4_43 (by decide) ?_
  refine v_iushr F dJ6_bitCount_0f7a4_45 ?_
  refine v_iadd F dJ6_bitCount_0f7a4_46 ?_
  refine v_topi (fun x5 hx5 => ?_)
  have hw := hw x5 hx5
  refine v_istore_n (L' := [(0, .int x5)]) F dJ6_bitCount_0f7a4_47 rfl (by decide) rfl ?_
  refine v_iload_n F dJ6_bitCount_0f7a4_48 rfl 0 rfl ?_
  refine v_bipush (v := 63) F dJ6_bitCount_0f7a4_49 (by decide) ?_
  refine v_iand F dJ6_bitCount_0f7a4_51 ?_
  exact v_iret F hw dJ6_bitCount_0f7a4_52
set_option maxRecDepth 100000 in
theorem sbX5_reckonEnds_86 {X : Cx} {D : Dx} (hR : X.2.2.2.1 = rmX5_reckonEnds) (F : Fx X D cX5_reckonEnds 4 RX5 none "reckonEnds") {Q : Wd → Prop} {v0 : Nat} {v1 : Int32} {v2 : Int32} {s0 : Int32} {G : Wd} (hw : wpX5_reckonEnds_86 Q  v0 v1 v2 s0 G) : V X D 4 (ZM X D (QMv D Q) 0 0) G 0 0 86 [(0, .ref v0), (1, .int v1), (2, .int v2)] [.int s0] := by
  unfold wpX5_reckonEnds_86 at hw
  refine v_istore_n (L' := [(3, .int s0), (0, .ref v0), (1, .int v1), (2, .int v2)]) F dX5_reckonEnds_86 rfl (by decide) rfl ?_
  refine v_aload_n F dX5_reckonEnds_87 rfl 1 rfl ?_
  obtain ⟨kd1, hw⟩ := hw
  obtain ⟨b2, hr3, hw⟩ := hw
  refine v_getS F fl_X5_12 (fun _ => rfl) kd1 hr3 dX5_reckonEnds_88 ?_
  refine v_aload_n F dX5_reckonEnds_91 rfl 1 rfl ?_
  refine v_get F fl_X5_40 kd1 rfl dX5_reckonEnds_92 ?_
  refine v_i2l F dX5_reckonEnds_95 ?_
  refine v_iload_n F dX5_reckonEnds_96 rfl 2 rfl ?_
  refine v_i2l F dX5_reckonEnds_97 ?_
  refine v_lmul F dX5_reckonEnds_98 ?_
  refine v_aload_n F dX5_reckonEnds_99 rfl 1 rfl ?_
  refine v_get F fl_X5_43 kd1 rfl dX5_reckonEnds_100 ?_
  refine v_i2l F dX5_reckonEnds_103 ?_
  refine v_ldc2 (v := 1000) F wd_380 dX5_reckonEnds_104 ?_
  refine v_lmul F dX5_reckonEnds_107 ?_
  refine v_iload_n F dX5_reckonEnds_108 rfl 0 rfl ?_
  refine v_i2l F dX5_reckonEnds_109 ?_
  refine v_lmul F dX5_reckonEnds_110 ?_
  obtain ⟨kd4, hw⟩ := hw
  refine v_callv (r_V F lk_X5_62 kd4 (sX2_become hw) (mkRm hR rfl rfl rfl rfl rfl rfl) rfl rfl (Nat.le_of_ble_eq_true rfl) dX5_reckonEnds_111) (fun G6 hw => ?_)
  refine v_aload_n F dX5_reckonEnds_114 rfl 1 rfl ?_
  obtain ⟨kd7, hw⟩ := hw
  obtain ⟨b8, hr9, hw⟩ := hw
  refine v_getS F fl_X5_18 (fun _ => rfl) kd7 hr9 dX5_reckonEnds_115 ?_
  refine v_aload_n F dX5_reckonEnds_118 rfl 1 rfl ?_
  refine v_get F fl_X5_40 kd7 rfl dX5_reckonEnds_119 ?_
  refine v_i2l F dX5_reckonEnds_122 ?_
  refine v_iload_n F dX5_reckonEnds_123 rfl 3 rfl ?_
  refine v_i2l F dX5_reckonEnds_124 ?_
  refine v_lmul F dX5_reckonEnds_125 ?_
  refine v_iload_n F dX5_reckonEnds_126 rfl 0 rfl ?_
  refine v_i2l F dX5_reckonEnds_127 ?_
  refine v_lmul F dX5_reckonEnds_128 ?_
  refine v_aload_n F dX5_reckonEnds_129 rfl 1 rfl ?_
  refine v_get F fl_X5_43 kd7 rfl dX5_reckonEnds_130 ?_
  refine v_i2l F dX5_reckonEnds_133 ?_
  refine v_ldc2 (v := 1000) F wd_380 dX5_reckonEnds_134 ?_
  refine v_lmul F dX5_reckonEnds_137 ?_
  obtain ⟨kd10, hw⟩ := hw
  refine v_callv (r_V F lk_X5_62 kd10 (sX2_become hw) (mkRm hR rfl rfl rfl rfl rfl rfl) rfl rfl (Nat.le_of_ble_eq_true rfl) dX5_reckonEnds_138) (fun G12 hw => ?_)
  refine v_widen (c' := 0) (s' := 0) (by decide) (by decide) ?_
  exact v_vret F hw dX5_reckonEnds_141
set_option maxRecDepth 100000 in
theorem sbX5_reckonEnds_72 {X : Cx} {D : Dx} (hR : X.2.2.2.1 = rmX5_reckonEnds) (F : Fx X D cX5_reckonEnds 4 RX5 none "reckonEnds") {Q : Wd → Prop} {v0 : Nat} {v1 : Int32} {s0 : Int32} {G : Wd} (hw : wpX5_reckonEnds_72 Q  v0 v1 s0 G) : V X D 4 (ZM X D (QMv D Q) 0 0) G 0 0 72 [(0, .ref v0), (1, .int v1)] [.int s0] := by
  unfold wpX5_reckonEnds_72 at hw
  refine v_istore_n (L' := [(2, .int s0), (0, .ref v0), (1, .int v1)]) F dX5_reckonEnds_72 rfl (by decide) rfl ?_
  refine v_aload_n F dX5_reckonEnds_73 rfl 1 rfl ?_
  obtain ⟨kd13, hw⟩ := hw
  refine v_get F fl_X5_31 kd13 rfl dX5_reckonEnds_74 ?_
  refine v_iconst (v := 4) F dX5_reckonEnds_77 (by decide) ?_
  refine v_icmp_ne (tgt := 85) F dX5_reckonEnds_78 (by decide) (fun h => ?_) (fun h => ?_)
  · rw [if_neg h] at hw
    refine v_iconst (v := 1) F dX5_reckonEnds_85 (by decide) ?_
    exact v_loc [1, 2, 0] rfl (sbX5_reckonEnds_86 hR F  hw)
  · rw [if_pos h] at hw
    refine v_iconst (v := 2) F dX5_reckonEnds_81 (by decide) ?_
    refine v_goto (tgt := 86) F dX5_reckonEnds_82 (by decide) ?_
    exact v_loc [1, 2, 0] rfl (sbX5_reckonEnds_86 hR F  hw)
set_option maxRecDepth 100000 in
theorem sbX5_reckonEnds_58 {X : Cx} {D : Dx} (hR : X.2.2.2.1 = rmX5_reckonEnds) (F : Fx X D cX5_reckonEnds 4 RX5 none "reckonEnds") {Q : Wd → Prop} {v0 : Nat} {v1 : Int32} {G : Wd} (hw : wpX5_reckonEnds_58 Q  v0 v1 G) : V X D 4 (ZM X D (QMv D Q) 0 0) G 0 0 58 [(0, .ref v0), (1, .int v1)] [] := by
  unfold wpX5_reckonEnds_58 at hw
  refine v_sipush (v := 1000) F dX5_reckonEnds_58 (by decide) ?_
  refine v_aload_n F dX5_reckonEnds_61 rfl 0 rfl ?_
  obtain ⟨kd14, hw⟩ := hw
  refine v_get F fl_X5_57 kd14 rfl dX5_reckonEnds_62 ?_
  refine v_iadd F dX5_reckonEnds_65 ?_
  refine v_goto (tgt := 72) F dX5_reckonEnds_66 (by decide) ?_
  exact v_loc [0, 1] rfl (sbX5_reckonEnds_72 hR F  hw)
set_option maxRecDepth 100000 in
theorem sbX5_reckonEnds_41 {X : Cx} {D : Dx} (hR : X.2.2.2.1 = rmX5_reckonEnds) (F : Fx X D cX5_reckonEnds 4 RX5 none "reckonEnds") {Q : Wd → Prop} {v0 : Nat} {s0 : Int32} {G : Wd} (hw : wpX5_reckonEnds_41 Q  v0 s0 G) : V X D 4 (ZM X D (QMv D Q) 0 0) G 0 0 41 [(0, .ref v0)] [.int s0] := by
  unfold wpX5_reckonEnds_41 at hw
  refine v_istore_n (L' := [(1, .int s0), (0, .ref v0)]) F dX5_reckonEnds_41 rfl (by decide) rfl ?_
  refine v_aload_n F dX5_reckonEnds_42 rfl 1 rfl ?_
  refine v_iconst (v := 2) F dX5_reckonEnds_43 (by decide) ?_
  obtain ⟨kd15, hw⟩ := hw
  refine v_calli (r_V F lk_X5_53 kd15 (sX5_is hw) (mkRm hR rfl rfl rfl rfl rfl rfl) rfl rfl (Nat.le_of_ble_eq_true rfl) dX5_reckonEnds_44) (fun r16 G17 hw => ?_)
  refine v_if_ne (tgt := 58) F dX5_reckonEnds_47 (by decide) (fun h => ?_) (fun h => ?_)
  · rw [if_neg h] at hw
    exact v_loc [1, 0] rfl (sbX5_reckonEnds_58 hR F  hw)
  · rw [if_pos h] at hw
    refine v_aload_n F dX5_reckonEnds_50 rfl 1 rfl ?_
    refine v_iconst (v := 1) F dX5_reckonEnds_51 (by decide) ?_
    obtain ⟨kd18, hw⟩ := hw
    refine v_calli (r_V F lk_X5_53 kd18 (sX5_is hw) (mkRm hR rfl rfl rfl rfl rfl rfl) rfl rfl (Nat.le_of_ble_eq_true rfl) dX5_reckonEnds_52) (fun r19 G20 hw => ?_)
    refine v_if_eq (tgt := 69) F dX5_reckonEnds_55 (by decide) (fun h => ?_) (fun h => ?_)
    · rw [if_pos h] at hw
      refine v_sipush (v := 1000) F dX5_reckonEnds_69 (by decide) ?_
      exact v_loc [1, 0] rfl (sbX5_reckonEnds_72 hR F  hw)
    · rw [if_neg h] at hw
      exact v_loc [1, 0] rfl (sbX5_reckonEnds_58 hR F  hw)
set_option maxRecDepth 100000 in
theorem sX5_reckonEnds {l : Launch} {D : Dx} {a0 : Nat} {G : Wd} {Q : Wd → Prop} (hw : wpX5_reckonEnds a0 G Q) : Met l yX5_reckonEnds (wM yX5_reckonEnds cX5_reckonEnds 4 none) rmX5_reckonEnds (PM D [.ref a0] G) (QMv D Q) 0 0 (Ab D) := by
  refine v_met (by decide) (Nat.le_of_ble_eq_true rfl) (fun X hl hR F => ?_)
  subst hl
  have F : Fx X D cX5_reckonEnds 4 RX5 none "reckonEnds" := F
  refine v_cast (L' := [(0, .ref a0)]) rfl rfl ?_
  unfold wpX5_reckonEnds at hw
  refine v_aload_n F dX5_reckonEnds_0 rfl 0 rfl ?_
  refine v_iconst (v := 2) F dX5_reckonEnds_1 (by decide) ?_
  obtain ⟨kd21, hw⟩ := hw
  refine v_calli (r_V F lk_X5_53 kd21 (sX5_is hw) (mkRm hR rfl rfl rfl rfl rfl rfl) rfl rfl (Nat.le_of_ble_eq_true rfl) dX5_reckonEnds_2) (fun r22 G23 hw => ?_)
  refine v_if_eq (tgt := 19) F dX5_reckonEnds_5 (by decide) (fun h => ?_) (fun h => ?_)
  · rw [if_pos h] at hw
    refine v_aload_n F dX5_reckonEnds_19 rfl 0 rfl ?_
    refine v_iconst (v := 1) F dX5_reckonEnds_20 (by decide) ?_
    obtain ⟨kd24, hw⟩ := hw
    refine v_calli (r_V F lk_X5_53 kd24 (sX5_is hw) (mkRm hR rfl rfl rfl rfl rfl rfl) rfl rfl (Nat.le_of_ble_eq_true rfl) dX5_reckonEnds_21) (fun r25 G26 hw => ?_)
    refine v_if_eq (tgt := 38) F dX5_reckonEnds_24 (by decide) (fun h => ?_) (fun h => ?_)
    · rw [if_pos h] at hw
      refine v_sipush (v := 1000) F dX5_reckonEnds_38 (by decide) ?_
      exact v_loc [0] rfl (sbX5_reckonEnds_41 hR F  hw)
    · rw [if_neg h] at hw
      refine v_sipush (v := 1000) F dX5_reckonEnds_27 (by decide) ?_
      refine v_aload_n F dX5_reckonEnds_30 rfl 0 rfl ?_
      obtain ⟨kd27, hw⟩ := hw
      refine v_get F fl_X5_57 kd27 rfl dX5_reckonEnds_31 ?_
      refine v_iadd F dX5_reckonEnds_34 ?_
      refine v_goto (tgt := 41) F dX5_reckonEnds_35 (by decide) ?_
      exact v_loc [0] rfl (sbX5_reckonEnds_41 hR F  hw)
  · rw [if_neg h] at hw
    refine v_sipush (v := 1000) F dX5_reckonEnds_8 (by decide) ?_
    refine v_aload_n F dX5_reckonEnds_11 rfl 0 rfl ?_
    obtain ⟨kd28, hw⟩ := hw
    refine v_get F fl_X5_57 kd28 rfl dX5_reckonEnds_12 ?_
    refine v_isub F dX5_reckonEnds_15 ?_
    refine v_goto (tgt := 41) F dX5_reckonEnds_16 (by decide) ?_
    exact v_loc [0] rfl (sbX5_reckonEnds_41 hR F  hw)
set_option maxRecDepth 100000 in
theorem sX5_init {l : Launch} {D : Dx} {a0 : Nat} {p1 : Int32} {p2 : Int32} {p3 : Int32} {p4 : Int32} {p5 : Int32} {G : Wd} {Q : Wd → Prop} (hw : wpX5_init a0 p1 p2 p3 p4 p5 G Q) : Met l yX5_init (wM yX5_init cX5_init 6 none) rmX5_init (PM D [.ref a0, .int p1, .int p2, .int p3, .int p4, .int p5] G) (QMv D Q) 2 6 (Ab D) := by
  refine v_met (by decide) (Nat.le_of_ble_eq_true rfl) (fun X hl hR F => ?_)
  subst hl
  have F : Fx X D cX5_init 6 RX5 none "<init>" := F
  refine v_cast (L' := [(0, .ref a0), (1, .int p1), (2, .int p2), (3, .int p3), (4, .int p4), (5, .int p5)]) rfl rfl ?_
  unfold wpX5_init at hw
  refine v_aload_n F dX5_init_0 rfl 0 rfl ?_
  refine v_objInit F wd_367 wd_86 wd_87 (by rw [hR]; exact Nat.le_of_ble_eq_true rfl) (by rw [hR]; exact Nat.le_of_ble_eq_true rfl) dX5_init_1 ?_
  refine v_aload_n F dX5_init_4 rfl 0 rfl ?_
  refine v_new (ci := 2) F rfl rfl wd_368 wd_103 wd_65 (by rw [hR]; exact Nat.le_of_ble_eq_true rfl) (by rw [hR]; exact Nat.le_of_ble_eq_true rfl) dX5_init_5 ?_
  generalize hz2 : gZ G = z2
  refine v_nmG (fun G1 hG1 => ?_)
  have hw := hw z2 G1 hz2.symm hG1
  refine v_dup F dX5_init_8 rfl ?_
  refine v_callv (r_N F ln_X5_11 (sX2_init hw) (mkRm hR rfl rfl rfl rfl rfl rfl) rfl rfl (Nat.le_of_ble_eq_true rfl) dX5_init_9) (fun G4 hw => ?_)
  obtain ⟨kd5, hw⟩ := hw
  refine v_putR F fl_X5_12 (fun _ => rfl) ⟨rfl, rfl, fun _ => rfl⟩ kd5 dX5_init_12 ?_
  refine v_nmG (fun G6 hG6 => ?_)
  have hw := hw G6 hG6
  refine v_aload_n F dX5_init_15 rfl 0 rfl ?_
  refine v_new (ci := 2) F rfl rfl wd_368 wd_103 wd_65 (by rw [hR]; exact Nat.le_of_ble_eq_true rfl) (by rw [hR]; exact Nat.le_of_ble_eq_true rfl) dX5_init_16 ?_
  generalize hz8 : gZ G6 = z8
  refine v_nmG (fun G7 hG7 => ?_)
  have hw := hw z8 G7 hz8.symm hG7
  refine v_dup F dX5_init_19 rfl ?_
  refine v_callv (r_N F ln_X5_11 (sX2_init hw) (mkRm hR rfl rfl rfl rfl rfl rfl) rfl rfl (Nat.le_of_ble_eq_true rfl) dX5_init_20) (fun G10 hw => ?_)
  obtain ⟨kd11, hw⟩ := hw
  refine v_putR F fl_X5_18 (fun _ => rfl) ⟨rfl, rfl, fun _ => rfl⟩ kd11 dX5_init_23 ?_
  refine v_nmG (fun G12 hG12 => ?_)
  have hw := hw G12 hG12
  refine v_aload_n F dX5_init_26 rfl 0 rfl ?_
  refine v_sipush (v := 9999) F dX5_init_27 (by decide) ?_
  have kd13 : gK G12 a0 = 5 := by rw [hG12]; exact kd11
  refine v_putI F fl_X5_21 (fun h => absurd h (by decide)) rfl kd13 dX5_init_30 ?_
  refine v_nmG (fun G14 hG14 => ?_)
  have hw := hw G14 hG14
  refine v_aload_n F dX5_init_33 rfl 0 rfl ?_
  refine v_iconst (v := 1) F dX5_init_34 (by decide) ?_
  have kd15 : gK G14 a0 = 5 := by rw [hG14]; exact kd13
  refine v_putI F fl_X5_25 (fun h => absurd h (by decide)) rfl kd15 dX5_init_35 ?_
  refine v_nmG (fun G16 hG16 => ?_)
  have hw := hw G16 hG16
  refine v_aload_n F dX5_init_38 rfl 0 rfl ?_
  refine v_iload_n F dX5_init_39 rfl 1 rfl ?_
  have kd17 : gK G16 a0 = 5 := by rw [hG16]; exact kd15
  refine v_putI F fl_X5_28 (fun _ => rfl) rfl kd17 dX5_init_40 ?_
  refine v_nmG (fun G18 hG18 => ?_)
  have hw := hw G18 hG18
  refine v_aload_n F dX5_init_43 rfl 0 rfl ?_
  refine v_iload_n F dX5_init_44 rfl 2 rfl ?_
  have kd19 : gK G18 a0 = 5 := by rw [hG18]; exact kd17
  refine v_putI F fl_X5_31 (fun _ => rfl) rfl kd19 dX5_init_45 ?_
  refine v_nmG (fun G20 hG20 => ?_)
  have hw := hw G20 hG20
  refine v_aload_n F dX5_init_48 rfl 0 rfl ?_
  refine v_iload_n F dX5_init_49 rfl 3 rfl ?_
  refine v_bipush (v := 10) F dX5_init_50 (by decide) ?_
  refine v_idiv F dX5_init_52 (by decide) ?_
  have kd21 : gK G20 a0 = 5 := by rw [hG20]; exact kd19
  refine v_putI F fl_X5_34 (fun _ => rfl) rfl kd21 dX5_init_53 ?_
  refine v_nmG (fun G22 hG22 => ?_)
  have hw := hw G22 hG22
  refine v_aload_n F dX5_init_56 rfl 0 rfl ?_
  refine v_iload_n F dX5_init_57 rfl 3 rfl ?_
  refine v_bipush (v := 10) F dX5_init_58 (by decide) ?_
  refine v_iremE F dX5_init_60 (by decide) ?_
  have kd23 : gK G22 a0 = 5 := by rw [hG22]; exact kd21
  refine v_putI F fl_X5_37 (fun _ => rfl) rfl kd23 dX5_init_61 ?_
  refine v_nmG (fun G24 hG24 => ?_)
  have hw := hw G24 hG24
  refine v_aload_n F dX5_init_64 rfl 0 rfl ?_
  refine v_iload F dX5_init_65 4 rfl ?_
  have kd25 : gK G24 a0 = 5 := by rw [hG24]; exact kd23
  refine v_putI F fl_X5_40 (fun _ => rfl) rfl kd25 dX5_init_67 ?_
  refine v_nmG (fun G26 hG26 => ?_)
  have hw := hw G26 hG26
  refine v_aload_n F dX5_init_70 rfl 0 rfl ?_
  refine v_iload F dX5_init_71 5 rfl ?_
  have kd27 : gK G26 a0 = 5 := by rw [hG26]; exact kd25
  refine v_putI F fl_X5_43 (fun _ => rfl) rfl kd27 dX5_init_73 ?_
  refine v_nmG (fun G28 hG28 => ?_)
  have hw := hw G28 hG28
  refine v_aload_n F dX5_init_76 rfl 0 rfl ?_
  have kd29 : gK G28 a0 = 5 := by rw [hG28]; exact kd27
  refine v_callv (r_V F lk_X5_46 kd29 (sX5_reckonEnds hw) (mkRm hR rfl rfl rfl rfl rfl rfl) rfl rfl (Nat.le_of_ble_eq_true rfl) dX5_init_77) (fun G31 hw => ?_)
  refine v_widen (c' := 2) (s' := 6) (by decide) (by decide) ?_
  exact v_vret F hw dX5_init_80
set_option maxRecDepth 100000 in
theorem sX5_across {l : Launch} {D : Dx} {a0 : Nat} {p1 : Int32} {G : Wd} {Q : Int32 → Wd → Prop} (hw : wpX5_across a0 p1 G Q) : Met l yX5_across (wM yX5_across cX5_across 2 (some .int)) rmX5_across (PM D [.ref a0, .int p1] G) (QMi D Q) 0 0 (Ab D) := by
  refine v_met (by decide) (Nat.le_of_ble_eq_true rfl) (fun X hl hR F => ?_)
  subst hl
  have F : Fx X D cX5_across 2 RX5 (some .int) "across" := F
  refine v_cast (L' := [(0, .ref a0), (1, .int p1)]) rfl rfl ?_
  unfold wpX5_across at hw
  refine v_iload_n F dX5_across_0 rfl 1 rfl ?_
  refine v_aload_n F dX5_across_1 rfl 0 rfl ?_
  obtain ⟨kd1, hw⟩ := hw
  refine v_get F fl_X5_34 kd1 rfl dX5_across_2 ?_
  refine v_icmp_ne (tgt := 13) F dX5_across_5 (by decide) (fun h => ?_) (fun h => ?_)
  · rw [if_neg h] at hw
    refine v_iload_n F dX5_across_13 rfl 1 rfl ?_
    refine v_aload_n F dX5_across_14 rfl 0 rfl ?_
    refine v_get F fl_X5_37 kd1 rfl dX5_across_15 ?_
    refine v_icmp_ne (tgt := 28) F dX5_across_18 (by decide) (fun h => ?_) (fun h => ?_)
    · rw [if_neg h] at hw
      refine v_iconst (v := (-1)) F dX5_across_28 (by decide) ?_
      exact v_iret F hw dX5_across_29
    · rw [if_pos h] at hw
      refine v_aload_n F dX5_across_21 rfl 0 rfl ?_
      refine v_get F fl_X5_34 kd1 rfl dX5_across_22 ?_
      refine v_goto (tgt := 29) F dX5_across_25 (by decide) ?_
      exact v_iret F hw dX5_across_29
  · rw [if_pos h] at hw
    refine v_aload_n F dX5_across_8 rfl 0 rfl ?_
    refine v_get F fl_X5_37 kd1 rfl dX5_across_9 ?_
    exact v_iret F hw dX5_across_12
set_option maxRecDepth 100000 in
theorem sX6_init {l : Launch} {D : Dx} {a0 : Nat} {p1 : Int32} {p2 : Int32} {p3 : Int32} {p4 : Int32} {G : Wd} {Q : Wd → Prop} (hw : wpX6_init a0 p1 p2 p3 p4 G Q) : Met l yX6_init (wM yX6_init cX6_init 5 none) rmX6_init (PM D [.ref a0, .int p1, .int p2, .int p3, .int p4] G) (QMv D Q) 2 6 (Ab D) := by
  refine v_met (by decide) (Nat.le_of_ble_eq_true rfl) (fun X hl hR F => ?_)
  subst hl
  have F : Fx X D cX6_init 5 RX6 none "<init>" := F
  refine v_cast (L' := [(0, .ref a0), (1, .int p1), (2, .int p2), (3, .int p3), (4, .int p4)]) rfl rfl ?_
  unfold wpX6_init at hw
  refine v_aload_n F dX6_init_0 rfl 0 rfl ?_
  refine v_objInit F wd_751 wd_86 wd_87 (by rw [hR]; exact Nat.le_of_ble_eq_true rfl) (by rw [hR]; exact Nat.le_of_ble_eq_true rfl) dX6_init_1 ?_
  refine v_aload_n F dX6_init_4 rfl 0 rfl ?_
  refine v_new (ci := 2) F rfl rfl wd_752 wd_103 wd_65 (by rw [hR]; exact Nat.le_of_ble_eq_true rfl) (by rw [hR]; exact Nat.le_of_ble_eq_true rfl) dX6_init_5 ?_
  generalize hz2 : gZ G = z2
  refine v_nmG (fun G1 hG1 => ?_)
  have hw := hw z2 G1 hz2.symm hG1
  refine v_dup F dX6_init_8 rfl ?_
  refine v_callv (r_N F ln_X6_11 (sX2_init hw) (mkRm hR rfl rfl rfl rfl rfl rfl) rfl rfl (Nat.le_of_ble_eq_true rfl) dX6_init_9) (fun G4 hw => ?_)
  obtain ⟨kd5, hw⟩ := hw
  refine v_putR F fl_X6_12 (fun _ => rfl) ⟨rfl, rfl, fun _ => rfl⟩ kd5 dX6_init_12 ?_
  refine v_nmG (fun G6 hG6 => ?_)
  have hw := hw G6 hG6
  refine v_aload_n F dX6_init_15 rfl 0 rfl ?_
  refine v_new (ci := 2) F rfl rfl wd_752 wd_103 wd_65 (by rw [hR]; exact Nat.le_of_ble_eq_true rfl) (by rw [hR]; exact Nat.le_of_ble_eq_true rfl) dX6_init_16 ?_
  generalize hz8 : gZ G6 = z8
  refine v_nmG (fun G7 hG7 => ?_)
  have hw := hw z8 G7 hz8.symm hG7
  refine v_dup F dX6_init_19 rfl ?_
  refine v_callv (r_N F ln_X6_11 (sX2_init hw) (mkRm hR rfl rfl rfl rfl rfl rfl) rfl rfl (Nat.le_of_ble_eq_true rfl) dX6_init_20) (fun G10 hw => ?_)
  obtain ⟨kd11, hw⟩ := hw
  refine v_putR F fl_X6_18 (fun _ => rfl) ⟨rfl, rfl, fun _ => rfl⟩ kd11 dX6_init_23 ?_
  refine v_nmG (fun G12 hG12 => ?_)
  have hw := hw G12 hG12
  refine v_aload_n F dX6_init_26 rfl 0 rfl ?_
  refine v_iload_n F dX6_init_27 rfl 1 rfl ?_
  have kd13 : gK G12 a0 = 6 := by rw [hG12]; exact kd11
  refine v_putI F fl_X6_21 (fun h => absurd h (by decide)) rfl kd13 dX6_init_28 ?_
  refine v_nmG (fun G14 hG14 => ?_)
  have hw := hw G14 hG14
  refine v_aload_n F dX6_init_31 rfl 0 rfl ?_
  refine v_iload_n F dX6_init_32 rfl 2 rfl ?_
  have kd15 : gK G14 a0 = 6 := by rw [hG14]; exact kd13
  refine v_putI F fl_X6_25 (fun _ => rfl) rfl kd15 dX6_init_33 ?_
  refine v_nmG (fun G16 hG16 => ?_)
  have hw := hw G16 hG16
  refine v_aload_n F dX6_init_36 rfl 0 rfl ?_
  refine v_iload_n F dX6_init_37 rfl 3 rfl ?_
  have kd17 : gK G16 a0 = 6 := by rw [hG16]; exact kd15
  refine v_putI F fl_X6_28 (fun _ => rfl) rfl kd17 dX6_init_38 ?_
  refine v_nmG (fun G18 hG18 => ?_)
  have hw := hw G18 hG18
  refine v_aload_n F dX6_init_41 rfl 0 rfl ?_
  refine v_iload F dX6_init_42 4 rfl ?_
  have kd19 : gK G18 a0 = 6 := by rw [hG18]; exact kd17
  refine v_putI F fl_X6_31 (fun _ => rfl) rfl kd19 dX6_init_44 ?_
  refine v_nmG (fun G20 hG20 => ?_)
  have hw := hw G20 hG20
  refine v_widen (c' := 2) (s' := 6) (by decide) (by decide) ?_
  exact v_vret F hw dX6_init_47
set_option maxRecDepth 100000 in
theorem sX6_canBe {l : Launch} {D : Dx} {p0 : Int32} {p1 : Int32} {G : Wd} {Q : Int32 → Wd → Prop} (hw : wpX6_canBe p0 p1 G Q) : Met l yX6_canBe (wM yX6_canBe cX6_canBe 2 (some .boolean)) rmX6_canBe (PM D [.int p0, .int p1] G) (QMi D Q) 0 0 (Ab D) := by
  refine v_met (by decide) (Nat.le_of_ble_eq_true rfl) (fun X hl hR F => ?_)
  subst hl
  have F : Fx X D cX6_canBe 2 RX6 (some .boolean) "canBe" := F
  refine v_cast (L' := [(0, .int p0), (1, .int p1)]) rfl rfl ?_
  unfold wpX6_canBe at hw
  refine v_iload_n F dX6_canBe_0 rfl 0 rfl ?_
  refine v_iconst (v := 1) F dX6_canBe_1 (by decide) ?_
  refine v_icmp_eq (tgt := 10) F dX6_canBe_2 (by decide) (fun h => ?_) (fun h => ?_)
  · rw [if_pos h] at hw
    refine v_iconst (v := 1) F dX6_canBe_10 (by decide) ?_
    exact v_zret F (Or.inr rfl) hw dX6_canBe_11
  · rw [if_neg h] at hw
    refine v_iload_n F dX6_canBe_5 rfl 0 rfl ?_
    refine v_iconst (v := 2) F dX6_canBe_6 (by decide) ?_
    refine v_icmp_ne (tgt := 12) F dX6_canBe_7 (by decide) (fun h => ?_) (fun h => ?_)
    · rw [if_neg h] at hw
      refine v_iload_n F dX6_canBe_12 rfl 0 rfl ?_
      refine v_iconst (v := 3) F dX6_canBe_13 (by decide) ?_
      refine v_icmp_ne (tgt := 32) F dX6_canBe_14 (by decide) (fun h => ?_) (fun h => ?_)
      · rw [if_neg h] at hw
        refine v_iload_n F dX6_canBe_32 rfl 1 rfl ?_
        refine v_bipush (v := 12) F dX6_canBe_33 (by decide) ?_
        refine v_iremE F dX6_canBe_35 (by decide) ?_
        refine v_if_ne (tgt := 43) F dX6_canBe_36 (by decide) (fun h => ?_) (fun h => ?_)
        · rw [if_neg h] at hw
          refine v_iconst (v := 0) F dX6_canBe_43 (by decide) ?_
          exact v_zret F (Or.inl rfl) hw dX6_canBe_44
        · rw [if_pos h] at hw
          refine v_iconst (v := 1) F dX6_canBe_39 (by decide) ?_
          refine v_goto (tgt := 44) F dX6_canBe_40 (by decide) ?_
          exact v_zret F (Or.inr rfl) hw dX6_canBe_44
      · rw [if_pos h] at hw
        refine v_iload_n F dX6_canBe_17 rfl 1 rfl ?_
        refine v_bipush (v := 10) F dX6_canBe_18 (by decide) ?_
        refine v_iremE F dX6_canBe_20 (by decide) ?_
        refine v_if_ne (tgt := 28) F dX6_canBe_21 (by decide) (fun h => ?_) (fun h => ?_)
        · rw [if_neg h] at hw
          refine v_iconst (v := 0) F dX6_canBe_28 (by decide) ?_
          refine v_goto (tgt := 44) F dX6_canBe_29 (by decide) ?_
          exact v_zret F (Or.inl rfl) hw dX6_canBe_44
        · rw [if_pos h] at hw
          refine v_iconst (v := 1) F dX6_canBe_24 (by decide) ?_
          refine v_goto (tgt := 44) F dX6_canBe_25 (by decide) ?_
          exact v_zret F (Or.inr rfl) hw dX6_canBe_44
    · rw [if_pos h] at hw
      refine v_iconst (v := 1) F dX6_canBe_10 (by decide) ?_
      exact v_zret F (Or.inr rfl) hw dX6_canBe_11
set_option maxRecDepth 100000 in
theorem sX6_amended {l : Launch} {D : Dx} {p0 : Int32} {p1 : Int32} {G : Wd} {Q : Int64 → Wd → Prop} (hw : wpX6_amended p0 p1 G Q) : Met l yX6_amended (wM yX6_amended cX6_amended 2 (some .long)) rmX6_amended (PM D [.int p0, .int p1] G) (QMl D Q) 0 0 (Ab D) := by
  refine v_met (by decide) (Nat.le_of_ble_eq_true rfl) (fun X hl hR F => ?_)
  subst hl
  have F : Fx X D cX6_amended 2 RX6 (some .long) "amended" := F
  refine v_cast (L' := [(0, .int p0), (1, .int p1)]) rfl rfl ?_
  unfold wpX6_amended at hw
  refine v_iload_n F dX6_amended_0 rfl 0 rfl ?_
  refine v_iconst (v := 1) F dX6_amended_1 (by decide) ?_
  refine v_icmp_ne (tgt := 12) F dX6_amended_2 (by decide) (fun h => ?_) (fun h => ?_)
  · rw [if_neg h] at hw
    refine v_iload_n F dX6_amended_12 rfl 0 rfl ?_
    refine v_iconst (v := 2) F dX6_amended_13 (by decide) ?_
    refine v_icmp_ne (tgt := 19) F dX6_amended_14 (by decide) (fun h => ?_) (fun h => ?_)
    · rw [if_neg h] at hw
      refine v_iload_n F dX6_amended_19 rfl 0 rfl ?_
      refine v_iconst (v := 3) F dX6_amended_20 (by decide) ?_
      refine v_icmp_ne (tgt := 36) F dX6_amended_21 (by decide) (fun h => ?_) (fun h => ?_)
      · rw [if_neg h] at hw
        refine v_iload_n F dX6_amended_36 rfl 1 rfl ?_
        refine v_bipush (v := 12) F dX6_amended_37 (by decide) ?_
        refine v_idiv F dX6_amended_39 (by decide) ?_
        refine v_i2l F dX6_amended_40 ?_
        refine v_ldc2 (v := 10) F wd_848 dX6_amended_41 ?_
        refine v_lmul F dX6_amended_44 ?_
        exact v_lret F hw dX6_amended_45
      · rw [if_pos h] at hw
        refine v_iload_n F dX6_amended_24 rfl 1 rfl ?_
        refine v_bipush (v := 10) F dX6_amended_25 (by decide) ?_
        refine v_idiv F dX6_amended_27 (by decide) ?_
        refine v_i2l F dX6_amended_28 ?_
        refine v_ldc2 (v := 12) F wd_847 dX6_amended_29 ?_
        refine v_lmul F dX6_amended_32 ?_
        refine v_goto (tgt := 45) F dX6_amended_33 (by decide) ?_
        exact v_lret F hw dX6_amended_45
    · rw [if_pos h] at hw
      refine v_lconst (v := 0) F dX6_amended_17 rfl ?_
      exact v_lret F hw dX6_amended_18
  · rw [if_pos h] at hw
    refine v_ldc2 (v := 2) F wd_846 dX6_amended_5 ?_
    refine v_iload_n F dX6_amended_8 rfl 1 rfl ?_
    refine v_i2l F dX6_amended_9 ?_
    refine v_lmul F dX6_amended_10 ?_
    exact v_lret F hw dX6_amended_11
set_option maxRecDepth 100000 in
theorem sX7_init {l : Launch} {D : Dx} {a0 : Nat} {G : Wd} {Q : Wd → Prop} (hw : wpX7_init a0 G Q) : Met l yX7_init (wM yX7_init cX7_init 1 none) rmX7_init (PM D [.ref a0] G) (QMv D Q) 0 0 (Ab D) := by
  refine v_met (by decide) (Nat.le_of_ble_eq_true rfl) (fun X hl hR F => ?_)
  subst hl
  have F : Fx X D cX7_init 1 RX7 none "<init>" := F
  refine v_cast (L' := [(0, .ref a0)]) rfl rfl ?_
  unfold wpX7_init at hw
  refine v_aload_n F dX7_init_0 rfl 0 rfl ?_
  refine v_callv (r_N F ln_X7_1 (sX3_init hw) (mkRm hR rfl rfl rfl rfl rfl rfl) rfl rfl (Nat.le_of_ble_eq_true rfl) dX7_init_1) (fun G2 hw => ?_)
  refine v_widen (c' := 0) (s' := 0) (by decide) (by decide) ?_
  exact v_vret F hw dX7_init_4
set_option maxRecDepth 100000 in
theorem sbX7_arrived_24 {X : Cx} {D : Dx} (hR : X.2.2.2.1 = rmX7_arrived) (F : Fx X D cX7_arrived 2 RX7 none "arrived") {Q : Wd → Prop} {v0 : Nat} {G : Wd} (hw : wpX7_arrived_24 Q  v0 G) : V X D 2 (ZM X D (QMv D Q) 0 0) G 0 0 24 [(0, .ref v0)] [] := by
  unfold wpX7_arrived_24 at hw
  refine v_aload_n F dX7_arrived_24 rfl 0 rfl ?_
  refine v_dup F dX7_arrived_25 rfl ?_
  obtain ⟨kd1, hw⟩ := hw
  refine v_get F fl_X7_18 kd1 rfl dX7_arrived_26 ?_
  refine v_iconst (v := 1) F dX7_arrived_29 (by decide) ?_
  refine v_isub F dX7_arrived_30 ?_
  refine v_putI F fl_X7_18 (fun h => absurd h (by decide)) rfl kd1 dX7_arrived_31 ?_
  refine v_nmG (fun G2 hG2 => ?_)
  have hw := hw G2 hG2
  exact v_vret F hw dX7_arrived_34
set_option maxRecDepth 100000 in
theorem sX7_arrived {l : Launch} {D : Dx} {a0 : Nat} {a1 : Nat} {G : Wd} {Q : Wd → Prop} (hw : wpX7_arrived a0 a1 G Q) : Met l yX7_arrived (wM yX7_arrived cX7_arrived 2 none) rmX7_arrived (PM D [.ref a0, .ref a1] G) (QMv D Q) 0 0 (Ab D) := by
  refine v_met (by decide) (Nat.le_of_ble_eq_true rfl) (fun X hl hR F => ?_)
  subst hl
  have F : Fx X D cX7_arrived 2 RX7 none "arrived" := F
  refine v_cast (L' := [(0, .ref a0), (1, .ref a1)]) rfl rfl ?_
  unfold wpX7_arrived at hw
  refine v_aload_n F dX7_arrived_0 rfl 1 rfl ?_
  obtain ⟨kd3, hw⟩ := hw
  refine v_get F fl_X7_7 kd3 rfl dX7_arrived_1 ?_
  refine v_aload_n F dX7_arrived_4 rfl 0 rfl ?_
  obtain ⟨kd4, hw⟩ := hw
  refine v_get F fl_X7_13 kd4 rfl dX7_arrived_5 ?_
  refine v_icmp_eq (tgt := 12) F dX7_arrived_8 (by decide) (fun h => ?_) (fun h => ?_)
  · rw [if_pos h] at hw
    refine v_aload_n F dX7_arrived_12 rfl 0 rfl ?_
    refine v_get F fl_X7_18 kd4 rfl dX7_arrived_13 ?_
    refine v_if_ne (tgt := 24) F dX7_arrived_16 (by decide) (fun h => ?_) (fun h => ?_)
    · rw [if_neg h] at hw
      exact v_loc [0] rfl (sbX7_arrived_24 hR F  hw)
    · rw [if_pos h] at hw
      refine v_aload_n F dX7_arrived_19 rfl 1 rfl ?_
      refine v_iconst (v := 1) F dX7_arrived_20 (by decide) ?_
      refine v_putZ F fl_X7_21 (fun h => absurd h (by decide)) rfl (Or.inr rfl) kd3 dX7_arrived_21 ?_
      refine v_nmG (fun G5 hG5 => ?_)
      have hw := hw G5 hG5
      exact v_loc [0] rfl (sbX7_arrived_24 hR F  hw)
  · rw [if_neg h] at hw
    exact v_vret F hw dX7_arrived_11
set_option maxRecDepth 100000 in
theorem sJ13_bitCount_95d88 {l : Launch} {D : Dx} {p0 : Int64} {G : Wd} {Q : Int32 → Wd → Prop} (hw : wpJ13_bitCount_95d88 p0 G Q) : Met l yJ13_bitCount_95d88 (wM yJ13_bitCount_95d88 cJ13_bitCount_95d88 2 (some .int)) rmJ13_bitCount_95d88 (PM D [.long p0] G) (QMi D Q) 0 0 (Ab D) := by
  refine v_metF (by decide +kernel) (Nat.le_of_ble_eq_true rfl) (fun X hl hR F => ?_)
  subst hl
  have F : Fx X D cJ13_bitCount_95d88 2 RJ13 (some .int) "bitCount" := F
  refine v_cast (L' := [(0, .long p0)]) rfl rfl ?_
  unfold wpJ13_bitCount_95d88 at hw
  refine v_lload_n F dJ13_bitCount_95d88_0 rfl 0 rfl ?_
  refine v_lload_n F dJ13_bitCount_95d88_1 rfl 0 rfl ?_
  refine v_iconst (v := 1) F dJ13_bitCount_95d88_2 (by decide) ?_
  refine v_lushr F dJ13_bitCount_95d88_3 ?_
  refine v_ldc2 (v := 6148914691236517205) F wd_682 dJ13_bitCount_95d88_4 ?_
  refine v_land F dJ13_bitCount_95d88_7 ?_
  refine v_lsub F dJ13_bitCount_95d88_8 ?_
  refine v_topl (fun x1 hx1 => ?_)
  have hw := hw x1 hx1
  refine v_lstore_n (L' := [(0, .long x1)]) F dJ13_bitCount_95d88_9 rfl (by decide) rfl ?_
  refine v_lload_n F dJ13_bitCount_95d88_10 rfl 0 rfl ?_
  refine v_ldc2 (v := 3689348814741910323) F wd_683 dJ13_bitCount_95d88_11 ?_
  refine v_land F dJ13_bitCount_95d88_14 ?_
  refine v_lload_n F dJ13_bitCount_95d88_15 rfl 0 rfl ?_
  refine v_iconst (v := 2) F dJ13_bitCount_95d88_16 (by decide) ?_
  refine v_lushr F dJ13_bitCount_95d88_17 ?_
  refine v_ldc2 (v := 3689348814741910323) F wd_683 dJ13_bitCount_95d88_18 ?_
  refine v_land F dJ13_bitCount_95d88_21 ?_
  refine v_ladd F dJ13_bitCount_95d88_22 ?_
  refine v_topl (fun x2 hx2 => ?_)
  have hw := hw x2 hx2
  refine v_lstore_n (L' := [(0, .long x2)]) F dJ13_bitCount_95d88_23 rfl (by decide) rfl ?_
  refine v_lload_n F dJ13_bitCount_95d88_24 rfl 0 rfl ?_
  refine v_lload_n F dJ13_bitCount_95d88_25 rfl 0 rfl ?_
  refine v_iconst (v := 4) F dJ13_bitCount_95d88_26 (by decide) ?_
  refine v_lushr F dJ13_bitCount_95d88_27 ?_
  refine v_ladd F dJ13_bitCount_95d88_28 ?_
  refine v_ldc2 (v := 1085102592571150095) F wd_684 dJ13_bitCount_95d88_29 ?_
  refine v_land F dJ13_bitCount_95d88_32 ?_
  refine v_topl (fun x3 hx3 => ?_)
  have hw := hw x3 hx3
  refine v_lstore_n (L' := [(0, .long x3)]) F dJ13_bitCount_95d88_33 rfl (by decide) rfl ?_
  refine v_lload_n F dJ13_bitCount_95d88_34 rfl 0 rfl ?_
  refine v_lload_n F dJ13_bitCount_95d88_35 rfl 0 rfl ?_
  refine v_bipush (v := 8) F dJ13_bitCount_95d88_36 (by decide) ?_
  refine v_lushr F dJ13_bitCount_95d88_38 ?_
  refine v_ladd F dJ13_bitCount_95d88_39 ?_
  refine v_topl (fun x4 hx4 => ?_)
  have hw := hw x4 hx4
  refine v_lstore_n (L' := [(0, .long x4)]) F dJ13_bitCount_95d88_40 rfl (by decide) rfl ?_
  refine v_lload_n F dJ13_bitCount_95d88_41 rfl 0 rfl ?_
  refine v_lload_n F dJ13_bitCount_95d88_42 rfl 0 rfl ?_
  refine v_bipush (v := 16) F dJ13_bitCount_95d88_43 (by decide) ?_
  refine v_lushr F dJ13_bitCount_95d88_45 ?_
  refine v_ladd F dJ13_bitCount_95d88_46 ?_
  refine v_topl (fun x5 hx5 => ?_)
  have hw := hw x5 hx5
  refine v_lstore_n (L' := [(0, .long x5)]) F dJ13_bitCount_95d88_47 rfl (by decide) rfl ?_
  refine v_lload_n F dJ13_bitCount_95d88_48 rfl 0 rfl ?_
  refine v_lload_n F dJ13_bitCount_95d88_49 rfl 0 rfl ?_
  refine v_bipush (v := 32) F dJ13_bitCount_95d88_50 (by decide) ?_
  refine v_lushr F dJ13_bitCount_95d88_52 ?_
  refine v_ladd F dJ13_bitCount_95d88_53 ?_
  refine v_topl (fun x6 hx6 => ?_)
  have hw := hw x6 hx6
  refine v_lstore_n (L' := [(0, .long x6)]) F dJ13_bitCount_95d88_54 rfl (by decide) rfl ?_
  refine v_lload_n F dJ13_bitCount_95d88_55 rfl 0 rfl ?_
  refine v_l2i F dJ13_bitCount_95d88_56 ?_
  refine v_bipush (v := 127) F dJ13_bitCount_95d88_57 (by decide) ?_
  refine v_iand F dJ13_bitCount_95d88_59 ?_
  exact v_iret F hw dJ13_bitCount_95d88_60
