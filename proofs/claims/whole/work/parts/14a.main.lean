set_option maxRecDepth 100000 in
def wpX10_init (a0 : Nat) (G : Wd) (Q : Wd → Prop) : Prop := ∀ (z2 : Nat) (G1 : Wd), z2 = gZ G → G1 = nC G 20 8 → gK G1 a0 = 10 ∧ ∀ G4 : Wd, G4 = uR G1 a0 0 (some z2) → ∀ (z6 : Nat) (G5 : Wd), z6 = gZ G4 → G5 = nC G4 25 24 → gK G5 a0 = 10 ∧ ∀ G8 : Wd, G8 = uR G5 a0 1 (some z6) → ∀ (z10 : Nat) (G9 : Wd), z10 = gZ G8 → G9 = nC G8 23 4 → gK G9 a0 = 10 ∧ ∀ G12 : Wd, G12 = uR G9 a0 3 (some z10) → ∀ (z14 : Nat) (G13 : Wd), z14 = gZ G12 → G13 = nC G12 26 20 → gK G13 a0 = 10 ∧ ∀ G16 : Wd, G16 = uR G13 a0 4 (some z14) → ∀ (z18 : Nat) (G17 : Wd), z18 = gZ G16 → G17 = nC G16 9 0 → wpX9_init z18 G17 (fun G20 => gK G20 a0 = 10 ∧ ∀ G22 : Wd, G22 = uR G20 a0 6 (some z18) → ∀ (z24 : Nat) (G23 : Wd), z24 = gZ G22 → G23 = nC G22 1 0 → wpX0_init z24 G23 (fun G26 => gK G26 a0 = 10 ∧ ∀ G28 : Wd, G28 = uR G26 a0 7 (some z24) → ∀ (z30 : Nat) (G29 : Wd), z30 = gZ G28 → G29 = nC G28 7 0 → wpX7_init z30 G29 (fun G32 => gK G32 a0 = 10 ∧ ∀ G34 : Wd, G34 = uR G32 a0 8 (some z30) → ∀ (z36 : Nat) (G35 : Wd), z36 = gZ G34 → G35 = nC G34 8 0 → wpX8_init z36 G35 (fun G38 => gK G38 a0 = 10 ∧ ∀ G40 : Wd, G40 = uR G38 a0 9 (some z36) → ∀ (z42 : Nat) (G41 : Wd), z42 = gZ G40 → G41 = nC G40 4 0 → wpX4_init z42 G41 (fun G44 => gK G44 a0 = 10 ∧ ∀ G46 : Wd, G46 = uR G44 a0 10 (some z42) → ∀ (z48 : Nat) (G47 : Wd), z48 = gZ G46 → G47 = nC G46 3 0 → wpX2_init z48 G47 (fun G50 => gK G50 a0 = 10 ∧ ∀ G52 : Wd, G52 = uR G50 a0 11 (some z48) → ∀ (z54 : Nat) (G53 : Wd), z54 = gZ G52 → G53 = nC G52 3 0 → wpX2_init z54 G53 (fun G56 => gK G56 a0 = 10 ∧ ∀ G58 : Wd, G58 = uR G56 a0 12 (some z54) → ∀ (z60 : Nat) (G59 : Wd), z60 = gZ G58 → G59 = nC G58 3 0 → wpX2_init z60 G59 (fun G62 => gK G62 a0 = 10 ∧ ∀ G64 : Wd, G64 = uR G62 a0 13 (some z60) → ∃ b66, gR G64 a0 3 = some b66 ∧ ∀ (z69 : Nat) (G68 : Wd), z69 = gZ G64 → G68 = nC G64 2 0 → wpX1_init z69 G68 (fun G71 => gK G71 b66 = 23 ∧ gK G71 z69 = 2 ∧ vp_in 0 (gN G71 b66) ∧ ∀ G74 : Wd, G74 = uR G71 b66 0 (some z69) → gK G74 a0 = 10 ∧ ∃ b77, gR G74 a0 3 = some b77 ∧ ∀ (z80 : Nat) (G79 : Wd), z80 = gZ G74 → G79 = nC G74 2 0 → wpX1_init z80 G79 (fun G82 => gK G82 b77 = 23 ∧ gK G82 z80 = 2 ∧ vp_in 1 (gN G82 b77) ∧ ∀ G85 : Wd, G85 = uR G82 b77 1 (some z80) → gK G85 a0 = 10 ∧ ∃ b88, gR G85 a0 3 = some b88 ∧ ∀ (z91 : Nat) (G90 : Wd), z91 = gZ G85 → G90 = nC G85 2 0 → wpX1_init z91 G90 (fun G93 => gK G93 b88 = 23 ∧ gK G93 z91 = 2 ∧ vp_in 2 (gN G93 b88) ∧ ∀ G96 : Wd, G96 = uR G93 b88 2 (some z91) → gK G96 a0 = 10 ∧ ∃ b99, gR G96 a0 3 = some b99 ∧ ∀ (z102 : Nat) (G101 : Wd), z102 = gZ G96 → G101 = nC G96 2 0 → wpX1_init z102 G101 (fun G104 => gK G104 b99 = 23 ∧ gK G104 z102 = 2 ∧ vp_in 3 (gN G104 b99) ∧ ∀ G107 : Wd, G107 = uR G104 b99 3 (some z102) → Q G107))))))))))))
abbrev rmX10_init : Room := { frames := 4, cells := 53, slots := 1327, locals := 100 }
set_option maxRecDepth 100000 in
def wpX10_lies (a0 : Nat) (p1 : Int32) (p2 : Int32) (G : Wd) (Q : Int64 → Wd → Prop) : Prop := if p1 < 1 then (Q (-9000000000000000001) G) else (if 8 ≤ p1 then (Q (-9000000000000000001) G) else (if p2 < 0 then (Q (-9000000000000000001) G) else (if p2 < p1 then (gK G a0 = 10 ∧ ∃ b2, gR G a0 0 = some b2 ∧ gK G b2 = 20 ∧ vp_in p1 (gN G b2) ∧ ∀ x6 : Int32, x6 = gI G b2 (p1).toNatClampNeg → ∃ b7, gR G a0 0 = some b7 ∧ gK G b7 = 20 ∧ vp_in p1 (gN G b7) ∧ ∀ G11 : Wd, G11 = uI G b7 (p1).toNatClampNeg p2 → Q ((x6).toInt64) G11) else (Q (-9000000000000000001) G))))
abbrev rmX10_lies : Room := { frames := 0, cells := 0, slots := 0, locals := 0 }
set_option maxRecDepth 100000 in
def wpX10_isPlace (p0 : Int32) (G : Wd) (Q : Int32 → Wd → Prop) : Prop := if p0 < 0 then (Q 0 G) else (if 8 ≤ p0 then (Q 0 G) else (Q 1 G))
abbrev rmX10_isPlace : Room := { frames := 0, cells := 0, slots := 0, locals := 0 }
def wpX10_isWithin_30 (Q : Int32 → Wd → Prop) (v2 : Int32) (v3 : Int32) (G : Wd) : Prop := if v3 = v2 then (Q 1 G) else (Q 0 G)
def wpX10_isWithin_5 (Q : Int32 → Wd → Prop) : Nat → Nat → Int32 → Int32 → Int32 → Wd → Prop
  | 0, _, _, _, _, _ => False
  | n + 1, v0, v2, v3, v4, G => if 8 ≤ v4 then (wpX10_isWithin_30 Q v2 v3 G) else (if v3 ≤ v2 then (wpX10_isWithin_30 Q v2 v3 G) else (gK G v0 = 10 ∧ ∃ b2, gR G v0 0 = some b2 ∧ gK G b2 = 20 ∧ vp_in v3 (gN G b2) ∧ ∀ x6 : Int32, x6 = gI G b2 (v3).toNatClampNeg → ∀ x7 : Int32, x7 = v4 + 1 → wpX10_isWithin_5 Q n v0 v2 x6 x7 G))
set_option maxRecDepth 100000 in
def wpX10_isWithin (a0 : Nat) (p1 : Int32) (p2 : Int32) (G : Wd) (Q : Int32 → Wd → Prop) : Prop := ∃ m, wpX10_isWithin_5 Q m a0 p2 p1 0 G
abbrev rmX10_isWithin : Room := { frames := 0, cells := 0, slots := 0, locals := 0 }
set_option maxRecDepth 100000 in
def wpX10_within (a0 : Nat) (p1 : Int32) (p2 : Int32) (G : Wd) (Q : Int64 → Wd → Prop) : Prop := wpX10_isPlace p1 G (fun r1 G2 => if r1 = 0 then (Q (-9000000000000000001) G2) else (wpX10_isPlace p2 G2 (fun r3 G4 => if r3 = 0 then (Q (-9000000000000000001) G4) else (gK G4 a0 = 10 ∧ wpX10_isWithin a0 p1 p2 G4 (fun r6 G7 => if r6 = 0 then (Q 0 G7) else (Q 1 G7))))))
abbrev rmX10_within : Room := { frames := 1, cells := 0, slots := 0, locals := 24 }
set_option maxRecDepth 100000 in
def wpX10_isKind (p0 : Int32) (G : Wd) (Q : Int32 → Wd → Prop) : Prop := if p0 < 0 then (Q 0 G) else (if 5 ≤ p0 then (Q 0 G) else (Q 1 G))
abbrev rmX10_isKind : Room := { frames := 0, cells := 0, slots := 0, locals := 0 }
set_option maxRecDepth 100000 in
def wpX10_isPair (p0 : Int32) (G : Wd) (Q : Int32 → Wd → Prop) : Prop := if p0 < 0 then (Q 0 G) else (if 100 ≤ p0 then (Q 0 G) else (Q 1 G))
abbrev rmX10_isPair : Room := { frames := 0, cells := 0, slots := 0, locals := 0 }
set_option maxRecDepth 100000 in
def wpX10_isTerm (p0 : Int32) (G : Wd) (Q : Int32 → Wd → Prop) : Prop := if p0 < 1 then (Q 0 G) else (if 1000 < p0 then (Q 0 G) else (Q 1 G))
abbrev rmX10_isTerm : Room := { frames := 0, cells := 0, slots := 0, locals := 0 }
set_option maxRecDepth 100000 in
def wpX10_likeness (a0 : Nat) (p1 : Int32) (p2 : Int32) (p3 : Int32) (p4 : Int32) (G : Wd) (Q : Int64 → Wd → Prop) : Prop := wpX10_isKind p1 G (fun r1 G2 => if r1 = 0 then (Q (-9000000000000000001) G2) else (wpX10_isPair p2 G2 (fun r3 G4 => if r3 = 0 then (Q (-9000000000000000001) G4) else (wpX10_isTerm p3 G4 (fun r5 G6 => if r5 = 0 then (Q (-9000000000000000001) G6) else (wpX10_isTerm p4 G6 (fun r7 G8 => if r7 = 0 then (Q (-9000000000000000001) G8) else (gK G8 a0 = 10 ∧ if (gI G8 a0 2) < 24 then (∃ b10, gR G8 a0 1 = some b10 ∧ ∀ (z13 : Nat) (G12 : Wd), z13 = gZ G8 → G12 = nC G8 5 0 → gK G12 a0 = 10 ∧ wpX5_init z13 (gI G12 a0 2) p1 p2 p3 p4 G12 (fun G16 => gK G16 b10 = 25 ∧ gK G16 z13 = 5 ∧ vp_in (gI G8 a0 2) (gN G16 b10) ∧ ∀ G19 : Wd, G19 = uR G16 b10 (gI G8 a0 2).toNatClampNeg (some z13) → gK G19 a0 = 10 ∧ ∀ G22 : Wd, G22 = uI G19 a0 2 ((gI G19 a0 2) + 1) → Q ((gI G19 a0 2).toInt64) G22)) else (Q (-9000000000000000003) G8)))))))))
abbrev rmX10_likeness : Room := { frames := 5, cells := 3, slots := 20, locals := 127 }
set_option maxRecDepth 100000 in
def wpX10_find (a0 : Nat) (p1 : Int32) (G : Wd) (Q : Option Nat → Wd → Prop) : Prop := if p1 < 0 then (Q none G) else (gK G a0 = 10 ∧ if (gI G a0 2) ≤ p1 then (Q none G) else (∃ b2, gR G a0 1 = some b2 ∧ gK G b2 = 25 ∧ vp_in p1 (gN G b2) ∧ ∀ r6 : Option Nat, r6 = gR G b2 (p1).toNatClampNeg → Q r6 G))
abbrev rmX10_find : Room := { frames := 0, cells := 0, slots := 0, locals := 0 }
set_option maxRecDepth 100000 in
def wpX10_isDay (p0 : Int32) (G : Wd) (Q : Int32 → Wd → Prop) : Prop := if p0 < 0 then (Q 0 G) else (if 10000 ≤ p0 then (Q 0 G) else (Q 1 G))
abbrev rmX10_isDay : Room := { frames := 0, cells := 0, slots := 0, locals := 0 }
set_option maxRecDepth 100000 in
def wpX10_holds (a0 : Nat) (p1 : Int32) (p2 : Int32) (p3 : Int32) (p4 : Int32) (G : Wd) (Q : Int64 → Wd → Prop) : Prop := gK G a0 = 10 ∧ wpX10_find a0 p1 G (fun r2 G3 => (match r2 with | none => (Q (-9000000000000000001) G3) | some b4 => (wpX10_isPlace p2 G3 (fun r5 G6 => if r5 = 0 then (Q (-9000000000000000001) G6) else (wpX10_isDay p3 G6 (fun r7 G8 => if r7 = 0 then (Q (-9000000000000000001) G8) else (wpX10_isDay p4 G8 (fun r9 G10 => if r9 = 0 then (Q (-9000000000000000001) G10) else (if p3 ≤ p4 then (gK G10 b4 = 5 ∧ ∀ G12 : Wd, G12 = uI G10 b4 8 p2 → ∀ G14 : Wd, G14 = uI G12 b4 9 p3 → ∀ G16 : Wd, G16 = uI G14 b4 10 p4 → Q 0 G16) else (Q (-9000000000000000001) G10))))))))))
abbrev rmX10_holds : Room := { frames := 1, cells := 0, slots := 0, locals := 21 }
set_option maxRecDepth 100000 in
def wpX10_doubt (a0 : Nat) (p1 : Int32) (p2 : Int32) (p3 : Int32) (G : Wd) (Q : Int64 → Wd → Prop) : Prop := gK G a0 = 10 ∧ wpX10_find a0 p1 G (fun r2 G3 => (match r2 with | none => (Q (-9000000000000000001) G3) | some b4 => (if p2 < 0 then (Q (-9000000000000000001) G3) else (if 100 < p2 then (Q (-9000000000000000001) G3) else (if p3 < 0 then (Q (-9000000000000000001) G3) else (if p3 ≤ 500 then (gK G3 b4 = 5 ∧ ∀ G6 : Wd, G6 = uI G3 b4 11 p2 → ∀ G8 : Wd, G8 = uI G6 b4 12 p3 → wpX5_reckonEnds b4 G8 (fun G11 => Q 0 G11)) else (Q (-9000000000000000001) G3)))))))
abbrev rmX10_doubt : Room := { frames := 4, cells := 0, slots := 0, locals := 102 }
def wpX10_drop_60 (Q : Int64 → Wd → Prop) (v4 : Int64) (s0 : Nat) (s1 : Int32) (G : Wd) : Prop := gK G s0 = 5 ∧ isB s1 ∧ ∀ G2 : Wd, G2 = uI G s0 13 s1 → Q v4 G2
def wpX10_drop_47 (Q : Int64 → Wd → Prop) (v2 : Int32) (v3 : Nat) (s0 : Int64) (G : Wd) : Prop := if v2 = 1 then (wpX10_drop_60 Q s0 v3 1 G) else (wpX10_drop_60 Q s0 v3 0 G)
set_option maxRecDepth 100000 in
def wpX10_drop (a0 : Nat) (p1 : Int32) (p2 : Int32) (G : Wd) (Q : Int64 → Wd → Prop) : Prop := gK G a0 = 10 ∧ wpX10_find a0 p1 G (fun r5 G6 => (match r5 with | none => (Q (-9000000000000000001) G6) | some b7 => (if p2 < 0 then (Q (-9000000000000000001) G6) else (if p2 ≤ 1 then (gK G6 b7 = 5 ∧ wpX5_is b7 2 G6 (fun r9 G10 => if r9 = 0 then (Q (-9000000000000000002) G10) else (gK G10 b7 = 5 ∧ if (gI G10 b7 13) = 0 then (wpX10_drop_47 Q p2 b7 0 G10) else (wpX10_drop_47 Q p2 b7 1 G10)))) else (Q (-9000000000000000001) G6)))))
abbrev rmX10_drop : Room := { frames := 1, cells := 0, slots := 0, locals := 21 }
set_option maxRecDepth 100000 in
def wpX10_forget (a0 : Nat) (G : Wd) (Q : Int64 → Wd → Prop) : Prop := gK G a0 = 10 ∧ if (gI G a0 2) = 0 then (Q (-9000000000000000002) G) else (∀ G2 : Wd, G2 = uI G a0 2 ((gI G a0 2) - 1) → ∃ b4, gR G2 a0 1 = some b4 ∧ gK G2 b4 = 25 ∧ vp_in (gI G2 a0 2) (gN G2 b4) ∧ ∀ G8 : Wd, G8 = uR G2 b4 (gI G2 a0 2).toNatClampNeg none → Q ((gI G8 a0 2).toInt64) G8)
abbrev rmX10_forget : Room := { frames := 0, cells := 0, slots := 0, locals := 0 }
set_option maxRecDepth 100000 in
def wpX10_told (a0 : Nat) (p1 : Int32) (p2 : Int32) (G : Wd) (Q : Int64 → Wd → Prop) : Prop := gK G a0 = 10 ∧ wpX10_find a0 p1 G (fun r2 G3 => (match r2 with | none => (Q (-9000000000000000001) G3) | some b4 => (if p2 = 0 then (gK G3 b4 = 5 ∧ Q ((gI G3 b4 1).toInt64) G3) else (if p2 = 1 then (gK G3 b4 = 5 ∧ Q ((gI G3 b4 2).toInt64) G3) else (if p2 = 2 then (gK G3 b4 = 5 ∧ Q ((gI G3 b4 3).toInt64) G3) else (if p2 = 3 then (gK G3 b4 = 5 ∧ Q ((gI G3 b4 4).toInt64) G3) else (if p2 = 4 then (gK G3 b4 = 5 ∧ Q ((gI G3 b4 5).toInt64) G3) else (if p2 = 5 then (gK G3 b4 = 5 ∧ Q ((gI G3 b4 8).toInt64) G3) else (if p2 = 6 then (gK G3 b4 = 5 ∧ Q ((gI G3 b4 9).toInt64) G3) else (if p2 = 7 then (gK G3 b4 = 5 ∧ Q ((gI G3 b4 10).toInt64) G3) else (if p2 = 8 then (gK G3 b4 = 5 ∧ Q ((gI G3 b4 11).toInt64) G3) else (if p2 = 9 then (gK G3 b4 = 5 ∧ Q ((gI G3 b4 12).toInt64) G3) else (if p2 = 10 then (gK G3 b4 = 5 ∧ if (gI G3 b4 13) = 0 then (Q 0 G3) else (Q 1 G3)) else (Q (-9000000000000000001) G3))))))))))))))
abbrev rmX10_told : Room := { frames := 1, cells := 0, slots := 0, locals := 21 }
set_option maxRecDepth 100000 in
def wpX10_isOf (a0 : Nat) (p1 : Int32) (p2 : Int32) (G : Wd) (Q : Int64 → Wd → Prop) : Prop := gK G a0 = 10 ∧ wpX10_find a0 p1 G (fun r2 G3 => (match r2 with | none => (Q (-9000000000000000001) G3) | some b4 => (wpX10_isKind p2 G3 (fun r5 G6 => if r5 = 0 then (Q (-9000000000000000001) G6) else (gK G6 b4 = 5 ∧ wpX5_is b4 p2 G6 (fun r8 G9 => if r8 = 0 then (Q 0 G9) else (Q 1 G9)))))))
abbrev rmX10_isOf : Room := { frames := 1, cells := 0, slots := 0, locals := 21 }
def wpX10_isEither_9 (Q : Int32 → Wd → Prop)  (G : Wd) : Prop := Q 1 G
set_option maxRecDepth 100000 in
def wpX10_isEither (p0 : Int32) (G : Wd) (Q : Int32 → Wd → Prop) : Prop := if p0 = 0 then (wpX10_isEither_9 Q  G) else (if p0 = 1 then (wpX10_isEither_9 Q  G) else (Q 0 G))
abbrev rmX10_isEither : Room := { frames := 0, cells := 0, slots := 0, locals := 0 }
def wpX10_endOf_27 (Q : Int64 → Wd → Prop) (v3 : Int32) (s0 : Nat) (G : Wd) : Prop := if v3 = 0 then (gK G s0 = 3 ∧ Q (gJ G s0 0) G) else (gK G s0 = 3 ∧ Q (gJ G s0 1) G)
set_option maxRecDepth 100000 in
def wpX10_endOf (a0 : Nat) (a1 : Nat) (p2 : Int32) (p3 : Int32) (G : Wd) (Q : Int64 → Wd → Prop) : Prop := gK G a0 = 3 ∧ if (gI G a0 2) = 0 then (gK G a1 = 3 ∧ if (gI G a1 2) = 0 then (if p2 = 0 then (wpX10_endOf_27 Q p3 a0 G) else (wpX10_endOf_27 Q p3 a1 G)) else (Q (-9000000000000000004) G)) else (Q (-9000000000000000004) G)
abbrev rmX10_endOf : Room := { frames := 0, cells := 0, slots := 0, locals := 0 }
set_option maxRecDepth 100000 in
def wpX10_end (a0 : Nat) (p1 : Int32) (p2 : Int32) (p3 : Int32) (G : Wd) (Q : Int64 → Wd → Prop) : Prop := gK G a0 = 10 ∧ wpX10_find a0 p1 G (fun r2 G3 => (match r2 with | none => (Q (-9000000000000000001) G3) | some b4 => (wpX10_isEither p2 G3 (fun r5 G6 => if r5 = 0 then (Q (-9000000000000000001) G6) else (wpX10_isEither p3 G6 (fun r7 G8 => if r7 = 0 then (Q (-9000000000000000001) G8) else (gK G8 b4 = 5 ∧ ∃ b10, gR G8 b4 6 = some b10 ∧ ∃ b12, gR G8 b4 7 = some b12 ∧ wpX10_endOf b10 b12 p2 p3 G8 (fun r14 G15 => Q r14 G15))))))))
abbrev rmX10_end : Room := { frames := 1, cells := 0, slots := 0, locals := 24 }
set_option maxRecDepth 100000 in
def wpX10_countsAt (a0 : Nat) (a1 : Nat) (p2 : Int32) (p3 : Int32) (G : Wd) (Q : Int32 → Wd → Prop) : Prop := gK G a1 = 5 ∧ if (gI G a1 13) = 0 then (if p3 < (gI G a1 9) then (Q 0 G) else (if p3 ≤ (gI G a1 10) then (if (gI G a1 1) = 3 then (if p2 = (gI G a1 8) then (Q 1 G) else (Q 0 G)) else (gK G a0 = 10 ∧ wpX10_isWithin a0 p2 (gI G a1 8) G (fun r3 G4 => isB r3 ∧ Q r3 G4))) else (Q 0 G))) else (Q 0 G)
abbrev rmX10_countsAt : Room := { frames := 1, cells := 0, slots := 0, locals := 24 }
set_option maxRecDepth 100000 in
def wpX10_counts (a0 : Nat) (p1 : Int32) (p2 : Int32) (p3 : Int32) (G : Wd) (Q : Int64 → Wd → Prop) : Prop := gK G a0 = 10 ∧ wpX10_find a0 p1 G (fun r2 G3 => (match r2 with | none => (Q (-9000000000000000001) G3) | some b4 => (wpX10_isPlace p2 G3 (fun r5 G6 => if r5 = 0 then (Q (-9000000000000000001) G6) else (wpX10_isDay p3 G6 (fun r7 G8 => if r7 = 0 then (Q (-9000000000000000001) G8) else (gK G8 a0 = 10 ∧ wpX10_countsAt a0 b4 p2 p3 G8 (fun r10 G11 => if r10 = 0 then (Q 0 G11) else (Q 1 G11)))))))))
abbrev rmX10_counts : Room := { frames := 2, cells := 0, slots := 0, locals := 47 }
set_option maxRecDepth 100000 in
def wpX10_isPlaceAndDay (p0 : Int32) (G : Wd) (Q : Int32 → Wd → Prop) : Prop := if p0 < 0 then (Q 0 G) else (if 80000 ≤ p0 then (Q 0 G) else (Q 1 G))
abbrev rmX10_isPlaceAndDay : Room := { frames := 0, cells := 0, slots := 0, locals := 0 }
def wpX10_gather_55 (Q : Wd → Prop) (k10 : Nat → Int32 → Int32 → Wd → Prop) (v0 : Nat) (v1 : Int32) (v2 : Int32) (G : Wd) : Prop := ∀ x1 : Int32, x1 = v2 + 1 → k10 v0 v1 x1 G
def wpX10_gather_10 (Q : Wd → Prop) : Nat → Nat → Int32 → Int32 → Wd → Prop
  | 0, _, _, _, _ => False
  | n + 1, v0, v1, v2, G => gK G v0 = 10 ∧ if (gI G v0 2) ≤ v2 then (Q G) else (∃ b3, gR G v0 1 = some b3 ∧ gK G b3 = 25 ∧ vp_in v2 (gN G b3) ∧ ∀ r7 : Option Nat, r7 = gR G b3 (v2).toNatClampNeg → (match r7 with | none => (wpX10_gather_55 Q (fun y0 y1 y2 y3 => wpX10_gather_10 Q n y0 y1 y2 y3) v0 v1 v2 G) | some b8 => (wpX10_countsAt v0 b8 (v1 / 10000) (v1 % 10000) G (fun r9 G10 => if r9 = 0 then (wpX10_gather_55 Q (fun y0 y1 y2 y3 => wpX10_gather_10 Q n y0 y1 y2 y3) v0 v1 v2 G10) else (gK G10 v0 = 10 ∧ ∃ b12, gR G10 v0 6 = some b12 ∧ gK G10 b12 = 9 ∧ wpX9_admit b12 b8 G10 (fun G16 => wpX10_gather_55 Q (fun y0 y1 y2 y3 => wpX10_gather_10 Q n y0 y1 y2 y3) v0 v1 v2 G16))))))
set_option maxRecDepth 100000 in
def wpX10_gather (a0 : Nat) (p1 : Int32) (G : Wd) (Q : Wd → Prop) : Prop := gK G a0 = 10 ∧ ∃ b18, gR G a0 6 = some b18 ∧ gK G b18 = 9 ∧ ∀ G21 : Wd, G21 = uI G b18 1 0 → ∃ m, wpX10_gather_10 Q m a0 p1 0 G21
abbrev rmX10_gather : Room := { frames := 2, cells := 0, slots := 0, locals := 47 }
set_option maxRecDepth 100000 in
def wpX10_ways (a0 : Nat) (p1 : Int32) (p2 : Int32) (G : Wd) (Q : Int64 → Wd → Prop) : Prop := wpX10_isPair p1 G (fun r1 G2 => if r1 = 0 then (Q (-9000000000000000001) G2) else (wpX10_isPlaceAndDay p2 G2 (fun r3 G4 => if r3 = 0 then (Q (-9000000000000000001) G4) else (gK G4 a0 = 10 ∧ wpX10_gather a0 p2 G4 (fun G7 => gK G7 a0 = 10 ∧ ∃ b9, gR G7 a0 7 = some b9 ∧ gK G7 b9 = 1 ∧ ∀ G12 : Wd, G12 = uJ G7 b9 0 0 → ∃ b14, gR G12 a0 6 = some b14 ∧ ∃ b16, gR G12 a0 7 = some b16 ∧ gK G12 b14 = 9 ∧ wpX9_seekWays b14 (p1 / 10) (p1 % 10) b16 G12 (fun G20 => gK G20 a0 = 10 ∧ ∃ b22, gR G20 a0 7 = some b22 ∧ gK G20 b22 = 1 ∧ Q (gJ G20 b22 0) G20))))))
abbrev rmX10_ways : Room := { frames := 18, cells := 0, slots := 0, locals := 479 }
set_option maxRecDepth 100000 in
def wpX10_way (a0 : Nat) (p1 : Int32) (p2 : Int32) (p3 : Int32) (p4 : Int32) (G : Wd) (Q : Int64 → Wd → Prop) : Prop := wpX10_isPair p1 G (fun r1 G2 => if r1 = 0 then (Q (-9000000000000000001) G2) else (wpX10_isPlaceAndDay p2 G2 (fun r3 G4 => if r3 = 0 then (Q (-9000000000000000001) G4) else (if p3 < 0 then (Q (-9000000000000000001) G4) else (if 0 ≤ p4 then (gK G4 a0 = 10 ∧ wpX10_gather a0 p2 G4 (fun G7 => gK G7 a0 = 10 ∧ ∃ b9, gR G7 a0 6 = some b9 ∧ ∃ b11, gR G7 a0 8 = some b11 ∧ gK G7 b9 = 9 ∧ wpX9_pickWay b9 (p1 / 10) (p1 % 10) p3 b11 G7 (fun r14 G15 => if r14 = 0 then (Q (-9000000000000000005) G15) else (gK G15 a0 = 10 ∧ ∃ b17, gR G15 a0 6 = some b17 ∧ gK G15 b17 = 9 ∧ if p4 < (gI G15 b17 3) then (∃ b20, gR G15 a0 6 = some b20 ∧ gK G15 b20 = 9 ∧ ∃ b23, gR G15 b20 2 = some b23 ∧ gK G15 b23 = 20 ∧ vp_in p4 (gN G15 b23) ∧ Q ((gI G15 b23 (p4).toNatClampNeg).toInt64) G15) else (Q (-9000000000000000005) G15))))) else (Q (-9000000000000000001) G4))))))
abbrev rmX10_way : Room := { frames := 18, cells := 0, slots := 0, locals := 481 }
set_option maxRecDepth 100000 in
def wpX10_factor (a0 : Nat) (p1 : Int32) (p2 : Int32) (p3 : Int32) (p4 : Int32) (G : Wd) (Q : Int64 → Wd → Prop) : Prop := wpX10_isPair p1 G (fun r1 G2 => if r1 = 0 then (Q (-9000000000000000001) G2) else (wpX10_isPlaceAndDay p2 G2 (fun r3 G4 => if r3 = 0 then (Q (-9000000000000000001) G4) else (wpX10_isEither p3 G4 (fun r5 G6 => if r5 = 0 then (Q (-9000000000000000001) G6) else (wpX10_isEither p4 G6 (fun r7 G8 => if r7 = 0 then (Q (-9000000000000000001) G8) else (gK G8 a0 = 10 ∧ wpX10_gather a0 p2 G8 (fun G11 => gK G11 a0 = 10 ∧ ∃ b13, gR G11 a0 6 = some b13 ∧ ∃ b15, gR G11 a0 8 = some b15 ∧ gK G11 b13 = 9 ∧ wpX9_pickWay b13 (p1 / 10) (p1 % 10) 0 b15 G11 (fun r18 G19 => if r18 = 0 then (Q (-9000000000000000005) G19) else (gK G19 a0 = 10 ∧ ∃ b21, gR G19 a0 6 = some b21 ∧ gK G19 b21 = 9 ∧ wpX9_low b21 G19 (fun r24 G25 => ∃ b26, r24 = some b26 ∧ gK G25 a0 = 10 ∧ ∃ b28, gR G25 a0 6 = some b28 ∧ gK G25 b28 = 9 ∧ wpX9_high b28 G25 (fun r31 G32 => ∃ b33, r31 = some b33 ∧ wpX10_endOf b26 b33 p3 p4 G32 (fun r34 G35 => Q r34 G35))))))))))))))
abbrev rmX10_factor : Room := { frames := 18, cells := 0, slots := 0, locals := 481 }
set_option maxRecDepth 100000 in
def wpX10_span (a0 : Nat) (p1 : Int32) (p2 : Int32) (p3 : Int32) (p4 : Int32) (G : Wd) (Q : Int64 → Wd → Prop) : Prop := wpX10_isPair p1 G (fun r1 G2 => if r1 = 0 then (Q (-9000000000000000001) G2) else (wpX10_isPlaceAndDay p2 G2 (fun r3 G4 => if r3 = 0 then (Q (-9000000000000000001) G4) else (wpX10_isEither p3 G4 (fun r5 G6 => if r5 = 0 then (Q (-9000000000000000001) G6) else (wpX10_isEither p4 G6 (fun r7 G8 => if r7 = 0 then (Q (-9000000000000000001) G8) else (gK G8 a0 = 10 ∧ wpX10_gather a0 p2 G8 (fun G11 => gK G11 a0 = 10 ∧ ∃ b13, gR G11 a0 9 = some b13 ∧ gK G11 b13 = 8 ∧ ∀ G16 : Wd, G16 = uI G11 b13 2 0 → ∃ b18, gR G16 a0 6 = some b18 ∧ ∃ b20, gR G16 a0 9 = some b20 ∧ gK G16 b18 = 9 ∧ wpX9_seekWays b18 (p1 / 10) (p1 % 10) b20 G16 (fun G24 => gK G24 a0 = 10 ∧ ∃ b26, gR G24 a0 9 = some b26 ∧ gK G24 b26 = 8 ∧ if (gI G24 b26 2) = 0 then (Q (-9000000000000000005) G24) else (∃ b29, gR G24 a0 9 = some b29 ∧ gK G24 b29 = 8 ∧ ∃ b32, gR G24 b29 0 = some b32 ∧ ∃ b34, gR G24 a0 9 = some b34 ∧ gK G24 b34 = 8 ∧ ∃ b37, gR G24 b34 1 = some b37 ∧ wpX10_endOf b32 b37 p3 p4 G24 (fun r39 G40 => Q r39 G40))))))))))))
abbrev rmX10_span : Room := { frames := 18, cells := 0, slots := 0, locals := 479 }
set_option maxRecDepth 100000 in
def wpX10_quarrel (a0 : Nat) (p1 : Int32) (p2 : Int32) (G : Wd) (Q : Int64 → Wd → Prop) : Prop := wpX10_isPlaceAndDay p1 G (fun r1 G2 => if r1 = 0 then (Q (-9000000000000000001) G2) else (if 0 ≤ p2 then (gK G2 a0 = 10 ∧ wpX10_gather a0 p1 G2 (fun G5 => gK G5 a0 = 10 ∧ ∃ b7, gR G5 a0 10 = some b7 ∧ gK G5 b7 = 4 ∧ wpX4_begin b7 G5 (fun G11 => gK G11 a0 = 10 ∧ ∃ b13, gR G11 a0 6 = some b13 ∧ ∃ b15, gR G11 a0 10 = some b15 ∧ gK G11 b13 = 9 ∧ wpX9_seekRings b13 b15 G11 (fun G19 => gK G19 a0 = 10 ∧ ∃ b21, gR G19 a0 10 = some b21 ∧ gK G19 b21 = 4 ∧ if (gI G19 b21 2) = 0 then (∃ b24, gR G19 a0 10 = some b24 ∧ gK G19 b24 = 4 ∧ if (gI G19 b24 1) ≤ p2 then (Q (-9000000000000000005) G19) else (∃ b27, gR G19 a0 10 = some b27 ∧ gK G19 b27 = 4 ∧ ∃ b30, gR G19 b27 0 = some b30 ∧ gK G19 b30 = 20 ∧ vp_in p2 (gN G19 b30) ∧ Q ((gI G19 b30 (p2).toNatClampNeg).toInt64) G19)) else (Q (-9000000000000000004) G19))))) else (Q (-9000000000000000001) G2)))
abbrev rmX10_quarrel : Room := { frames := 18, cells := 0, slots := 0, locals := 481 }
set_option maxRecDepth 100000 in
def wpX10_findCure (a0 : Nat) (p1 : Int32) (G : Wd) (Q : Int64 → Wd → Prop) : Prop := gK G a0 = 10 ∧ wpX10_gather a0 p1 G (fun G3 => gK G3 a0 = 10 ∧ ∃ b5, gR G3 a0 10 = some b5 ∧ gK G3 b5 = 4 ∧ wpX4_begin b5 G3 (fun G9 => gK G9 a0 = 10 ∧ ∃ b11, gR G9 a0 10 = some b11 ∧ ∃ b13, gR G9 a0 6 = some b13 ∧ gK G9 b11 = 4 ∧ wpX4_choose b11 b13 G9 (fun r16 G17 => if r16 = 0 then (Q (-9000000000000000004) G17) else (gK G17 a0 = 10 ∧ ∃ b19, gR G17 a0 6 = some b19 ∧ ∃ b21, gR G17 a0 10 = some b21 ∧ gK G17 b19 = 9 ∧ wpX9_seekRings b19 b21 G17 (fun G25 => gK G25 a0 = 10 ∧ ∃ b27, gR G25 a0 10 = some b27 ∧ gK G25 b27 = 4 ∧ if (gI G25 b27 2) = 0 then (∃ b30, gR G25 a0 10 = some b30 ∧ gK G25 b30 = 4 ∧ wpX4_cheapest b30 G25 (fun r33 G34 => Q r33 G34)) else (Q (-9000000000000000004) G25))))))
abbrev rmX10_findCure : Room := { frames := 18, cells := 0, slots := 0, locals := 481 }
set_option maxRecDepth 100000 in
def wpX10_cure (a0 : Nat) (p1 : Int32) (G : Wd) (Q : Int64 → Wd → Prop) : Prop := wpX10_isPlaceAndDay p1 G (fun r1 G2 => if r1 = 0 then (Q (-9000000000000000001) G2) else (gK G2 a0 = 10 ∧ wpX10_findCure a0 p1 G2 (fun r4 G5 => Q r4 G5)))
abbrev rmX10_cure : Room := { frames := 19, cells := 0, slots := 0, locals := 502 }
def wpX10_heal_70 (Q : Int64 → Wd → Prop) (k30 : Nat → Int64 → Int32 → Wd → Prop) (v0 : Nat) (v2 : Int64) (v4 : Int32) (G : Wd) : Prop := ∀ x1 : Int32, x1 = v4 + 1 → k30 v0 v2 x1 G
def wpX10_heal_30 (Q : Int64 → Wd → Prop) : Nat → Nat → Int64 → Int32 → Wd → Prop
  | 0, _, _, _, _ => False
  | n + 1, v0, v2, v4, G => gK G v0 = 10 ∧ if (gI G v0 2) ≤ v4 then (wpJ13_bitCount_95d88 v2 G (fun r3 G4 => Q ((r3).toInt64) G4)) else (∃ b5, gR G v0 1 = some b5 ∧ gK G b5 = 25 ∧ vp_in v4 (gN G b5) ∧ ∀ r9 : Option Nat, r9 = gR G b5 (v4).toNatClampNeg → (match r9 with | none => (wpX10_heal_70 Q (fun y0 y1 y2 y3 => wpX10_heal_30 Q n y0 y1 y2 y3) v0 v2 v4 G) | some b10 => (if ((v2 >>> ((v4).toInt64 &&& 63)) &&& 1) = 1 then (gK G b10 = 5 ∧ ∀ G12 : Wd, G12 = uI G b10 13 1 → wpX10_heal_70 Q (fun y0 y1 y2 y3 => wpX10_heal_30 Q n y0 y1 y2 y3) v0 v2 v4 G12) else (wpX10_heal_70 Q (fun y0 y1 y2 y3 => wpX10_heal_30 Q n y0 y1 y2 y3) v0 v2 v4 G))))
def wpX10_heal_18 (Q : Int64 → Wd → Prop) (v0 : Nat) (s0 : Int64) (G : Wd) : Prop := if s0 < 0 then (Q s0 G) else (∃ m, wpX10_heal_30 Q m v0 s0 0 G)
set_option maxRecDepth 100000 in
def wpX10_heal (a0 : Nat) (p1 : Int32) (G : Wd) (Q : Int64 → Wd → Prop) : Prop := wpX10_isPlaceAndDay p1 G (fun r13 G14 => if r13 = 0 then (wpX10_heal_18 Q a0 (-9000000000000000001) G14) else (gK G14 a0 = 10 ∧ wpX10_findCure a0 p1 G14 (fun r16 G17 => wpX10_heal_18 Q a0 r16 G17)))
abbrev rmX10_heal : Room := { frames := 19, cells := 0, slots := 0, locals := 502 }
set_option maxRecDepth 100000 in
def wpX10_findCustom (a0 : Nat) (p1 : Int32) (G : Wd) (Q : Option Nat → Wd → Prop) : Prop := if p1 < 0 then (Q none G) else (if 4 ≤ p1 then (Q none G) else (gK G a0 = 10 ∧ ∃ b2, gR G a0 3 = some b2 ∧ gK G b2 = 23 ∧ vp_in p1 (gN G b2) ∧ ∃ b6, gR G b2 (p1).toNatClampNeg = some b6 ∧ Q (some b6) G))
abbrev rmX10_findCustom : Room := { frames := 0, cells := 0, slots := 0, locals := 0 }
set_option maxRecDepth 100000 in
theorem sX10_init {l : Launch} {D : Dx} {a0 : Nat} {G : Wd} {Q : Wd → Prop} (hw : wpX10_init a0 G Q) : Met l yX10_init (wM yX10_init cX10_init 2 none) rmX10_init (PM D [.ref a0] G) (QMv D Q) 53 1327 (Ab D) := by
  refine v_met (by decide) (Nat.le_of_ble_eq_true rfl) (fun X hl hR F => ?_)
  subst hl
  have F : Fx X D cX10_init 2 RX10 none "<init>" := F
  refine v_cast (L' := [(0, .ref a0)]) rfl rfl ?_
  unfold wpX10_init at hw
  refine v_aload_n F dX10_init_0 rfl 0 rfl ?_
  refine v_objInit F wd_85 wd_86 wd_87 (by rw [hR]; exact Nat.le_of_ble_eq_true rfl) (by rw [hR]; exact Nat.le_of_ble_eq_true rfl) dX10_init_1 ?_
  refine v_aload_n F dX10_init_4 rfl 0 rfl ?_
  refine v_bipush (v := 8) F dX10_init_5 (by decide) ?_
  refine v_newaI (N := 8) F wd_125 (by decide) (by decide) (by decide) (by rw [hR]; exact Nat.le_of_ble_eq_true rfl) (by rw [hR]; exact Nat.le_of_ble_eq_true rfl) dX10_init_7 ?_
  generalize hz2 : gZ G = z2
  refine v_nmG (fun G1 hG1 => ?_)
  have hw := hw z2 G1 hz2.symm hG1
  obtain ⟨kd3, hw⟩ := hw
  refine v_putR F fl_X10_9 (fun _ => rfl) ⟨rfl, rfl, fun _ => rfl⟩ kd3 dX10_init_9 ?_
  refine v_nmG (fun G4 hG4 => ?_)
  have hw := hw G4 hG4
  refine v_aload_n F dX10_init_12 rfl 0 rfl ?_
  refine v_bipush (v := 24) F dX10_init_13 (by decide) ?_
  refine v_anew (t := 5) (N := 24) F rfl (by decide +kernel) wd_88 (by decide) (by decide) (by decide) (by rw [hR]; exact Nat.le_of_ble_eq_true rfl) (by rw [hR]; exact Nat.le_of_ble_eq_true rfl) dX10_init_15 ?_
  generalize hz6 : gZ G4 = z6
  refine v_nmG (fun G5 hG5 => ?_)
  have hw := hw z6 G5 hz6.symm hG5
  obtain ⟨kd7, hw⟩ := hw
  refine v_putR F fl_X10_15 (fun _ => rfl) ⟨rfl, rfl, fun _ => rfl⟩ kd7 dX10_init_18 ?_
  refine v_nmG (fun G8 hG8 => ?_)
  have hw := hw G8 hG8
  refine v_aload_n F dX10_init_21 rfl 0 rfl ?_
  refine v_iconst (v := 4) F dX10_init_22 (by decide) ?_
  refine v_anew (t := 3) (N := 4) F rfl (by decide +kernel) wd_90 (by decide) (by decide) (by decide) (by rw [hR]; exact Nat.le_of_ble_eq_true rfl) (by rw [hR]; exact Nat.le_of_ble_eq_true rfl) dX10_init_23 ?_
  generalize hz10 : gZ G8 = z10
  refine v_nmG (fun G9 hG9 => ?_)
  have hw := hw z10 G9 hz10.symm hG9
  obtain ⟨kd11, hw⟩ := hw
  refine v_putR F fl_X10_21 (fun _ => rfl) ⟨rfl, rfl, fun _ => rfl⟩ kd11 dX10_init_26 ?_
  refine v_nmG (fun G12 hG12 => ?_)
  have hw := hw G12 hG12
  refine v_aload_n F dX10_init_29 rfl 0 rfl ?_
  refine v_bipush (v := 20) F dX10_init_30 (by decide) ?_
  refine v_anew (t := 6) (N := 20) F rfl (by decide +kernel) wd_92 (by decide) (by decide) (by decide) (by rw [hR]; exact Nat.le_of_ble_eq_true rfl) (by rw [hR]; exact Nat.le_of_ble_eq_true rfl) dX10_init_32 ?_
  generalize hz14 : gZ G12 = z14
  refine v_nmG (fun G13 hG13 => ?_)
  have hw := hw z14 G13 hz14.symm hG13
  obtain ⟨kd15, hw⟩ := hw
  refine v_putR F fl_X10_27 (fun _ => rfl) ⟨rfl, rfl, fun _ => rfl⟩ kd15 dX10_init_35 ?_
  refine v_nmG (fun G16 hG16 => ?_)
  have hw := hw G16 hG16
  refine v_aload_n F dX10_init_38 rfl 0 rfl ?_
  refine v_new (ci := 8) F rfl rfl wd_94 wd_95 wd_64 (by rw [hR]; exact Nat.le_of_ble_eq_true rfl) (by rw [hR]; exact Nat.le_of_ble_eq_true rfl) dX10_init_39 ?_
  generalize hz18 : gZ G16 = z18
  refine v_nmG (fun G17 hG17 => ?_)
  have hw := hw z18 G17 hz18.symm hG17
  refine v_dup F dX10_init_42 rfl ?_
  refine v_callv (r_I F li_X10_33 (sX9_init hw) (mkRm hR rfl rfl rfl rfl rfl rfl) rfl rfl (Nat.le_of_ble_eq_true rfl) dX10_init_43) (fun G20 hw => ?_)
  obtain ⟨kd21, hw⟩ := hw
  refine v_putR F fl_X10_34 (fun _ => rfl) ⟨rfl, rfl, fun _ => rfl⟩ kd21 dX10_init_46 ?_
  refine v_nmG (fun G22 hG22 => ?_)
  have hw := hw G22 hG22
  refine v_aload_n F dX10_init_49 rfl 0 rfl ?_
  refine v_new (ci := 0) F rfl rfl wd_184 wd_185 wd_68 (by rw [hR]; exact Nat.le_of_ble_eq_true rfl) (by rw [hR]; exact Nat.le_of_ble_eq_true rfl) dX10_init_50 ?_
  generalize hz24 : gZ G22 = z24
  refine v_nmG (fun G23 hG23 => ?_)
  have hw := hw z24 G23 hz24.symm hG23
  refine v_dup F dX10_init_53 rfl ?_
  refine v_callv (r_N F ln_X10_40 (sX0_init hw) (mkRm hR rfl rfl rfl rfl rfl rfl) rfl rfl (Nat.le_of_ble_eq_true rfl) dX10_init_54) (fun G26 hw => ?_)
  obtain ⟨kd27, hw⟩ := hw
  refine v_putR F fl_X10_41 (fun _ => rfl) ⟨rfl, rfl, fun _ => rfl⟩ kd27 dX10_init_57 ?_
  refine v_nmG (fun G28 hG28 => ?_)
  have hw := hw G28 hG28
  refine v_aload_n F dX10_init_60 rfl 0 rfl ?_
  refine v_new (ci := 6) F rfl rfl wd_198 wd_199 wd_69 (by rw [hR]; exact Nat.le_of_ble_eq_true rfl) (by rw [hR]; exact Nat.le_of_ble_eq_true rfl) dX10_init_61 ?_
  generalize hz30 : gZ G28 = z30
  refine v_nmG (fun G29 hG29 => ?_)
  have hw := hw z30 G29 hz30.symm hG29
  refine v_dup F dX10_init_64 rfl ?_
  refine v_callv (r_N F ln_X10_47 (sX7_init hw) (mkRm hR rfl rfl rfl rfl rfl rfl) rfl rfl (Nat.le_of_ble_eq_true rfl) dX10_init_65) (fun G32 hw => ?_)
  obtain ⟨kd33, hw⟩ := hw
  refine v_putR F fl_X10_48 (fun _ => rfl) ⟨rfl, rfl, fun _ => rfl⟩ kd33 dX10_init_68 ?_
  refine v_nmG (fun G34 hG34 => ?_)
  have hw := hw G34 hG34
  refine v_aload_n F dX10_init_71 rfl 0 rfl ?_
  refine v_new (ci := 7) F rfl rfl wd_213 wd_214 wd_70 (by rw [hR]; exact Nat.le_of_ble_eq_true rfl) (by rw [hR]; exact Nat.le_of_ble_eq_true rfl) dX10_init_72 ?_
  generalize hz36 : gZ G34 = z36
  refine v_nmG (fun G35 hG35 => ?_)
  have hw := hw z36 G35 hz36.symm hG35
  refine v_dup F dX10_init_75 rfl ?_
  refine v_callv (r_N F ln_X10_54 (sX8_init hw) (mkRm hR rfl rfl rfl rfl rfl rfl) rfl rfl (Nat.le_of_ble_eq_true rfl) dX10_init_76) (fun G38 hw => ?_)
  obtain ⟨kd39, hw⟩ := hw
  refine v_putR F fl_X10_55 (fun _ => rfl) ⟨rfl, rfl, fun _ => rfl⟩ kd39 dX10_init_79 ?_
  refine v_nmG (fun G40 hG40 => ?_)
  have hw := hw G40 hG40
  refine v_aload_n F dX10_init_82 rfl 0 rfl ?_
  refine v_new (ci := 3) F rfl rfl wd_234 wd_235 wd_71 (by rw [hR]; exact Nat.le_of_ble_eq_true rfl) (by rw [hR]; exact Nat.le_of_ble_eq_true rfl) dX10_init_83 ?_
  generalize hz42 : gZ G40 = z42
  refine v_nmG (fun G41 hG41 => ?_)
  have hw := hw z42 G41 hz42.symm hG41
  refine v_dup F dX10_init_86 rfl ?_
  refine v_callv (r_N F ln_X10_61 (sX4_init hw) (mkRm hR rfl rfl rfl rfl rfl rfl) rfl rfl (Nat.le_of_ble_eq_true rfl) dX10_init_87) (fun G44 hw => ?_)
  obtain ⟨kd45, hw⟩ := hw
  refine v_putR F fl_X10_62 (fun _ => rfl) ⟨rfl, rfl, fun _ => rfl⟩ kd45 dX10_init_90 ?_
  refine v_nmG (fun G46 hG46 => ?_)
  have hw := hw G46 hG46
  refine v_aload_n F dX10_init_93 rfl 0 rfl ?_
  refine v_new (ci := 2) F rfl rfl wd_267 wd_103 wd_65 (by rw [hR]; exact Nat.le_of_ble_eq_true rfl) (by rw [hR]; exact Nat.le_of_ble_eq_true rfl) dX10_init_94 ?_
  generalize hz48 : gZ G46 = z48
  refine v_nmG (fun G47 hG47 => ?_)
  have hw := hw z48 G47 hz48.symm hG47
  refine v_dup F dX10_init_97 rfl ?_
  refine v_callv (r_N F ln_X10_68 (sX2_init hw) (mkRm hR rfl rfl rfl rfl rfl rfl) rfl rfl (Nat.le_of_ble_eq_true rfl) dX10_init_98) (fun G50 hw => ?_)
  obtain ⟨kd51, hw⟩ := hw
  refine v_putR F fl_X10_69 (fun _ => rfl) ⟨rfl, rfl, fun _ => rfl⟩ kd51 dX10_init_101 ?_
  refine v_nmG (fun G52 hG52 => ?_)
  have hw := hw G52 hG52
  refine v_aload_n F dX10_init_104 rfl 0 rfl ?_
  refine v_new (ci := 2) F rfl rfl wd_267 wd_103 wd_65 (by rw [hR]; exact Nat.le_of_ble_eq_true rfl) (by rw [hR]; exact Nat.le_of_ble_eq_true rfl) dX10_init_105 ?_
  generalize hz54 : gZ G52 = z54
  refine v_nmG (fun G53 hG53 => ?_)
  have hw := hw z54 G53 hz54.symm hG53
  refine v_dup F dX10_init_108 rfl ?_
  refine v_callv (r_N F ln_X10_68 (sX2_init hw) (mkRm hR rfl rfl rfl rfl rfl rfl) rfl rfl (Nat.le_of_ble_eq_true rfl) dX10_init_109) (fun G56 hw => ?_)
  obtain ⟨kd57, hw⟩ := hw
  refine v_putR F fl_X10_73 (fun _ => rfl) ⟨rfl, rfl, fun _ => rfl⟩ kd57 dX10_init_112 ?_
  refine v_nmG (fun G58 hG58 => ?_)
  have hw := hw G58 hG58
  refine v_aload_n F dX10_init_115 rfl 0 rfl ?_
  refine v_new (ci := 2) F rfl rfl wd_267 wd_103 wd_65 (by rw [hR]; exact Nat.le_of_ble_eq_true rfl) (by rw [hR]; exact Nat.le_of_ble_eq_true rfl) dX10_init_116 ?_
  generalize hz60 : gZ G58 = z60
  refine v_nmG (fun G59 hG59 => ?_)
  have hw := hw z60 G59 hz60.symm hG59
  refine v_dup F dX10_init_119 rfl ?_
  refine v_callv (r_N F ln_X10_68 (sX2_init hw) (mkRm hR rfl rfl rfl rfl rfl rfl) rfl rfl (Nat.le_of_ble_eq_true rfl) dX10_init_120) (fun G62 hw => ?_)
  obtain ⟨kd63, hw⟩ := hw
  refine v_putR F fl_X10_76 (fun _ => rfl) ⟨rfl, rfl, fun _ => rfl⟩ kd63 dX10_init_123 ?_
  refine v_nmG (fun G64 hG64 => ?_)
  have hw := hw G64 hG64
  refine v_iconst (v := 0) F dX10_init_126 (by decide) ?_
  refine v_istore_n (L' := [(1, .int 0), (0, .ref a0)]) F dX10_init_127 rfl (by decide) rfl ?_
  refine v_iload_n F dX10_init_128 rfl 0 rfl ?_
  refine v_iconst (v := 4) F dX10_init_129 (by decide) ?_
  refine v_icmp_ge (tgt := 152) F dX10_init_130 (by decide) (fun h => absurd h (by decide)) (fun _ => ?_)
  refine v_aload_n F dX10_init_133 rfl 1 rfl ?_
  have kd65 : gK G64 a0 = 10 := by rw [hG64]; exact kd63
  obtain ⟨b66, hr67, hw⟩ := hw
  refine v_getS F fl_X10_21 (fun _ => rfl) kd65 hr67 dX10_init_134 ?_
  refine v_iload_n F dX10_init_137 rfl 0 rfl ?_
  refine v_new (ci := 1) F rfl rfl wd_90 wd_269 wd_72 (by rw [hR]; exact Nat.le_of_ble_eq_true rfl) (by rw [hR]; exact Nat.le_of_ble_eq_true rfl) dX10_init_138 ?_
  generalize hz69 : gZ G64 = z69
  refine v_nmG (fun G68 hG68 => ?_)
  have hw := hw z69 G68 hz69.symm hG68
  refine v_dup F dX10_init_141 rfl ?_
  refine v_callv (r_I F li_X10_79 (sX1_init hw) (mkRm hR rfl rfl rfl rfl rfl rfl) rfl rfl (Nat.le_of_ble_eq_true rfl) dX10_init_142) (fun G71 hw => ?_)
  obtain ⟨kd72, hw⟩ := hw
  obtain ⟨kd75, hw⟩ := hw
  obtain ⟨hi73, hw⟩ := hw
  refine v_aastE (t := 3) (ci := 1) F rfl rfl (k := 0) (by decide) kd72 kd75 hi73 dX10_init_145 (fun G74 hG74 => ?_)
  have hw := hw G74 hG74
  refine v_iinc (v := 1) (L' := [(1, .int 1), (0, .ref a0)]) F dX10_init_146 0 rfl (by decide) (by decide) rfl ?_
  refine v_goto (tgt := 128) F dX10_init_149 (by decide) ?_
  refine v_iload_n F dX10_init_128 rfl 0 rfl ?_
  refine v_iconst (v := 4) F dX10_init_129 (by decide) ?_
  refine v_icmp_ge (tgt := 152) F dX10_init_130 (by decide) (fun h => absurd h (by decide)) (fun _ => ?_)
  refine v_aload_n F dX10_init_133 rfl 1 rfl ?_
  obtain ⟨kd76, hw⟩ := hw
  obtain ⟨b77, hr78, hw⟩ := hw
  refine v_getS F fl_X10_21 (fun _ => rfl) kd76 hr78 dX10_init_134 ?_
  refine v_iload_n F dX10_init_137 rfl 0 rfl ?_
  refine v_new (ci := 1) F rfl rfl wd_90 wd_269 wd_72 (by rw [hR]; exact Nat.le_of_ble_eq_true rfl) (by rw [hR]; exact Nat.le_of_ble_eq_true rfl) dX10_init_138 ?_
  generalize hz80 : gZ G74 = z80
  refine v_nmG (fun G79 hG79 => ?_)
  have hw := hw z80 G79 hz80.symm hG79
  refine v_dup F dX10_init_141 rfl ?_
  refine v_callv (r_I F li_X10_79 (sX1_init hw) (mkRm hR rfl rfl rfl rfl rfl rfl) rfl rfl (Nat.le_of_ble_eq_true rfl) dX10_init_142) (fun G82 hw => ?_)
  obtain ⟨kd83, hw⟩ := hw
  obtain ⟨kd86, hw⟩ := hw
  obtain ⟨hi84, hw⟩ := hw
  refine v_aastE (t := 3) (ci := 1) F rfl rfl (k := 1) (by decide) kd83 kd86 hi84 dX10_init_145 (fun G85 hG85 => ?_)
  have hw := hw G85 hG85
  refine v_iinc (v := 2) (L' := [(1, .int 2), (0, .ref a0)]) F dX10_init_146 0 rfl (by decide) (by decide) rfl ?_
  refine v_goto (tgt := 128) F dX10_init_149 (by decide) ?_
  refine v_iload_n F dX10_init_128 rfl 0 rfl ?_
  refine v_iconst (v := 4) F dX10_init_129 (by decide) ?_
  refine v_icmp_ge (tgt := 152) F dX10_init_130 (by decide) (fun h => absurd h (by decide)) (fun _ => ?_)
  refine v_aload_n F dX10_init_133 rfl 1 rfl ?_
  obtain ⟨kd87, hw⟩ := hw
  obtain ⟨b88, hr89, hw⟩ := hw
  refine v_getS F fl_X10_21 (fun _ => rfl) kd87 hr89 dX10_init_134 ?_
  refine v_iload_n F dX10_init_137 rfl 0 rfl ?_
  refine v_new (ci := 1) F rfl rfl wd_90 wd_269 wd_72 (by rw [hR]; exact Nat.le_of_ble_eq_true rfl) (by rw [hR]; exact Nat.le_of_ble_eq_true rfl) dX10_init_138 ?_
  generalize hz91 : gZ G85 = z91
  refine v_nmG (fun G90 hG90 => ?_)
  have hw := hw z91 G90 hz91.symm hG90
  refine v_dup F dX10_init_141 rfl ?_
  refine v_callv (r_I F li_X10_79 (sX1_init hw) (mkRm hR rfl rfl rfl rfl rfl rfl) rfl rfl (Nat.le_of_ble_eq_true rfl) dX10_init_142) (fun G93 hw => ?_)
  obtain ⟨kd94, hw⟩ := hw
  obtain ⟨kd97, hw⟩ := hw
  obtain ⟨hi95, hw⟩ := hw
  refine v_aastE (t := 3) (ci := 1) F rfl rfl (k := 2) (by decide) kd94 kd97 hi95 dX10_init_145 (fun G96 hG96 => ?_)
  have hw := hw G96 hG96
  refine v_iinc (v := 3) (L' := [(1, .int 3), (0, .ref a0)]) F dX10_init_146 0 rfl (by decide) (by decide) rfl ?_
  refine v_goto (tgt := 128) F dX10_init_149 (by decide) ?_
  refine v_iload_n F dX10_init_128 rfl 0 rfl ?_
  refine v_iconst (v := 4) F dX10_init_129 (by decide) ?_
  refine v_icmp_ge (tgt := 152) F dX10_init_130 (by decide) (fun h => absurd h (by decide)) (fun _ => ?_)
  refine v_aload_n F dX10_init_133 rfl 1 rfl ?_
  obtain ⟨kd98, hw⟩ := hw
  obtain ⟨b99, hr100, hw⟩ := hw
  refine v_getS F fl_X10_21 (fun _ => rfl) kd98 hr100 dX10_init_134 ?_
  refine v_iload_n F dX10_init_137 rfl 0 rfl ?_
  refine v_new (ci := 1) F rfl rfl wd_90 wd_269 wd_72 (by rw [hR]; exact Nat.le_of_ble_eq_true rfl) (by rw [hR]; exact Nat.le_of_ble_eq_true rfl) dX10_init_138 ?_
  generalize hz102 : gZ G96 = z102
  refine v_nmG (fun G101 hG101 => ?_)
  have hw := hw z102 G101 hz102.symm hG101
  refine v_dup F dX10_init_141 rfl ?_
  refine v_callv (r_I F li_X10_79 (sX1_init hw) (mkRm hR rfl rfl rfl rfl rfl rfl) rfl rfl (Nat.le_of_ble_eq_true rfl) dX10_init_142) (fun G104 hw => ?_)
  obtain ⟨kd105, hw⟩ := hw
  obtain ⟨kd108, hw⟩ := hw
  obtain ⟨hi106, hw⟩ := hw
  refine v_aastE (t := 3) (ci := 1) F rfl rfl (k := 3) (by decide) kd105 kd108 hi106 dX10_init_145 (fun G107 hG107 => ?_)
  have hw := hw G107 hG107
  refine v_iinc (v := 4) (L' := [(1, .int 4), (0, .ref a0)]) F dX10_init_146 0 rfl (by decide) (by decide) rfl ?_
  refine v_goto (tgt := 128) F dX10_init_149 (by decide) ?_
  refine v_iload_n F dX10_init_128 rfl 0 rfl ?_
  refine v_iconst (v := 4) F dX10_init_129 (by decide) ?_
  refine v_icmp_ge (tgt := 152) F dX10_init_130 (by decide) (fun _ => ?_) (fun h => absurd h (by decide))
  refine v_widen (c' := 53) (s' := 1327) (by decide) (by decide) ?_
  exact v_vret F hw dX10_init_152
set_option maxRecDepth 100000 in
theorem sX10_lies {l : Launch} {D : Dx} {a0 : Nat} {p1 : Int32} {p2 : Int32} {G : Wd} {Q : Int64 → Wd → Prop} (hw : wpX10_lies a0 p1 p2 G Q) : Met l yX10_lies (wM yX10_lies cX10_lies 4 (some .long)) rmX10_lies (PM D [.ref a0, .int p1, .int p2] G) (QMl D Q) 0 0 (Ab D) := by
  refine v_met (by decide) (Nat.le_of_ble_eq_true rfl) (fun X hl hR F => ?_)
  subst hl
  have F : Fx X D cX10_lies 4 RX10 (some .long) "lies" := F
  refine v_cast (L' := [(0, .ref a0), (1, .int p1), (2, .int p2)]) rfl rfl ?_
  unfold wpX10_lies at hw
  refine v_iload_n F dX10_lies_0 rfl 1 rfl ?_
  refine v_iconst (v := 1) F dX10_lies_1 (by decide) ?_
  refine v_icmp_lt (tgt := 20) F dX10_lies_2 (by decide) (fun h => ?_) (fun h => ?_)
  · rw [if_pos h] at hw
    refine v_ldc2 (v := (-9000000000000000001)) F wd_337 dX10_lies_20 ?_
    exact v_lret F hw dX10_lies_23
  · rw [if_neg h] at hw
    refine v_iload_n F dX10_lies_5 rfl 1 rfl ?_
    refine v_bipush (v := 8) F dX10_lies_6 (by decide) ?_
    refine v_icmp_ge (tgt := 20) F dX10_lies_8 (by decide) (fun h => ?_) (fun h => ?_)
    · rw [if_pos h] at hw
      refine v_ldc2 (v := (-9000000000000000001)) F wd_337 dX10_lies_20 ?_
      exact v_lret F hw dX10_lies_23
    · rw [if_neg h] at hw
      refine v_iload_n F dX10_lies_11 rfl 2 rfl ?_
      refine v_if_lt (tgt := 20) F dX10_lies_12 (by decide) (fun h => ?_) (fun h => ?_)
      · rw [if_pos h] at hw
        refine v_ldc2 (v := (-9000000000000000001)) F wd_337 dX10_lies_20 ?_
        exact v_lret F hw dX10_lies_23
      · rw [if_neg h] at hw
        refine v_iload_n F dX10_lies_15 rfl 2 rfl ?_
        refine v_iload_n F dX10_lies_16 rfl 1 rfl ?_
        refine v_icmp_lt (tgt := 24) F dX10_lies_17 (by decide) (fun h => ?_) (fun h => ?_)
        · rw [if_pos h] at hw
          refine v_aload_n F dX10_lies_24 rfl 0 rfl ?_
          obtain ⟨kd1, hw⟩ := hw
          obtain ⟨b2, hr3, hw⟩ := hw
          refine v_getS F fl_X10_9 (fun _ => rfl) kd1 hr3 dX10_lies_25 ?_
          refine v_iload_n F dX10_lies_28 rfl 1 rfl ?_
          obtain ⟨kd4, hw⟩ := hw
          obtain ⟨hi5, hw⟩ := hw
          refine v_ialdE F rfl kd4 hi5 dX10_lies_29 ?_
          refine v_topi (fun x6 hx6 => ?_)
          have hw := hw x6 hx6
          refine v_istore_n (L' := [(3, .int x6), (0, .ref a0), (1, .int p1), (2, .int p2)]) F dX10_lies_30 rfl (by decide) rfl ?_
          refine v_aload_n F dX10_lies_31 rfl 1 rfl ?_
          obtain ⟨b7, hr8, hw⟩ := hw
          refine v_getS F fl_X10_9 (fun _ => rfl) kd1 hr8 dX10_lies_32 ?_
          refine v_iload_n F dX10_lies_35 rfl 2 rfl ?_
          refine v_iload_n F dX10_lies_36 rfl 3 rfl ?_
          obtain ⟨kd9, hw⟩ := hw
          obtain ⟨hi10, hw⟩ := hw
          refine v_iastE F rfl kd9 hi10 dX10_lies_37 (fun G11 hG11 => ?_)
          have hw := hw G11 hG11
          refine v_iload_n F dX10_lies_38 rfl 0 rfl ?_
          refine v_i2l F dX10_lies_39 ?_
          exact v_lret F hw dX10_lies_40
        · rw [if_neg h] at hw
          refine v_ldc2 (v := (-9000000000000000001)) F wd_337 dX10_lies_20 ?_
          exact v_lret F hw dX10_lies_23
set_option maxRecDepth 100000 in
theorem sX10_isPlace {l : Launch} {D : Dx} {p0 : Int32} {G : Wd} {Q : Int32 → Wd → Prop} (hw : wpX10_isPlace p0 G Q) : Met l yX10_isPlace (wM yX10_isPlace cX10_isPlace 1 (some .boolean)) rmX10_isPlace (PM D [.int p0] G) (QMi D Q) 0 0 (Ab D) := by
  refine v_met (by decide) (Nat.le_of_ble_eq_true rfl) (fun X hl hR F => ?_)
  subst hl
  have F : Fx X D cX10_isPlace 1 RX10 (some .boolean) "isPlace" := F
  refine v_cast (L' := [(0, .int p0)]) rfl rfl ?_
  unfold wpX10_isPlace at hw
  refine v_iload_n F dX10_isPlace_0 rfl 0 rfl ?_
  refine v_if_lt (tgt := 14) F dX10_isPlace_1 (by decide) (fun h => ?_) (fun h => ?_)
  · rw [if_pos h] at hw
    refine v_iconst (v := 0) F dX10_isPlace_14 (by decide) ?_
    exact v_zret F (Or.inl rfl) hw dX10_isPlace_15
  · rw [if_neg h] at hw
    refine v_iload_n F dX10_isPlace_4 rfl 0 rfl ?_
    refine v_bipush (v := 8) F dX10_isPlace_5 (by decide) ?_
    refine v_icmp_ge (tgt := 14) F dX10_isPlace_7 (by decide) (fun h => ?_) (fun h => ?_)
    · rw [if_pos h] at hw
      refine v_iconst (v := 0) F dX10_isPlace_14 (by decide) ?_
      exact v_zret F (Or.inl rfl) hw dX10_isPlace_15
    · rw [if_neg h] at hw
      refine v_iconst (v := 1) F dX10_isPlace_10 (by decide) ?_
      refine v_goto (tgt := 15) F dX10_isPlace_11 (by decide) ?_
      exact v_zret F (Or.inr rfl) hw dX10_isPlace_15
set_option maxRecDepth 100000 in
theorem sbX10_isWithin_30 {X : Cx} {D : Dx} (hR : X.2.2.2.1 = rmX10_isWithin) (F : Fx X D cX10_isWithin 5 RX10 (some .boolean) "isWithin") {Q : Int32 → Wd → Prop} {v2 : Int32} {v3 : Int32} {G : Wd} (hw : wpX10_isWithin_30 Q  v2 v3 G) : V X D 5 (ZM X D (QMi D Q) 0 0) G 0 0 30 [(2, .int v2), (3, .int v3)] [] := by
  unfold wpX10_isWithin_30 at hw
  refine v_iload_n F dX10_isWithin_30 rfl 1 rfl ?_
  refine v_iload_n F dX10_isWithin_31 rfl 0 rfl ?_
  refine v_icmp_ne (tgt := 39) F dX10_isWithin_32 (by decide) (fun h => ?_) (fun h => ?_)
  · rw [if_neg h] at hw
    refine v_iconst (v := 0) F dX10_isWithin_39 (by decide) ?_
    exact v_zret F (Or.inl rfl) hw dX10_isWithin_40
  · rw [if_pos h] at hw
    refine v_iconst (v := 1) F dX10_isWithin_35 (by decide) ?_
    refine v_goto (tgt := 40) F dX10_isWithin_36 (by decide) ?_
    exact v_zret F (Or.inr rfl) hw dX10_isWithin_40
set_option maxRecDepth 100000 in
theorem sbX10_isWithin_5 {X : Cx} {D : Dx} (hR : X.2.2.2.1 = rmX10_isWithin) (F : Fx X D cX10_isWithin 5 RX10 (some .boolean) "isWithin") {Q : Int32 → Wd → Prop} : ∀ (n : Nat) (v0 : Nat) (v2 : Int32) (v3 : Int32) (v4 : Int32) (G : Wd), wpX10_isWithin_5 Q  n v0 v2 v3 v4 G → V X D 5 (ZM X D (QMi D Q) 0 0) G 0 0 5 [(0, .ref v0), (2, .int v2), (3, .int v3), (4, .int v4)] [] := by
  intro n
  induction n with
  | zero => intro v0 v2 v3 v4 G hw; exact hw.elim
  | succ n ih =>
    intro v0 v2 v3 v4 G hw
    simp only [wpX10_isWithin_5] at hw
    refine v_iload F dX10_isWithin_5 3 rfl ?_
    refine v_bipush (v := 8) F dX10_isWithin_7 (by decide) ?_
    refine v_icmp_ge (tgt := 30) F dX10_isWithin_9 (by decide) (fun h => ?_) (fun h => ?_)
    · rw [if_pos h] at hw
      exact v_loc [1, 2] rfl (sbX10_isWithin_30 hR F  hw)
    · rw [if_neg h] at hw
      refine v_iload_n F dX10_isWithin_12 rfl 2 rfl ?_
      refine v_iload_n F dX10_isWithin_13 rfl 1 rfl ?_
      refine v_icmp_le (tgt := 30) F dX10_isWithin_14 (by decide) (fun h => ?_) (fun h => ?_)
      · rw [if_pos h] at hw
        exact v_loc [1, 2] rfl (sbX10_isWithin_30 hR F  hw)
      · rw [if_neg h] at hw
        refine v_aload_n F dX10_isWithin_17 rfl 0 rfl ?_
        obtain ⟨kd1, hw⟩ := hw
        obtain ⟨b2, hr3, hw⟩ := hw
        refine v_getS F fl_X10_9 (fun _ => rfl) kd1 hr3 dX10_isWithin_18 ?_
        refine v_iload_n F dX10_isWithin_21 rfl 2 rfl ?_
        obtain ⟨kd4, hw⟩ := hw
        obtain ⟨hi5, hw⟩ := hw
        refine v_ialdE F rfl kd4 hi5 dX10_isWithin_22 ?_
        refine v_topi (fun x6 hx6 => ?_)
        have hw := hw x6 hx6
        refine v_istore_n (L' := [(3, .int x6), (0, .ref v0), (2, .int v2), (4, .int v4)]) F dX10_isWithin_23 rfl (by decide) rfl ?_
        refine v_iincN (c := 1) F dX10_isWithin_24 3 rfl (by decide) (by decide) (fun x7 hx7 => ?_)
        refine v_cast (L' := [(4, .int x7), (3, .int x6), (0, .ref v0), (2, .int v2)]) rfl rfl ?_
        have hw := hw x7 hx7
        refine v_goto (tgt := 5) F dX10_isWithin_27 (by decide) ?_
        exact v_loc [2, 3, 1, 0] rfl (ih _ _ _ _ _ hw)
set_option maxRecDepth 100000 in
theorem sX10_isWithin {l : Launch} {D : Dx} {a0 : Nat} {p1 : Int32} {p2 : Int32} {G : Wd} {Q : Int32 → Wd → Prop} (hw : wpX10_isWithin a0 p1 p2 G Q) : Met l yX10_isWithin (wM yX10_isWithin cX10_isWithin 5 (some .boolean)) rmX10_isWithin (PM D [.ref a0, .int p1, .int p2] G) (QMi D Q) 0 0 (Ab D) := by
  refine v_met (by decide) (Nat.le_of_ble_eq_true rfl) (fun X hl hR F => ?_)
  subst hl
  have F : Fx X D cX10_isWithin 5 RX10 (some .boolean) "isWithin" := F
  refine v_cast (L' := [(0, .ref a0), (1, .int p1), (2, .int p2)]) rfl rfl ?_
  unfold wpX10_isWithin at hw
  refine v_iload_n F dX10_isWithin_0 rfl 1 rfl ?_
  refine v_istore_n (L' := [(3, .int p1), (0, .ref a0), (1, .int p1), (2, .int p2)]) F dX10_isWithin_1 rfl (by decide) rfl ?_
  refine v_iconst (v := 0) F dX10_isWithin_2 (by decide) ?_
  refine v_istore (L' := [(4, .int 0), (3, .int p1), (0, .ref a0), (1, .int p1), (2, .int p2)]) F dX10_isWithin_3 (by decide) rfl ?_
  obtain ⟨m, hw⟩ := hw
  exact v_loc [2, 4, 1, 0] rfl (sbX10_isWithin_5 hR F  m _ _ _ _ _ hw)
set_option maxRecDepth 100000 in
theorem sX10_within {l : Launch} {D : Dx} {a0 : Nat} {p1 : Int32} {p2 : Int32} {G : Wd} {Q : Int64 → Wd → Prop} (hw : wpX10_within a0 p1 p2 G Q) : Met l yX10_within (wM yX10_within cX10_within 3 (some .long)) rmX10_within (PM D [.ref a0, .int p1, .int p2] G) (QMl D Q) 0 0 (Ab D) := by
  refine v_met (by decide) (Nat.le_of_ble_eq_true rfl) (fun X hl hR F => ?_)
  subst hl
  have F : Fx X D cX10_within 3 RX10 (some .long) "within" := F
  refine v_cast (L' := [(0, .ref a0), (1, .int p1), (2, .int p2)]) rfl rfl ?_
  unfold wpX10_within at hw
  refine v_iload_n F dX10_within_0 rfl 1 rfl ?_
  refine v_calli (r_S F ls_X10_82 (sX10_isPlace hw) (mkRm hR rfl rfl rfl rfl rfl rfl) rfl rfl (Nat.le_of_ble_eq_true rfl) dX10_within_1) (fun r1 G2 hw => ?_)
  refine v_if_eq (tgt := 14) F dX10_within_4 (by decide) (fun h => ?_) (fun h => ?_)
  · rw [if_pos h] at hw
    refine v_ldc2 (v := (-9000000000000000001)) F wd_337 dX10_within_14 ?_
    refine v_widen (c' := 0) (s' := 0) (by decide) (by decide) ?_
    exact v_lret F hw dX10_within_17
  · rw [if_neg h] at hw
    refine v_iload_n F dX10_within_7 rfl 2 rfl ?_
    refine v_calli (r_S F ls_X10_82 (sX10_isPlace hw) (mkRm hR rfl rfl rfl rfl rfl rfl) rfl rfl (Nat.le_of_ble_eq_true rfl) dX10_within_8) (fun r3 G4 hw => ?_)
    refine v_if_ne (tgt := 18) F dX10_within_11 (by decide) (fun h => ?_) (fun h => ?_)
    · rw [if_neg h] at hw
      refine v_aload_n F dX10_within_18 rfl 0 rfl ?_
      refine v_iload_n F dX10_within_19 rfl 1 rfl ?_
      refine v_iload_n F dX10_within_20 rfl 2 rfl ?_
      obtain ⟨kd5, hw⟩ := hw
      refine v_calli (r_V F lk_X10_86 kd5 (sX10_isWithin hw) (mkRm hR rfl rfl rfl rfl rfl rfl) rfl rfl (Nat.le_of_ble_eq_true rfl) dX10_within_21) (fun r6 G7 hw => ?_)
      refine v_if_eq (tgt := 31) F dX10_within_24 (by decide) (fun h => ?_) (fun h => ?_)
      · rw [if_pos h] at hw
        refine v_lconst (v := 0) F dX10_within_31 rfl ?_
        refine v_widen (c' := 0) (s' := 0) (by decide) (by decide) ?_
        exact v_lret F hw dX10_within_32
      · rw [if_neg h] at hw
        refine v_lconst (v := 1) F dX10_within_27 rfl ?_
        refine v_goto (tgt := 32) F dX10_within_28 (by decide) ?_
        refine v_widen (c' := 0) (s' := 0) (by decide) (by decide) ?_
        exact v_lret F hw dX10_within_32
    · rw [if_pos h] at hw
      refine v_ldc2 (v := (-9000000000000000001)) F wd_337 dX10_within_14 ?_
      refine v_widen (c' := 0) (s' := 0) (by decide) (by decide) ?_
      exact v_lret F hw dX10_within_17
set_option maxRecDepth 100000 in
theorem sX10_isKind {l : Launch} {D : Dx} {p0 : Int32} {G : Wd} {Q : Int32 → Wd → Prop} (hw : wpX10_isKind p0 G Q) : Met l yX10_isKind (wM yX10_isKind cX10_isKind 1 (some .boolean)) rmX10_isKind (PM D [.int p0] G) (QMi D Q) 0 0 (Ab D) := by
  refine v_met (by decide) (Nat.le_of_ble_eq_true rfl) (fun X hl hR F => ?_)
  subst hl
  have F : Fx X D cX10_isKind 1 RX10 (some .boolean) "isKind" := F
  refine v_cast (L' := [(0, .int p0)]) rfl rfl ?_
  unfold wpX10_isKind at hw
  refine v_iload_n F dX10_isKind_0 rfl 0 rfl ?_
  refine v_if_lt (tgt := 13) F dX10_isKind_1 (by decide) (fun h => ?_) (fun h => ?_)
  · rw [if_pos h] at hw
    refine v_iconst (v := 0) F dX10_isKind_13 (by decide) ?_
    exact v_zret F (Or.inl rfl) hw dX10_isKind_14
  · rw [if_neg h] at hw
    refine v_iload_n F dX10_isKind_4 rfl 0 rfl ?_
    refine v_iconst (v := 5) F dX10_isKind_5 (by decide) ?_
    refine v_icmp_ge (tgt := 13) F dX10_isKind_6 (by decide) (fun h => ?_) (fun h => ?_)
    · rw [if_pos h] at hw
      refine v_iconst (v := 0) F dX10_isKind_13 (by decide) ?_
      exact v_zret F (Or.inl rfl) hw dX10_isKind_14
    · rw [if_neg h] at hw
      refine v_iconst (v := 1) F dX10_isKind_9 (by decide) ?_
      refine v_goto (tgt := 14) F dX10_isKind_10 (by decide) ?_
      exact v_zret F (Or.inr rfl) hw dX10_isKind_14
set_option maxRecDepth 100000 in
theorem sX10_isPair {l : Launch} {D : Dx} {p0 : Int32} {G : Wd} {Q : Int32 → Wd → Prop} (hw : wpX10_isPair p0 G Q) : Met l yX10_isPair (wM yX10_isPair cX10_isPair 1 (some .boolean)) rmX10_isPair (PM D [.int p0] G) (QMi D Q) 0 0 (Ab D) := by
  refine v_met (by decide) (Nat.le_of_ble_eq_true rfl) (fun X hl hR F => ?_)
  subst hl
  have F : Fx X D cX10_isPair 1 RX10 (some .boolean) "isPair" := F
  refine v_cast (L' := [(0, .int p0)]) rfl rfl ?_
  unfold wpX10_isPair at hw
  refine v_iload_n F dX10_isPair_0 rfl 0 rfl ?_
  refine v_if_lt (tgt := 14) F dX10_isPair_1 (by decide) (fun h => ?_) (fun h => ?_)
  · rw [if_pos h] at hw
    refine v_iconst (v := 0) F dX10_isPair_14 (by decide) ?_
    exact v_zret F (Or.inl rfl) hw dX10_isPair_15
  · rw [if_neg h] at hw
    refine v_iload_n F dX10_isPair_4 rfl 0 rfl ?_
    refine v_bipush (v := 100) F dX10_isPair_5 (by decide) ?_
    refine v_icmp_ge (tgt := 14) F dX10_isPair_7 (by decide) (fun h => ?_) (fun h => ?_)
    · rw [if_pos h] at hw
      refine v_iconst (v := 0) F dX10_isPair_14 (by decide) ?_
      exact v_zret F (Or.inl rfl) hw dX10_isPair_15
    · rw [if_neg h] at hw
      refine v_iconst (v := 1) F dX10_isPair_10 (by decide) ?_
      refine v_goto (tgt := 15) F dX10_isPair_11 (by decide) ?_
      exact v_zret F (Or.inr rfl) hw dX10_isPair_15
set_option maxRecDepth 100000 in
theorem sX10_isTerm {l : Launch} {D : Dx} {p0 : Int32} {G : Wd} {Q : Int32 → Wd → Prop} (hw : wpX10_isTerm p0 G Q) : Met l yX10_isTerm (wM yX10_isTerm cX10_isTerm 1 (some .boolean)) rmX10_isTerm (PM D [.int p0] G) (QMi D Q) 0 0 (Ab D) := by
  refine v_met (by decide) (Nat.le_of_ble_eq_true rfl) (fun X hl hR F => ?_)
  subst hl
  have F : Fx X D cX10_isTerm 1 RX10 (some .boolean) "isTerm" := F
  refine v_cast (L' := [(0, .int p0)]) rfl rfl ?_
  unfold wpX10_isTerm at hw
  refine v_iload_n F dX10_isTerm_0 rfl 0 rfl ?_
  refine v_iconst (v := 1) F dX10_isTerm_1 (by decide) ?_
  refine v_icmp_lt (tgt := 16) F dX10_isTerm_2 (by decide) (fun h => ?_) (fun h => ?_)
  · rw [if_pos h] at hw
    refine v_iconst (v := 0) F dX10_isTerm_16 (by decide) ?_
    exact v_zret F (Or.inl rfl) hw dX10_isTerm_17
  · rw [if_neg h] at hw
    refine v_iload_n F dX10_isTerm_5 rfl 0 rfl ?_
    refine v_sipush (v := 1000) F dX10_isTerm_6 (by decide) ?_
    refine v_icmp_gt (tgt := 16) F dX10_isTerm_9 (by decide) (fun h => ?_) (fun h => ?_)
    · rw [if_pos h] at hw
      refine v_iconst (v := 0) F dX10_isTerm_16 (by decide) ?_
      exact v_zret F (Or.inl rfl) hw dX10_isTerm_17
    · rw [if_neg h] at hw
      refine v_iconst (v := 1) F dX10_isTerm_12 (by decide) ?_
      refine v_goto (tgt := 17) F dX10_isTerm_13 (by decide) ?_
      exact v_zret F (Or.inr rfl) hw dX10_isTerm_17
set_option maxRecDepth 100000 in
theorem sX10_likeness {l : Launch} {D : Dx} {a0 : Nat} {p1 : Int32} {p2 : Int32} {p3 : Int32} {p4 : Int32} {G : Wd} {Q : Int64 → Wd → Prop} (hw : wpX10_likeness a0 p1 p2 p3 p4 G Q) : Met l yX10_likeness (wM yX10_likeness cX10_likeness 5 (some .long)) rmX10_likeness (PM D [.ref a0, .int p1, .int p2, .int p3, .int p4] G) (QMl D Q) 3 20 (Ab D) := by
  refine v_met (by decide) (Nat.le_of_ble_eq_true rfl) (fun X hl hR F => ?_)
  subst hl
  have F : Fx X D cX10_likeness 5 RX10 (some .long) "likeness" := F
  refine v_cast (L' := [(0, .ref a0), (1, .int p1), (2, .int p2), (3, .int p3), (4, .int p4)]) rfl rfl ?_
  unfold wpX10_likeness at hw
  refine v_iload_n F dX10_likeness_0 rfl 1 rfl ?_
  refine v_calli (r_S F ls_X10_90 (sX10_isKind hw) (mkRm hR rfl rfl rfl rfl rfl rfl) rfl rfl (Nat.le_of_ble_eq_true rfl) dX10_likeness_1) (fun r1 G2 hw => ?_)
  refine v_if_eq (tgt := 29) F dX10_likeness_4 (by decide) (fun h => ?_) (fun h => ?_)
  · rw [if_pos h] at hw
    refine v_ldc2 (v := (-9000000000000000001)) F wd_337 dX10_likeness_29 ?_
    refine v_widen (c' := 3) (s' := 20) (by decide) (by decide) ?_
    exact v_lret F hw dX10_likeness_32
  · rw [if_neg h] at hw
    refine v_iload_n F dX10_likeness_7 rfl 2 rfl ?_
    refine v_calli (r_S F ls_X10_93 (sX10_isPair hw) (mkRm hR rfl rfl rfl rfl rfl rfl) rfl rfl (Nat.le_of_ble_eq_true rfl) dX10_likeness_8) (fun r3 G4 hw => ?_)
    refine v_if_eq (tgt := 29) F dX10_likeness_11 (by decide) (fun h => ?_) (fun h => ?_)
    · rw [if_pos h] at hw
      refine v_ldc2 (v := (-9000000000000000001)) F wd_337 dX10_likeness_29 ?_
      refine v_widen (c' := 3) (s' := 20) (by decide) (by decide) ?_
      exact v_lret F hw dX10_likeness_32
    · rw [if_neg h] at hw
      refine v_iload_n F dX10_likeness_14 rfl 3 rfl ?_
      refine v_calli (r_S F ls_X10_96 (sX10_isTerm hw) (mkRm hR rfl rfl rfl rfl rfl rfl) rfl rfl (Nat.le_of_ble_eq_true rfl) dX10_likeness_15) (fun r5 G6 hw => ?_)
      refine v_if_eq (tgt := 29) F dX10_likeness_18 (by decide) (fun h => ?_) (fun h => ?_)
      · rw [if_pos h] at hw
        refine v_ldc2 (v := (-9000000000000000001)) F wd_337 dX10_likeness_29 ?_
        refine v_widen (c' := 3) (s' := 20) (by decide) (by decide) ?_
        exact v_lret F hw dX10_likeness_32
      · rw [if_neg h] at hw
        refine v_iload F dX10_likeness_21 4 rfl ?_
        refine v_calli (r_S F ls_X10_96 (sX10_isTerm hw) (mkRm hR rfl rfl rfl rfl rfl rfl) rfl rfl (Nat.le_of_ble_eq_true rfl) dX10_likeness_23) (fun r7 G8 hw => ?_)
        refine v_if_ne (tgt := 33) F dX10_likeness_26 (by decide) (fun h => ?_) (fun h => ?_)
        · rw [if_neg h] at hw
          refine v_aload_n F dX10_likeness_33 rfl 0 rfl ?_
          obtain ⟨kd9, hw⟩ := hw
          refine v_get F fl_X10_99 kd9 rfl dX10_likeness_34 ?_
          refine v_bipush (v := 24) F dX10_likeness_37 (by decide) ?_
          refine v_icmp_lt (tgt := 46) F dX10_likeness_39 (by decide) (fun h => ?_) (fun h => ?_)
          · rw [if_pos h] at hw
            refine v_aload_n F dX10_likeness_46 rfl 0 rfl ?_
            obtain ⟨b10, hr11, hw⟩ := hw
            refine v_getS F fl_X10_15 (fun _ => rfl) kd9 hr11 dX10_likeness_47 ?_
            refine v_aload_n F dX10_likeness_50 rfl 0 rfl ?_
            refine v_get F fl_X10_99 kd9 rfl dX10_likeness_51 ?_
            refine v_new (ci := 4) F rfl rfl wd_88 wd_363 wd_75 (by rw [hR]; exact Nat.le_of_ble_eq_true rfl) (by rw [hR]; exact Nat.le_of_ble_eq_true rfl) dX10_likeness_54 ?_
            generalize hz13 : gZ G8 = z13
            refine v_nmG (fun G12 hG12 => ?_)
            have hw := hw z13 G12 hz13.symm hG12
            refine v_dup F dX10_likeness_57 rfl ?_
            refine v_aload_n F dX10_likeness_58 rfl 0 rfl ?_
            obtain ⟨kd14, hw⟩ := hw
            refine v_get F fl_X10_99 kd14 rfl dX10_likeness_59 ?_
            refine v_iload_n F dX10_likeness_62 rfl 1 rfl ?_
            refine v_iload_n F dX10_likeness_63 rfl 2 rfl ?_
            refine v_iload_n F dX10_likeness_64 rfl 3 rfl ?_
            refine v_iload F dX10_likeness_65 4 rfl ?_
            refine v_callv (r_I F li_X10_105 (sX5_init hw) (mkRm hR rfl rfl rfl rfl rfl rfl) rfl rfl (Nat.le_of_ble_eq_true rfl) dX10_likeness_67) (fun G16 hw => ?_)
            obtain ⟨kd17, hw⟩ := hw
            obtain ⟨kd20, hw⟩ := hw
            obtain ⟨hi18, hw⟩ := hw
            refine v_aastE (t := 5) (ci := 4) F rfl rfl rfl kd17 kd20 hi18 dX10_likeness_70 (fun G19 hG19 => ?_)
            have hw := hw G19 hG19
            refine v_aload_n F dX10_likeness_71 rfl 0 rfl ?_
            refine v_dup F dX10_likeness_72 rfl ?_
            obtain ⟨kd21, hw⟩ := hw
            refine v_get F fl_X10_99 kd21 rfl dX10_likeness_73 ?_
            refine v_dup_x1 F dX10_likeness_76 rfl rfl ?_
            refine v_iconst (v := 1) F dX10_likeness_77 (by decide) ?_
            refine v_iadd F dX10_likeness_78 ?_
            refine v_putI F fl_X10_99 (fun h => absurd h (by decide)) rfl kd21 dX10_likeness_79 ?_
            refine v_nmG (fun G22 hG22 => ?_)
            have hw := hw G22 hG22
            refine v_i2l F dX10_likeness_82 ?_
            refine v_widen (c' := 3) (s' := 20) (by decide) (by decide) ?_
            exact v_lret F hw dX10_likeness_83
          · rw [if_neg h] at hw
            refine v_ldc2 (v := (-9000000000000000003)) F wd_362 dX10_likeness_42 ?_
            refine v_widen (c' := 3) (s' := 20) (by decide) (by decide) ?_
            exact v_lret F hw dX10_likeness_45
        · rw [if_pos h] at hw
          refine v_ldc2 (v := (-9000000000000000001)) F wd_337 dX10_likeness_29 ?_
          refine v_widen (c' := 3) (s' := 20) (by decide) (by decide) ?_
          exact v_lret F hw dX10_likeness_32
set_option maxRecDepth 100000 in
theorem sX10_find {l : Launch} {D : Dx} {a0 : Nat} {p1 : Int32} {G : Wd} {Q : Option Nat → Wd → Prop} (hw : wpX10_find a0 p1 G Q) : Met l yX10_find (wM yX10_find cX10_find 2 (some (.object "OldReckoner$Likeness"))) rmX10_find (PM D [.ref a0, .int p1] G) (QMq D Q) 0 0 (Ab D) := by
  refine v_met (by decide) (Nat.le_of_ble_eq_true rfl) (fun X hl hR F => ?_)
  subst hl
  have F : Fx X D cX10_find 2 RX10 (some (.object "OldReckoner$Likeness")) "find" := F
  refine v_cast (L' := [(0, .ref a0), (1, .int p1)]) rfl rfl ?_
  unfold wpX10_find at hw
  refine v_iload_n F dX10_find_0 rfl 1 rfl ?_
  refine v_if_lt (tgt := 21) F dX10_find_1 (by decide) (fun h => ?_) (fun h => ?_)
  · rw [if_pos h] at hw
    refine v_null F dX10_find_21 ?_
    exact v_qret F hw dX10_find_22
  · rw [if_neg h] at hw
    refine v_iload_n F dX10_find_4 rfl 1 rfl ?_
    refine v_aload_n F dX10_find_5 rfl 0 rfl ?_
    obtain ⟨kd1, hw⟩ := hw
    refine v_get F fl_X10_99 kd1 rfl dX10_find_6 ?_
    refine v_icmp_ge (tgt := 21) F dX10_find_9 (by decide) (fun h => ?_) (fun h => ?_)
    · rw [if_pos h] at hw
      refine v_null F dX10_find_21 ?_
      exact v_qret F hw dX10_find_22
    · rw [if_neg h] at hw
      refine v_aload_n F dX10_find_12 rfl 0 rfl ?_
      obtain ⟨b2, hr3, hw⟩ := hw
      refine v_getS F fl_X10_15 (fun _ => rfl) kd1 hr3 dX10_find_13 ?_
      refine v_iload_n F dX10_find_16 rfl 1 rfl ?_
      obtain ⟨kd4, hw⟩ := hw
      obtain ⟨hi5, hw⟩ := hw
      refine v_aaldE (t := 5) F rfl rfl kd4 hi5 dX10_find_17 (fun r6 hr6 => ?_)
      have hw := hw r6 hr6
      clear hr6
      refine v_goto (tgt := 22) F dX10_find_18 (by decide) ?_
      exact v_qret F hw dX10_find_22
set_option maxRecDepth 100000 in
theorem sX10_isDay {l : Launch} {D : Dx} {p0 : Int32} {G : Wd} {Q : Int32 → Wd → Prop} (hw : wpX10_isDay p0 G Q) : Met l yX10_isDay (wM yX10_isDay cX10_isDay 1 (some .boolean)) rmX10_isDay (PM D [.int p0] G) (QMi D Q) 0 0 (Ab D) := by
  refine v_met (by decide) (Nat.le_of_ble_eq_true rfl) (fun X hl hR F => ?_)
  subst hl
  have F : Fx X D cX10_isDay 1 RX10 (some .boolean) "isDay" := F
  refine v_cast (L' := [(0, .int p0)]) rfl rfl ?_
  unfold wpX10_isDay at hw
  refine v_iload_n F dX10_isDay_0 rfl 0 rfl ?_
  refine v_if_lt (tgt := 15) F dX10_isDay_1 (by decide) (fun h => ?_) (fun h => ?_)
  · rw [if_pos h] at hw
    refine v_iconst (v := 0) F dX10_isDay_15 (by decide) ?_
    exact v_zret F (Or.inl rfl) hw dX10_isDay_16
  · rw [if_neg h] at hw
    refine v_iload_n F dX10_isDay_4 rfl 0 rfl ?_
    refine v_sipush (v := 10000) F dX10_isDay_5 (by decide) ?_
    refine v_icmp_ge (tgt := 15) F dX10_isDay_8 (by decide) (fun h => ?_) (fun h => ?_)
    · rw [if_pos h] at hw
      refine v_iconst (v := 0) F dX10_isDay_15 (by decide) ?_
      exact v_zret F (Or.inl rfl) hw dX10_isDay_16
    · rw [if_neg h] at hw
      refine v_iconst (v := 1) F dX10_isDay_11 (by decide) ?_
      refine v_goto (tgt := 16) F dX10_isDay_12 (by decide) ?_
      exact v_zret F (Or.inr rfl) hw dX10_isDay_16
set_option maxRecDepth 100000 in
theorem sX10_holds {l : Launch} {D : Dx} {a0 : Nat} {p1 : Int32} {p2 : Int32} {p3 : Int32} {p4 : Int32} {G : Wd} {Q : Int64 → Wd → Prop} (hw : wpX10_holds a0 p1 p2 p3 p4 G Q) : Met l yX10_holds (wM yX10_holds cX10_holds 6 (some .long)) rmX10_holds (PM D [.ref a0, .int p1, .int p2, .int p3, .int p4] G) (QMl D Q) 0 0 (Ab D) := by
  refine v_met (by decide) (Nat.le_of_ble_eq_true rfl) (fun X hl hR F => ?_)
  subst hl
  have F : Fx X D cX10_holds 6 RX10 (some .long) "holds" := F
  refine v_cast (L' := [(0, .ref a0), (1, .int p1), (2, .int p2), (3, .int p3), (4, .int p4)]) rfl rfl ?_
  unfold wpX10_holds at hw
  refine v_aload_n F dX10_holds_0 rfl 0 rfl ?_
  refine v_iload_n F dX10_holds_1 rfl 1 rfl ?_
  obtain ⟨kd1, hw⟩ := hw
  refine v_callq (r_V F lk_X10_108 kd1 (sX10_find hw) (mkRm hR rfl rfl rfl rfl rfl rfl) rfl rfl (Nat.le_of_ble_eq_true rfl) dX10_holds_2) (fun r2 G3 hw => ?_)
  refine v_qstore (L' := [(5, va_rf r2), (0, .ref a0), (1, .int p1), (2, .int p2), (3, .int p3), (4, .int p4)]) F dX10_holds_5 (by decide) rfl ?_
  refine v_qload F dX10_holds_7 0 rfl ?_
  refine v_ifnull (tgt := 40) F dX10_holds_9 (by decide) (fun hr => ?_) (fun b4 hr => ?_)
  · subst hr
    dsimp only at hw
    refine v_ldc2 (v := (-9000000000000000001)) F wd_337 dX10_holds_40 ?_
    refine v_widen (c' := 0) (s' := 0) (by decide) (by decide) ?_
    exact v_lret F hw dX10_holds_43
  · subst hr
    dsimp only at hw
    refine v_iload_n F dX10_holds_12 rfl 3 rfl ?_
    refine v_calli (r_S F ls_X10_82 (sX10_isPlace hw) (mkRm hR rfl rfl rfl rfl rfl rfl) rfl rfl (Nat.le_of_ble_eq_true rfl) dX10_holds_13) (fun r5 G6 hw => ?_)
    refine v_if_eq (tgt := 40) F dX10_holds_16 (by decide) (fun h => ?_) (fun h => ?_)
    · rw [if_pos h] at hw
      refine v_ldc2 (v := (-9000000000000000001)) F wd_337 dX10_holds_40 ?_
      refine v_widen (c' := 0) (s' := 0) (by decide) (by decide) ?_
      exact v_lret F hw dX10_holds_43
    · rw [if_neg h] at hw
      refine v_iload_n F dX10_holds_19 rfl 4 rfl ?_
      refine v_calli (r_S F ls_X10_112 (sX10_isDay hw) (mkRm hR rfl rfl rfl rfl rfl rfl) rfl rfl (Nat.le_of_ble_eq_true rfl) dX10_holds_20) (fun r7 G8 hw => ?_)
      refine v_if_eq (tgt := 40) F dX10_holds_23 (by decide) (fun h => ?_) (fun h => ?_)
      · rw [if_pos h] at hw
        refine v_ldc2 (v := (-9000000000000000001)) F wd_337 dX10_holds_40 ?_
        refine v_widen (c' := 0) (s' := 0) (by decide) (by decide) ?_
        exact v_lret F hw dX10_holds_43
      · rw [if_neg h] at hw
        refine v_iload F dX10_holds_26 5 rfl ?_
        refine v_calli (r_S F ls_X10_112 (sX10_isDay hw) (mkRm hR rfl rfl rfl rfl rfl rfl) rfl rfl (Nat.le_of_ble_eq_true rfl) dX10_holds_28) (fun r9 G10 hw => ?_)
        refine v_if_eq (tgt := 40) F dX10_holds_31 (by decide) (fun h => ?_) (fun h => ?_)
        · rw [if_pos h] at hw
          refine v_ldc2 (v := (-9000000000000000001)) F wd_337 dX10_holds_40 ?_
          refine v_widen (c' := 0) (s' := 0) (by decide) (by decide) ?_
          exact v_lret F hw dX10_holds_43
        · rw [if_neg h] at hw
          refine v_iload_n F dX10_holds_34 rfl 4 rfl ?_
          refine v_iload F dX10_holds_35 5 rfl ?_
          refine v_icmp_le (tgt := 44) F dX10_holds_37 (by decide) (fun h => ?_) (fun h => ?_)
          · rw [if_pos h] at hw
            refine v_aload F dX10_holds_44 0 rfl ?_
            refine v_iload_n F dX10_holds_46 rfl 3 rfl ?_
            obtain ⟨kd11, hw⟩ := hw
            refine v_putI F fl_X10_115 (fun h => absurd h (by decide)) rfl kd11 dX10_holds_47 ?_
            refine v_nmG (fun G12 hG12 => ?_)
            have hw := hw G12 hG12
            refine v_aload F dX10_holds_50 0 rfl ?_
            refine v_iload_n F dX10_holds_52 rfl 4 rfl ?_
            have kd13 : gK G12 b4 = 5 := by rw [hG12]; exact kd11
            refine v_putI F fl_X10_118 (fun h => absurd h (by decide)) rfl kd13 dX10_holds_53 ?_
            refine v_nmG (fun G14 hG14 => ?_)
            have hw := hw G14 hG14
            refine v_aload F dX10_holds_56 0 rfl ?_
            refine v_iload F dX10_holds_58 5 rfl ?_
            have kd15 : gK G14 b4 = 5 := by rw [hG14]; exact kd13
            refine v_putI F fl_X10_121 (fun h => absurd h (by decide)) rfl kd15 dX10_holds_60 ?_
            refine v_nmG (fun G16 hG16 => ?_)
            have hw := hw G16 hG16
            refine v_lconst (v := 0) F dX10_holds_63 rfl ?_
            refine v_widen (c' := 0) (s' := 0) (by decide) (by decide) ?_
            exact v_lret F hw dX10_holds_64
          · rw [if_neg h] at hw
            refine v_ldc2 (v := (-9000000000000000001)) F wd_337 dX10_holds_40 ?_
            refine v_widen (c' := 0) (s' := 0) (by decide) (by decide) ?_
            exact v_lret F hw dX10_holds_43
set_option maxRecDepth 100000 in
theorem sX10_doubt {l : Launch} {D : Dx} {a0 : Nat} {p1 : Int32} {p2 : Int32} {p3 : Int32} {G : Wd} {Q : Int64 → Wd → Prop} (hw : wpX10_doubt a0 p1 p2 p3 G Q) : Met l yX10_doubt (wM yX10_doubt cX10_doubt 5 (some .long)) rmX10_doubt (PM D [.ref a0, .int p1, .int p2, .int p3] G) (QMl D Q) 0 0 (Ab D) := by
  refine v_met (by decide) (Nat.le_of_ble_eq_true rfl) (fun X hl hR F => ?_)
  subst hl
  have F : Fx X D cX10_doubt 5 RX10 (some .long) "doubt" := F
  refine v_cast (L' := [(0, .ref a0), (1, .int p1), (2, .int p2), (3, .int p3)]) rfl rfl ?_
  unfold wpX10_doubt at hw
  refine v_aload_n F dX10_doubt_0 rfl 0 rfl ?_
  refine v_iload_n F dX10_doubt_1 rfl 1 rfl ?_
  obtain ⟨kd1, hw⟩ := hw
  refine v_callq (r_V F lk_X10_108 kd1 (sX10_find hw) (mkRm hR rfl rfl rfl rfl rfl rfl) rfl rfl (Nat.le_of_ble_eq_true rfl) dX10_doubt_2) (fun r2 G3 hw => ?_)
  refine v_qstore (L' := [(4, va_rf r2), (0, .ref a0), (1, .int p1), (2, .int p2), (3, .int p3)]) F dX10_doubt_5 (by decide) rfl ?_
  refine v_qload F dX10_doubt_7 0 rfl ?_
  refine v_ifnull (tgt := 33) F dX10_doubt_9 (by decide) (fun hr => ?_) (fun b4 hr => ?_)
  · subst hr
    dsimp only at hw
    refine v_ldc2 (v := (-9000000000000000001)) F wd_337 dX10_doubt_33 ?_
    refine v_widen (c' := 0) (s' := 0) (by decide) (by decide) ?_
    exact v_lret F hw dX10_doubt_36
  · subst hr
    dsimp only at hw
    refine v_iload_n F dX10_doubt_12 rfl 3 rfl ?_
    refine v_if_lt (tgt := 33) F dX10_doubt_13 (by decide) (fun h => ?_) (fun h => ?_)
    · rw [if_pos h] at hw
      refine v_ldc2 (v := (-9000000000000000001)) F wd_337 dX10_doubt_33 ?_
      refine v_widen (c' := 0) (s' := 0) (by decide) (by decide) ?_
      exact v_lret F hw dX10_doubt_36
    · rw [if_neg h] at hw
      refine v_iload_n F dX10_doubt_16 rfl 3 rfl ?_
      refine v_bipush (v := 100) F dX10_doubt_17 (by decide) ?_
      refine v_icmp_gt (tgt := 33) F dX10_doubt_19 (by decide) (fun h => ?_) (fun h => ?_)
      · rw [if_pos h] at hw
        refine v_ldc2 (v := (-9000000000000000001)) F wd_337 dX10_doubt_33 ?_
        refine v_widen (c' := 0) (s' := 0) (by decide) (by decide) ?_
        exact v_lret F hw dX10_doubt_36
      · rw [if_neg h] at hw
        refine v_iload_n F dX10_doubt_22 rfl 4 rfl ?_
        refine v_if_lt (tgt := 33) F dX10_doubt_23 (by decide) (fun h => ?_) (fun h => ?_)
        · rw [if_pos h] at hw
          refine v_ldc2 (v := (-9000000000000000001)) F wd_337 dX10_doubt_33 ?_
          refine v_widen (c' := 0) (s' := 0) (by decide) (by decide) ?_
          exact v_lret F hw dX10_doubt_36
        · rw [if_neg h] at hw
          refine v_iload_n F dX10_doubt_26 rfl 4 rfl ?_
          refine v_sipush (v := 500) F dX10_doubt_27 (by decide) ?_
          refine v_icmp_le (tgt := 37) F dX10_doubt_30 (by decide) (fun h => ?_) (fun h => ?_)
          · rw [if_pos h] at hw
            refine v_aload F dX10_doubt_37 0 rfl ?_
            refine v_iload_n F dX10_doubt_39 rfl 3 rfl ?_
            obtain ⟨kd5, hw⟩ := hw
            refine v_putI F fl_X10_124 (fun h => absurd h (by decide)) rfl kd5 dX10_doubt_40 ?_
            refine v_nmG (fun G6 hG6 => ?_)
            have hw := hw G6 hG6
            refine v_aload F dX10_doubt_43 0 rfl ?_
            refine v_iload_n F dX10_doubt_45 rfl 4 rfl ?_
            have kd7 : gK G6 b4 = 5 := by rw [hG6]; exact kd5
            refine v_putI F fl_X10_127 (fun h => absurd h (by decide)) rfl kd7 dX10_doubt_46 ?_
            refine v_nmG (fun G8 hG8 => ?_)
            have hw := hw G8 hG8
            refine v_aload F dX10_doubt_49 0 rfl ?_
            have kd9 : gK G8 b4 = 5 := by rw [hG8]; exact kd7
            refine v_callv (r_V F lk_X10_130 kd9 (sX5_reckonEnds hw) (mkRm hR rfl rfl rfl rfl rfl rfl) rfl rfl (Nat.le_of_ble_eq_true rfl) dX10_doubt_51) (fun G11 hw => ?_)
            refine v_lconst (v := 0) F dX10_doubt_54 rfl ?_
            refine v_widen (c' := 0) (s' := 0) (by decide) (by decide) ?_
            exact v_lret F hw dX10_doubt_55
          · rw [if_neg h] at hw
            refine v_ldc2 (v := (-9000000000000000001)) F wd_337 dX10_doubt_33 ?_
            refine v_widen (c' := 0) (s' := 0) (by decide) (by decide) ?_
            exact v_lret F hw dX10_doubt_36
set_option maxRecDepth 100000 in
theorem sbX10_drop_60 {X : Cx} {D : Dx} (hR : X.2.2.2.1 = rmX10_drop) (F : Fx X D cX10_drop 6 RX10 (some .long) "drop") {Q : Int64 → Wd → Prop} {v4 : Int64} {s0 : Nat} {s1 : Int32} {G : Wd} (hw : wpX10_drop_60 Q  v4 s0 s1 G) : V X D 6 (ZM X D (QMl D Q) 0 0) G 0 0 60 [(4, .long v4)] [.int s1, .ref s0] := by
  unfold wpX10_drop_60 at hw
  obtain ⟨kd1, hw⟩ := hw
  obtain ⟨hB3, hw⟩ := hw
  refine v_putZ F fl_X10_138 (fun h => absurd h (by decide)) rfl hB3 kd1 dX10_drop_60 ?_
  refine v_nmG (fun G2 hG2 => ?_)
  have hw := hw G2 hG2
  refine v_lload F dX10_drop_63 0 rfl ?_
  exact v_lret F hw dX10_drop_65
set_option maxRecDepth 100000 in
theorem sbX10_drop_47 {X : Cx} {D : Dx} (hR : X.2.2.2.1 = rmX10_drop) (F : Fx X D cX10_drop 6 RX10 (some .long) "drop") {Q : Int64 → Wd → Prop} {v2 : Int32} {v3 : Nat} {s0 : Int64} {G : Wd} (hw : wpX10_drop_47 Q  v2 v3 s0 G) : V X D 6 (ZM X D (QMl D Q) 0 0) G 0 0 47 [(2, .int v2), (3, .ref v3)] [.long s0] := by
  unfold wpX10_drop_47 at hw
  refine v_lstore (L' := [(4, .long s0), (2, .int v2), (3, .ref v3)]) F dX10_drop_47 (by decide) rfl ?_
  refine v_aload_n F dX10_drop_49 rfl 2 rfl ?_
  refine v_iload_n F dX10_drop_50 rfl 1 rfl ?_
  refine v_iconst (v := 1) F dX10_drop_51 (by decide) ?_
  refine v_icmp_ne (tgt := 59) F dX10_drop_52 (by decide) (fun h => ?_) (fun h => ?_)
  · rw [if_neg h] at hw
    refine v_iconst (v := 0) F dX10_drop_59 (by decide) ?_
    exact v_loc [0] rfl (sbX10_drop_60 hR F  hw)
  · rw [if_pos h] at hw
    refine v_iconst (v := 1) F dX10_drop_55 (by decide) ?_
    refine v_goto (tgt := 60) F dX10_drop_56 (by decide) ?_
    exact v_loc [0] rfl (sbX10_drop_60 hR F  hw)
set_option maxRecDepth 100000 in
theorem sX10_drop {l : Launch} {D : Dx} {a0 : Nat} {p1 : Int32} {p2 : Int32} {G : Wd} {Q : Int64 → Wd → Prop} (hw : wpX10_drop a0 p1 p2 G Q) : Met l yX10_drop (wM yX10_drop cX10_drop 6 (some .long)) rmX10_drop (PM D [.ref a0, .int p1, .int p2] G) (QMl D Q) 0 0 (Ab D) := by
  refine v_met (by decide) (Nat.le_of_ble_eq_true rfl) (fun X hl hR F => ?_)
  subst hl
  have F : Fx X D cX10_drop 6 RX10 (some .long) "drop" := F
  refine v_cast (L' := [(0, .ref a0), (1, .int p1), (2, .int p2)]) rfl rfl ?_
  unfold wpX10_drop at hw
  refine v_aload_n F dX10_drop_0 rfl 0 rfl ?_
  refine v_iload_n F dX10_drop_1 rfl 1 rfl ?_
  obtain ⟨kd4, hw⟩ := hw
  refine v_callq (r_V F lk_X10_108 kd4 (sX10_find hw) (mkRm hR rfl rfl rfl rfl rfl rfl) rfl rfl (Nat.le_of_ble_eq_true rfl) dX10_drop_2) (fun r5 G6 hw => ?_)
  refine v_qstore_n (L' := [(3, va_rf r5), (0, .ref a0), (1, .int p1), (2, .int p2)]) F dX10_drop_5 rfl (by decide) rfl ?_
  refine v_qload_n F dX10_drop_6 rfl 0 rfl ?_
  refine v_ifnull (tgt := 19) F dX10_drop_7 (by decide) (fun hr => ?_) (fun b7 hr => ?_)
  · subst hr
    dsimp only at hw
    refine v_ldc2 (v := (-9000000000000000001)) F wd_337 dX10_drop_19 ?_
    refine v_widen (c' := 0) (s' := 0) (by decide) (by decide) ?_
    exact v_lret F hw dX10_drop_22
  · subst hr
    dsimp only at hw
    refine v_iload_n F dX10_drop_10 rfl 3 rfl ?_
    refine v_if_lt (tgt := 19) F dX10_drop_11 (by decide) (fun h => ?_) (fun h => ?_)
    · rw [if_pos h] at hw
      refine v_ldc2 (v := (-9000000000000000001)) F wd_337 dX10_drop_19 ?_
      refine v_widen (c' := 0) (s' := 0) (by decide) (by decide) ?_
      exact v_lret F hw dX10_drop_22
    · rw [if_neg h] at hw
      refine v_iload_n F dX10_drop_14 rfl 3 rfl ?_
      refine v_iconst (v := 1) F dX10_drop_15 (by decide) ?_
      refine v_icmp_le (tgt := 23) F dX10_drop_16 (by decide) (fun h => ?_) (fun h => ?_)
      · rw [if_pos h] at hw
        refine v_aload_n F dX10_drop_23 rfl 0 rfl ?_
        refine v_iconst (v := 2) F dX10_drop_24 (by decide) ?_
        obtain ⟨kd8, hw⟩ := hw
        refine v_calli (r_V F lk_X10_133 kd8 (sX5_is hw) (mkRm hR rfl rfl rfl rfl rfl rfl) rfl rfl (Nat.le_of_ble_eq_true rfl) dX10_drop_25) (fun r9 G10 hw => ?_)
        refine v_if_ne (tgt := 35) F dX10_drop_28 (by decide) (fun h => ?_) (fun h => ?_)
        · rw [if_neg h] at hw
          refine v_aload_n F dX10_drop_35 rfl 0 rfl ?_
          obtain ⟨kd11, hw⟩ := hw
          refine v_get F fl_X10_138 kd11 rfl dX10_drop_36 ?_
          refine v_if_eq (tgt := 46) F dX10_drop_39 (by decide) (fun h => ?_) (fun h => ?_)
          · rw [if_pos h] at hw
            refine v_lconst (v := 0) F dX10_drop_46 rfl ?_
            exact v_loc [3, 0] rfl (sbX10_drop_47 hR F  hw)
          · rw [if_neg h] at hw
            refine v_lconst (v := 1) F dX10_drop_42 rfl ?_
            refine v_goto (tgt := 47) F dX10_drop_43 (by decide) ?_
            exact v_loc [3, 0] rfl (sbX10_drop_47 hR F  hw)
        · rw [if_pos h] at hw
          refine v_ldc2 (v := (-9000000000000000002)) F wd_463 dX10_drop_31 ?_
          refine v_widen (c' := 0) (s' := 0) (by decide) (by decide) ?_
          exact v_lret F hw dX10_drop_34
      · rw [if_neg h] at hw
        refine v_ldc2 (v := (-9000000000000000001)) F wd_337 dX10_drop_19 ?_
        refine v_widen (c' := 0) (s' := 0) (by decide) (by decide) ?_
        exact v_lret F hw dX10_drop_22
set_option maxRecDepth 100000 in
theorem sX10_forget {l : Launch} {D : Dx} {a0 : Nat} {G : Wd} {Q : Int64 → Wd → Prop} (hw : wpX10_forget a0 G Q) : Met l yX10_forget (wM yX10_forget cX10_forget 1 (some .long)) rmX10_forget (PM D [.ref a0] G) (QMl D Q) 0 0 (Ab D) := by
  refine v_met (by decide) (Nat.le_of_ble_eq_true rfl) (fun X hl hR F => ?_)
  subst hl
  have F : Fx X D cX10_forget 1 RX10 (some .long) "forget" := F
  refine v_cast (L' := [(0, .ref a0)]) rfl rfl ?_
  unfold wpX10_forget at hw
  refine v_aload_n F dX10_forget_0 rfl 0 rfl ?_
  obtain ⟨kd1, hw⟩ := hw
  refine v_get F fl_X10_99 kd1 rfl dX10_forget_1 ?_
  refine v_if_ne (tgt := 11) F dX10_forget_4 (by decide) (fun h => ?_) (fun h => ?_)
  · rw [if_neg h] at hw
    refine v_aload_n F dX10_forget_11 rfl 0 rfl ?_
    refine v_dup F dX10_forget_12 rfl ?_
    refine v_get F fl_X10_99 kd1 rfl dX10_forget_13 ?_
    refine v_iconst (v := 1) F dX10_forget_16 (by decide) ?_
    refine v_isub F dX10_forget_17 ?_
    refine v_putI F fl_X10_99 (fun h => absurd h (by decide)) rfl kd1 dX10_forget_18 ?_
    refine v_nmG (fun G2 hG2 => ?_)
    have hw := hw G2 hG2
    refine v_aload_n F dX10_forget_21 rfl 0 rfl ?_
    have kd3 : gK G2 a0 = 10 := by rw [hG2]; exact kd1
    obtain ⟨b4, hr5, hw⟩ := hw
    refine v_getS F fl_X10_15 (fun _ => rfl) kd3 hr5 dX10_forget_22 ?_
    refine v_aload_n F dX10_forget_25 rfl 0 rfl ?_
    refine v_get F fl_X10_99 kd3 rfl dX10_forget_26 ?_
    refine v_null F dX10_forget_29 ?_
    obtain ⟨kd6, hw⟩ := hw
    obtain ⟨hi7, hw⟩ := hw
    refine v_aastNE (t := 5) F rfl rfl kd6 hi7 dX10_forget_30 (fun G8 hG8 => ?_)
    have hw := hw G8 hG8
    refine v_aload_n F dX10_forget_31 rfl 0 rfl ?_
    have kd9 : gK G8 a0 = 10 := by rw [hG8]; exact kd3
    refine v_get F fl_X10_99 kd9 rfl dX10_forget_32 ?_
    refine v_i2l F dX10_forget_35 ?_
    exact v_lret F hw dX10_forget_36
  · rw [if_pos h] at hw
    refine v_ldc2 (v := (-9000000000000000002)) F wd_463 dX10_forget_7 ?_
    exact v_lret F hw dX10_forget_10
set_option maxRecDepth 100000 in
theorem sX10_told {l : Launch} {D : Dx} {a0 : Nat} {p1 : Int32} {p2 : Int32} {G : Wd} {Q : Int64 → Wd → Prop} (hw : wpX10_told a0 p1 p2 G Q) : Met l yX10_told (wM yX10_told cX10_told 4 (some .long)) rmX10_told (PM D [.ref a0, .int p1, .int p2] G) (QMl D Q) 0 0 (Ab D) := by
  refine v_met (by decide) (Nat.le_of_ble_eq_true rfl) (fun X hl hR F => ?_)
  subst hl
  have F : Fx X D cX10_told 4 RX10 (some .long) "told" := F
  refine v_cast (L' := [(0, .ref a0), (1, .int p1), (2, .int p2)]) rfl rfl ?_
  unfold wpX10_told at hw
  refine v_aload_n F dX10_told_0 rfl 0 rfl ?_
  refine v_iload_n F dX10_told_1 rfl 1 rfl ?_
  obtain ⟨kd1, hw⟩ := hw
  refine v_callq (r_V F lk_X10_108 kd1 (sX10_find hw) (mkRm hR rfl rfl rfl rfl rfl rfl) rfl rfl (Nat.le_of_ble_eq_true rfl) dX10_told_2) (fun r2 G3 hw => ?_)
  refine v_qstore_n (L' := [(3, va_rf r2), (0, .ref a0), (1, .int p1), (2, .int p2)]) F dX10_told_5 rfl (by decide) rfl ?_
  refine v_qload_n F dX10_told_6 rfl 0 rfl ?_
  refine v_ifnonnull (tgt := 14) F dX10_told_7 (by decide) (fun b4 hr => ?_) (fun hr => ?_)
  · subst hr
    dsimp only at hw
    refine v_iload_n F dX10_told_14 rfl 3 rfl ?_
    by_cases hc0 : p2 = 0
    · rw [if_pos hc0] at hw
      refine v_tableInE (c := 0) (tgt := 72) F hc0 dX10_told_15 (by decide) (by decide) rfl (by decide) ?_
      refine v_aload_n F dX10_told_72 rfl 0 rfl ?_
      obtain ⟨kd5, hw⟩ := hw
      refine v_getG F fl_X10_142 kd5 rfl dX10_told_73 ?_
      refine v_i2l F dX10_told_76 ?_
      refine v_widen (c' := 0) (s' := 0) (by decide) (by decide) ?_
      exact v_lret F hw dX10_told_77
    rw [if_neg hc0] at hw
    by_cases hc1 : p2 = 1
    · rw [if_pos hc1] at hw
      refine v_tableInE (c := 1) (tgt := 78) F hc1 dX10_told_15 (by decide) (by decide) rfl (by decide) ?_
      refine v_aload_n F dX10_told_78 rfl 0 rfl ?_
      obtain ⟨kd6, hw⟩ := hw
      refine v_getG F fl_X10_145 kd6 rfl dX10_told_79 ?_
      refine v_i2l F dX10_told_82 ?_
      refine v_widen (c' := 0) (s' := 0) (by decide) (by decide) ?_
      exact v_lret F hw dX10_told_83
    rw [if_neg hc1] at hw
    by_cases hc2 : p2 = 2
    · rw [if_pos hc2] at hw
      refine v_tableInE (c := 2) (tgt := 84) F hc2 dX10_told_15 (by decide) (by decide) rfl (by decide) ?_
      refine v_aload_n F dX10_told_84 rfl 0 rfl ?_
      obtain ⟨kd7, hw⟩ := hw
      refine v_getG F fl_X10_148 kd7 rfl dX10_told_85 ?_
      refine v_i2l F dX10_told_88 ?_
      refine v_widen (c' := 0) (s' := 0) (by decide) (by decide) ?_
      exact v_lret F hw dX10_told_89
    rw [if_neg hc2] at hw
    by_cases hc3 : p2 = 3
    · rw [if_pos hc3] at hw
      refine v_tableInE (c := 3) (tgt := 90) F hc3 dX10_told_15 (by decide) (by decide) rfl (by decide) ?_
      refine v_aload_n F dX10_told_90 rfl 0 rfl ?_
      obtain ⟨kd8, hw⟩ := hw
      refine v_getG F fl_X10_151 kd8 rfl dX10_told_91 ?_
      refine v_i2l F dX10_told_94 ?_
      refine v_widen (c' := 0) (s' := 0) (by decide) (by decide) ?_
      exact v_lret F hw dX10_told_95
    rw [if_neg hc3] at hw
    by_cases hc4 : p2 = 4
    · rw [if_pos hc4] at hw
      refine v_tableInE (c := 4) (tgt := 96) F hc4 dX10_told_15 (by decide) (by decide) rfl (by decide) ?_
      refine v_aload_n F dX10_told_96 rfl 0 rfl ?_
      obtain ⟨kd9, hw⟩ := hw
      refine v_getG F fl_X10_154 kd9 rfl dX10_told_97 ?_
      refine v_i2l F dX10_told_100 ?_
      refine v_widen (c' := 0) (s' := 0) (by decide) (by decide) ?_
      exact v_lret F hw dX10_told_101
    rw [if_neg hc4] at hw
    by_cases hc5 : p2 = 5
    · rw [if_pos hc5] at hw
      refine v_tableInE (c := 5) (tgt := 102) F hc5 dX10_told_15 (by decide) (by decide) rfl (by decide) ?_
      refine v_aload_n F dX10_told_102 rfl 0 rfl ?_
      obtain ⟨kd10, hw⟩ := hw
      refine v_get F fl_X10_115 kd10 rfl dX10_told_103 ?_
      refine v_i2l F dX10_told_106 ?_
      refine v_widen (c' := 0) (s' := 0) (by decide) (by decide) ?_
      exact v_lret F hw dX10_told_107
    rw [if_neg hc5] at hw
    by_cases hc6 : p2 = 6
    · rw [if_pos hc6] at hw
      refine v_tableInE (c := 6) (tgt := 108) F hc6 dX10_told_15 (by decide) (by decide) rfl (by decide) ?_
      refine v_aload_n F dX10_told_108 rfl 0 rfl ?_
      obtain ⟨kd11, hw⟩ := hw
      refine v_get F fl_X10_118 kd11 rfl dX10_told_109 ?_
      refine v_i2l F dX10_told_112 ?_
      refine v_widen (c' := 0) (s' := 0) (by decide) (by decide) ?_
      exact v_lret F hw dX10_told_113
    rw [if_neg hc6] at hw
    by_cases hc7 : p2 = 7
    · rw [if_pos hc7] at hw
      refine v_tableInE (c := 7) (tgt := 114) F hc7 dX10_told_15 (by decide) (by decide) rfl (by decide) ?_
      refine v_aload_n F dX10_told_114 rfl 0 rfl ?_
      obtain ⟨kd12, hw⟩ := hw
      refine v_get F fl_X10_121 kd12 rfl dX10_told_115 ?_
      refine v_i2l F dX10_told_118 ?_
      refine v_widen (c' := 0) (s' := 0) (by decide) (by decide) ?_
      exact v_lret F hw dX10_told_119
    rw [if_neg hc7] at hw
    by_cases hc8 : p2 = 8
    · rw [if_pos hc8] at hw
      refine v_tableInE (c := 8) (tgt := 120) F hc8 dX10_told_15 (by decide) (by decide) rfl (by decide) ?_
      refine v_aload_n F dX10_told_120 rfl 0 rfl ?_
      obtain ⟨kd13, hw⟩ := hw
      refine v_get F fl_X10_124 kd13 rfl dX10_told_121 ?_
      refine v_i2l F dX10_told_124 ?_
      refine v_widen (c' := 0) (s' := 0) (by decide) (by decide) ?_
      exact v_lret F hw dX10_told_125
    rw [if_neg hc8] at hw
    by_cases hc9 : p2 = 9
    · rw [if_pos hc9] at hw
      refine v_tableInE (c := 9) (tgt := 126) F hc9 dX10_told_15 (by decide) (by decide) rfl (by decide) ?_
      refine v_aload_n F dX10_told_126 rfl 0 rfl ?_
      obtain ⟨kd14, hw⟩ := hw
      refine v_get F fl_X10_127 kd14 rfl dX10_told_127 ?_
      refine v_i2l F dX10_told_130 ?_
      refine v_widen (c' := 0) (s' := 0) (by decide) (by decide) ?_
      exact v_lret F hw dX10_told_131
    rw [if_neg hc9] at hw
    by_cases hc10 : p2 = 10
    · rw [if_pos hc10] at hw
      refine v_tableInE (c := 10) (tgt := 132) F hc10 dX10_told_15 (by decide) (by decide) rfl (by decide) ?_
      refine v_aload_n F dX10_told_132 rfl 0 rfl ?_
      obtain ⟨kd15, hw⟩ := hw
      refine v_get F fl_X10_138 kd15 rfl dX10_told_133 ?_
      refine v_if_eq (tgt := 143) F dX10_told_136 (by decide) (fun h => ?_) (fun h => ?_)
      · rw [if_pos h] at hw
        refine v_lconst (v := 0) F dX10_told_143 rfl ?_
        refine v_widen (c' := 0) (s' := 0) (by decide) (by decide) ?_
        exact v_lret F hw dX10_told_144
      · rw [if_neg h] at hw
        refine v_lconst (v := 1) F dX10_told_139 rfl ?_
        refine v_goto (tgt := 144) F dX10_told_140 (by decide) ?_
        refine v_widen (c' := 0) (s' := 0) (by decide) (by decide) ?_
        exact v_lret F hw dX10_told_144
    rw [if_neg hc10] at hw
    refine v_tableOut (tgt := 145) F dX10_told_15 (sw_out 11 (by decide) (fun k hk => ?_)) (by decide) ?_
    · match k, hk with
      | 0, _ => exact hc0
      | 1, _ => exact hc1
      | 2, _ => exact hc2
      | 3, _ => exact hc3
      | 4, _ => exact hc4
      | 5, _ => exact hc5
      | 6, _ => exact hc6
      | 7, _ => exact hc7
      | 8, _ => exact hc8
      | 9, _ => exact hc9
      | 10, _ => exact hc10
      | k + 11, hk => exact absurd hk (by omega)
    · refine v_ldc2 (v := (-9000000000000000001)) F wd_337 dX10_told_145 ?_
      refine v_widen (c' := 0) (s' := 0) (by decide) (by decide) ?_
      exact v_lret F hw dX10_told_148
  · subst hr
    dsimp only at hw
    refine v_ldc2 (v := (-9000000000000000001)) F wd_337 dX10_told_10 ?_
    refine v_widen (c' := 0) (s' := 0) (by decide) (by decide) ?_
    exact v_lret F hw dX10_told_13
set_option maxRecDepth 100000 in
theorem sX10_isOf {l : Launch} {D : Dx} {a0 : Nat} {p1 : Int32} {p2 : Int32} {G : Wd} {Q : Int64 → Wd → Prop} (hw : wpX10_isOf a0 p1 p2 G Q) : Met l yX10_isOf (wM yX10_isOf cX10_isOf 4 (some .long)) rmX10_isOf (PM D [.ref a0, .int p1, .int p2] G) (QMl D Q) 0 0 (Ab D) := by
  refine v_met (by decide) (Nat.le_of_ble_eq_true rfl) (fun X hl hR F => ?_)
  subst hl
  have F : Fx X D cX10_isOf 4 RX10 (some .long) "isOf" := F
  refine v_cast (L' := [(0, .ref a0), (1, .int p1), (2, .int p2)]) rfl rfl ?_
  unfold wpX10_isOf at hw
  refine v_aload_n F dX10_isOf_0 rfl 0 rfl ?_
  refine v_iload_n F dX10_isOf_1 rfl 1 rfl ?_
  obtain ⟨kd1, hw⟩ := hw
  refine v_callq (r_V F lk_X10_108 kd1 (sX10_find hw) (mkRm hR rfl rfl rfl rfl rfl rfl) rfl rfl (Nat.le_of_ble_eq_true rfl) dX10_isOf_2) (fun r2 G3 hw => ?_)
  refine v_qstore_n (L' := [(3, va_rf r2), (0, .ref a0), (1, .int p1), (2, .int p2)]) F dX10_isOf_5 rfl (by decide) rfl ?_
  refine v_qload_n F dX10_isOf_6 rfl 0 rfl ?_
  refine v_ifnull (tgt := 17) F dX10_isOf_7 (by decide) (fun hr => ?_) (fun b4 hr => ?_)
  · subst hr
    dsimp only at hw
    refine v_ldc2 (v := (-9000000000000000001)) F wd_337 dX10_isOf_17 ?_
    refine v_widen (c' := 0) (s' := 0) (by decide) (by decide) ?_
    exact v_lret F hw dX10_isOf_20
  · subst hr
    dsimp only at hw
    refine v_iload_n F dX10_isOf_10 rfl 3 rfl ?_
    refine v_calli (r_S F ls_X10_90 (sX10_isKind hw) (mkRm hR rfl rfl rfl rfl rfl rfl) rfl rfl (Nat.le_of_ble_eq_true rfl) dX10_isOf_11) (fun r5 G6 hw => ?_)
    refine v_if_ne (tgt := 21) F dX10_isOf_14 (by decide) (fun h => ?_) (fun h => ?_)
    · rw [if_neg h] at hw
      refine v_aload_n F dX10_isOf_21 rfl 0 rfl ?_
      refine v_iload_n F dX10_isOf_22 rfl 3 rfl ?_
      obtain ⟨kd7, hw⟩ := hw
      refine v_calli (r_V F lk_X10_133 kd7 (sX5_is hw) (mkRm hR rfl rfl rfl rfl rfl rfl) rfl rfl (Nat.le_of_ble_eq_true rfl) dX10_isOf_23) (fun r8 G9 hw => ?_)
      refine v_if_eq (tgt := 33) F dX10_isOf_26 (by decide) (fun h => ?_) (fun h => ?_)
      · rw [if_pos h] at hw
        refine v_lconst (v := 0) F dX10_isOf_33 rfl ?_
        refine v_widen (c' := 0) (s' := 0) (by decide) (by decide) ?_
        exact v_lret F hw dX10_isOf_34
      · rw [if_neg h] at hw
        refine v_lconst (v := 1) F dX10_isOf_29 rfl ?_
        refine v_goto (tgt := 34) F dX10_isOf_30 (by decide) ?_
        refine v_widen (c' := 0) (s' := 0) (by decide) (by decide) ?_
        exact v_lret F hw dX10_isOf_34
    · rw [if_pos h] at hw
      refine v_ldc2 (v := (-9000000000000000001)) F wd_337 dX10_isOf_17 ?_
      refine v_widen (c' := 0) (s' := 0) (by decide) (by decide) ?_
      exact v_lret F hw dX10_isOf_20
set_option maxRecDepth 100000 in
theorem sbX10_isEither_9 {X : Cx} {D : Dx} (hR : X.2.2.2.1 = rmX10_isEither) (F : Fx X D cX10_isEither 1 RX10 (some .boolean) "isEither") {Q : Int32 → Wd → Prop}  {G : Wd} (hw : wpX10_isEither_9 Q   G) : V X D 1 (ZM X D (QMi D Q) 0 0) G 0 0 9 [] [] := by
  unfold wpX10_isEither_9 at hw
  refine v_iconst (v := 1) F dX10_isEither_9 (by decide) ?_
  refine v_goto (tgt := 14) F dX10_isEither_10 (by decide) ?_
  exact v_zret F (Or.inr rfl) hw dX10_isEither_14
set_option maxRecDepth 100000 in
theorem sX10_isEither {l : Launch} {D : Dx} {p0 : Int32} {G : Wd} {Q : Int32 → Wd → Prop} (hw : wpX10_isEither p0 G Q) : Met l yX10_isEither (wM yX10_isEither cX10_isEither 1 (some .boolean)) rmX10_isEither (PM D [.int p0] G) (QMi D Q) 0 0 (Ab D) := by
  refine v_met (by decide) (Nat.le_of_ble_eq_true rfl) (fun X hl hR F => ?_)
  subst hl
  have F : Fx X D cX10_isEither 1 RX10 (some .boolean) "isEither" := F
  refine v_cast (L' := [(0, .int p0)]) rfl rfl ?_
  unfold wpX10_isEither at hw
  refine v_iload_n F dX10_isEither_0 rfl 0 rfl ?_
  refine v_if_eq (tgt := 9) F dX10_isEither_1 (by decide) (fun h => ?_) (fun h => ?_)
  · rw [if_pos h] at hw
    exact v_loc [] rfl (sbX10_isEither_9 hR F  hw)
  · rw [if_neg h] at hw
    refine v_iload_n F dX10_isEither_4 rfl 0 rfl ?_
    refine v_iconst (v := 1) F dX10_isEither_5 (by decide) ?_
    refine v_icmp_ne (tgt := 13) F dX10_isEither_6 (by decide) (fun h => ?_) (fun h => ?_)
    · rw [if_neg h] at hw
      refine v_iconst (v := 0) F dX10_isEither_13 (by decide) ?_
      exact v_zret F (Or.inl rfl) hw dX10_isEither_14
    · rw [if_pos h] at hw
      exact v_loc [] rfl (sbX10_isEither_9 hR F  hw)
set_option maxRecDepth 100000 in
theorem sbX10_endOf_27 {X : Cx} {D : Dx} (hR : X.2.2.2.1 = rmX10_endOf) (F : Fx X D cX10_endOf 5 RX10 (some .long) "endOf") {Q : Int64 → Wd → Prop} {v3 : Int32} {s0 : Nat} {G : Wd} (hw : wpX10_endOf_27 Q  v3 s0 G) : V X D 5 (ZM X D (QMl D Q) 0 0) G 0 0 27 [(3, .int v3)] [.ref s0] := by
  unfold wpX10_endOf_27 at hw
  refine v_astore (L' := [(4, .ref s0), (3, .int v3)]) F dX10_endOf_27 (by decide) rfl ?_
  refine v_iload_n F dX10_endOf_29 rfl 1 rfl ?_
  refine v_if_ne (tgt := 41) F dX10_endOf_30 (by decide) (fun h => ?_) (fun h => ?_)
  · rw [if_neg h] at hw
    refine v_aload F dX10_endOf_41 0 rfl ?_
    obtain ⟨kd1, hw⟩ := hw
    refine v_get F fl_X10_328 kd1 rfl dX10_endOf_43 ?_
    exact v_lret F hw dX10_endOf_46
  · rw [if_pos h] at hw
    refine v_aload F dX10_endOf_33 0 rfl ?_
    obtain ⟨kd2, hw⟩ := hw
    refine v_get F fl_X10_325 kd2 rfl dX10_endOf_35 ?_
    refine v_goto (tgt := 46) F dX10_endOf_38 (by decide) ?_
    exact v_lret F hw dX10_endOf_46
set_option maxRecDepth 100000 in
theorem sX10_endOf {l : Launch} {D : Dx} {a0 : Nat} {a1 : Nat} {p2 : Int32} {p3 : Int32} {G : Wd} {Q : Int64 → Wd → Prop} (hw : wpX10_endOf a0 a1 p2 p3 G Q) : Met l yX10_endOf (wM yX10_endOf cX10_endOf 5 (some .long)) rmX10_endOf (PM D [.ref a0, .ref a1, .int p2, .int p3] G) (QMl D Q) 0 0 (Ab D) := by
  refine v_met (by decide) (Nat.le_of_ble_eq_true rfl) (fun X hl hR F => ?_)
  subst hl
  have F : Fx X D cX10_endOf 5 RX10 (some .long) "endOf" := F
  refine v_cast (L' := [(0, .ref a0), (1, .ref a1), (2, .int p2), (3, .int p3)]) rfl rfl ?_
  unfold wpX10_endOf at hw
  refine v_aload_n F dX10_endOf_0 rfl 0 rfl ?_
  obtain ⟨kd3, hw⟩ := hw
  refine v_get F fl_X10_324 kd3 rfl dX10_endOf_1 ?_
  refine v_if_ne (tgt := 14) F dX10_endOf_4 (by decide) (fun h => ?_) (fun h => ?_)
  · rw [if_neg h] at hw
    refine v_ldc2 (v := (-9000000000000000004)) F wd_486 dX10_endOf_14 ?_
    exact v_lret F hw dX10_endOf_17
  · rw [if_pos h] at hw
    refine v_aload_n F dX10_endOf_7 rfl 1 rfl ?_
    obtain ⟨kd4, hw⟩ := hw
    refine v_get F fl_X10_324 kd4 rfl dX10_endOf_8 ?_
    refine v_if_eq (tgt := 18) F dX10_endOf_11 (by decide) (fun h => ?_) (fun h => ?_)
    · rw [if_pos h] at hw
      refine v_iload_n F dX10_endOf_18 rfl 2 rfl ?_
      refine v_if_ne (tgt := 26) F dX10_endOf_19 (by decide) (fun h => ?_) (fun h => ?_)
      · rw [if_neg h] at hw
        refine v_aload_n F dX10_endOf_26 rfl 1 rfl ?_
        exact v_loc [3] rfl (sbX10_endOf_27 hR F  hw)
      · rw [if_pos h] at hw
        refine v_aload_n F dX10_endOf_22 rfl 0 rfl ?_
        refine v_goto (tgt := 27) F dX10_endOf_23 (by decide) ?_
        exact v_loc [3] rfl (sbX10_endOf_27 hR F  hw)
    · rw [if_neg h] at hw
      refine v_ldc2 (v := (-9000000000000000004)) F wd_486 dX10_endOf_14 ?_
      exact v_lret F hw dX10_endOf_17
set_option maxRecDepth 100000 in
theorem sX10_end {l : Launch} {D : Dx} {a0 : Nat} {p1 : Int32} {p2 : Int32} {p3 : Int32} {G : Wd} {Q : Int64 → Wd → Prop} (hw : wpX10_end a0 p1 p2 p3 G Q) : Met l yX10_end (wM yX10_end cX10_end 5 (some .long)) rmX10_end (PM D [.ref a0, .int p1, .int p2, .int p3] G) (QMl D Q) 0 0 (Ab D) := by
  refine v_met (by decide) (Nat.le_of_ble_eq_true rfl) (fun X hl hR F => ?_)
  subst hl
  have F : Fx X D cX10_end 5 RX10 (some .long) "end" := F
  refine v_cast (L' := [(0, .ref a0), (1, .int p1), (2, .int p2), (3, .int p3)]) rfl rfl ?_
  unfold wpX10_end at hw
  refine v_aload_n F dX10_end_0 rfl 0 rfl ?_
  refine v_iload_n F dX10_end_1 rfl 1 rfl ?_
  obtain ⟨kd1, hw⟩ := hw
  refine v_callq (r_V F lk_X10_108 kd1 (sX10_find hw) (mkRm hR rfl rfl rfl rfl rfl rfl) rfl rfl (Nat.le_of_ble_eq_true rfl) dX10_end_2) (fun r2 G3 hw => ?_)
  refine v_qstore (L' := [(4, va_rf r2), (0, .ref a0), (1, .int p1), (2, .int p2), (3, .int p3)]) F dX10_end_5 (by decide) rfl ?_
  refine v_qload F dX10_end_7 0 rfl ?_
  refine v_ifnull (tgt := 26) F dX10_end_9 (by decide) (fun hr => ?_) (fun b4 hr => ?_)
  · subst hr
    dsimp only at hw
    refine v_ldc2 (v := (-9000000000000000001)) F wd_337 dX10_end_26 ?_
    refine v_widen (c' := 0) (s' := 0) (by decide) (by decide) ?_
    exact v_lret F hw dX10_end_29
  · subst hr
    dsimp only at hw
    refine v_iload_n F dX10_end_12 rfl 3 rfl ?_
    refine v_calli (r_S F ls_X10_157 (sX10_isEither hw) (mkRm hR rfl rfl rfl rfl rfl rfl) rfl rfl (Nat.le_of_ble_eq_true rfl) dX10_end_13) (fun r5 G6 hw => ?_)
    refine v_if_eq (tgt := 26) F dX10_end_16 (by decide) (fun h => ?_) (fun h => ?_)
    · rw [if_pos h] at hw
      refine v_ldc2 (v := (-9000000000000000001)) F wd_337 dX10_end_26 ?_
      refine v_widen (c' := 0) (s' := 0) (by decide) (by decide) ?_
      exact v_lret F hw dX10_end_29
    · rw [if_neg h] at hw
      refine v_iload_n F dX10_end_19 rfl 4 rfl ?_
      refine v_calli (r_S F ls_X10_157 (sX10_isEither hw) (mkRm hR rfl rfl rfl rfl rfl rfl) rfl rfl (Nat.le_of_ble_eq_true rfl) dX10_end_20) (fun r7 G8 hw => ?_)
      refine v_if_ne (tgt := 30) F dX10_end_23 (by decide) (fun h => ?_) (fun h => ?_)
      · rw [if_neg h] at hw
        refine v_aload F dX10_end_30 0 rfl ?_
        obtain ⟨kd9, hw⟩ := hw
        obtain ⟨b10, hr11, hw⟩ := hw
        refine v_getSG F fl_X10_160 (fun _ => rfl) kd9 hr11 dX10_end_32 ?_
        refine v_aload F dX10_end_35 0 rfl ?_
        obtain ⟨b12, hr13, hw⟩ := hw
        refine v_getSG F fl_X10_163 (fun _ => rfl) kd9 hr13 dX10_end_37 ?_
        refine v_iload_n F dX10_end_40 rfl 3 rfl ?_
        refine v_iload_n F dX10_end_41 rfl 4 rfl ?_
        refine v_calll (r_S F ls_X10_166 (sX10_endOf hw) (mkRm hR rfl rfl rfl rfl rfl rfl) rfl rfl (Nat.le_of_ble_eq_true rfl) dX10_end_42) (fun r14 G15 hw => ?_)
        refine v_widen (c' := 0) (s' := 0) (by decide) (by decide) ?_
        exact v_lret F hw dX10_end_45
      · rw [if_pos h] at hw
        refine v_ldc2 (v := (-9000000000000000001)) F wd_337 dX10_end_26 ?_
        refine v_widen (c' := 0) (s' := 0) (by decide) (by decide) ?_
        exact v_lret F hw dX10_end_29
set_option maxRecDepth 100000 in
theorem sX10_countsAt {l : Launch} {D : Dx} {a0 : Nat} {a1 : Nat} {p2 : Int32} {p3 : Int32} {G : Wd} {Q : Int32 → Wd → Prop} (hw : wpX10_countsAt a0 a1 p2 p3 G Q) : Met l yX10_countsAt (wM yX10_countsAt cX10_countsAt 4 (some .boolean)) rmX10_countsAt (PM D [.ref a0, .ref a1, .int p2, .int p3] G) (QMi D Q) 0 0 (Ab D) := by
  refine v_met (by decide) (Nat.le_of_ble_eq_true rfl) (fun X hl hR F => ?_)
  subst hl
  have F : Fx X D cX10_countsAt 4 RX10 (some .boolean) "countsAt" := F
  refine v_cast (L' := [(0, .ref a0), (1, .ref a1), (2, .int p2), (3, .int p3)]) rfl rfl ?_
  unfold wpX10_countsAt at hw
  refine v_aload_n F dX10_countsAt_0 rfl 1 rfl ?_
  obtain ⟨kd1, hw⟩ := hw
  refine v_get F fl_X10_138 kd1 rfl dX10_countsAt_1 ?_
  refine v_if_ne (tgt := 23) F dX10_countsAt_4 (by decide) (fun h => ?_) (fun h => ?_)
  · rw [if_neg h] at hw
    refine v_iconst (v := 0) F dX10_countsAt_23 (by decide) ?_
    exact v_zret F (Or.inl rfl) hw dX10_countsAt_24
  · rw [if_pos h] at hw
    refine v_iload_n F dX10_countsAt_7 rfl 3 rfl ?_
    refine v_aload_n F dX10_countsAt_8 rfl 1 rfl ?_
    refine v_get F fl_X10_118 kd1 rfl dX10_countsAt_9 ?_
    refine v_icmp_lt (tgt := 23) F dX10_countsAt_12 (by decide) (fun h => ?_) (fun h => ?_)
    · rw [if_pos h] at hw
      refine v_iconst (v := 0) F dX10_countsAt_23 (by decide) ?_
      exact v_zret F (Or.inl rfl) hw dX10_countsAt_24
    · rw [if_neg h] at hw
      refine v_iload_n F dX10_countsAt_15 rfl 3 rfl ?_
      refine v_aload_n F dX10_countsAt_16 rfl 1 rfl ?_
      refine v_get F fl_X10_121 kd1 rfl dX10_countsAt_17 ?_
      refine v_icmp_le (tgt := 25) F dX10_countsAt_20 (by decide) (fun h => ?_) (fun h => ?_)
      · rw [if_pos h] at hw
        refine v_aload_n F dX10_countsAt_25 rfl 1 rfl ?_
        refine v_getG F fl_X10_142 kd1 rfl dX10_countsAt_26 ?_
        refine v_iconst (v := 3) F dX10_countsAt_29 (by decide) ?_
        refine v_icmp_ne (tgt := 49) F dX10_countsAt_30 (by decide) (fun h => ?_) (fun h => ?_)
        · rw [if_neg h] at hw
          refine v_aload_n F dX10_countsAt_49 rfl 0 rfl ?_
          refine v_iload_n F dX10_countsAt_50 rfl 2 rfl ?_
          refine v_aload_n F dX10_countsAt_51 rfl 1 rfl ?_
          refine v_get F fl_X10_115 kd1 rfl dX10_countsAt_52 ?_
          obtain ⟨kd2, hw⟩ := hw
          refine v_calli (r_V F lk_X10_86 kd2 (sX10_isWithin hw) (mkRm hR rfl rfl rfl rfl rfl rfl) rfl rfl (Nat.le_of_ble_eq_true rfl) dX10_countsAt_55) (fun r3 G4 hw => ?_)
          refine v_widen (c' := 0) (s' := 0) (by decide) (by decide) ?_
          exact v_zret F hw.1 hw.2 dX10_countsAt_58
        · rw [if_pos h] at hw
          refine v_iload_n F dX10_countsAt_33 rfl 2 rfl ?_
          refine v_aload_n F dX10_countsAt_34 rfl 1 rfl ?_
          refine v_get F fl_X10_115 kd1 rfl dX10_countsAt_35 ?_
          refine v_icmp_ne (tgt := 45) F dX10_countsAt_38 (by decide) (fun h => ?_) (fun h => ?_)
          · rw [if_neg h] at hw
            refine v_iconst (v := 0) F dX10_countsAt_45 (by decide) ?_
            refine v_goto (tgt := 58) F dX10_countsAt_46 (by decide) ?_
            exact v_zret F (Or.inl rfl) hw dX10_countsAt_58
          · rw [if_pos h] at hw
            refine v_iconst (v := 1) F dX10_countsAt_41 (by decide) ?_
            refine v_goto (tgt := 58) F dX10_countsAt_42 (by decide) ?_
            exact v_zret F (Or.inr rfl) hw dX10_countsAt_58
      · rw [if_neg h] at hw
        refine v_iconst (v := 0) F dX10_countsAt_23 (by decide) ?_
        exact v_zret F (Or.inl rfl) hw dX10_countsAt_24
set_option maxRecDepth 100000 in
theorem sX10_counts {l : Launch} {D : Dx} {a0 : Nat} {p1 : Int32} {p2 : Int32} {p3 : Int32} {G : Wd} {Q : Int64 → Wd → Prop} (hw : wpX10_counts a0 p1 p2 p3 G Q) : Met l yX10_counts (wM yX10_counts cX10_counts 5 (some .long)) rmX10_counts (PM D [.ref a0, .int p1, .int p2, .int p3] G) (QMl D Q) 0 0 (Ab D) := by
  refine v_met (by decide) (Nat.le_of_ble_eq_true rfl) (fun X hl hR F => ?_)
  subst hl
  have F : Fx X D cX10_counts 5 RX10 (some .long) "counts" := F
  refine v_cast (L' := [(0, .ref a0), (1, .int p1), (2, .int p2), (3, .int p3)]) rfl rfl ?_
  unfold wpX10_counts at hw
  refine v_aload_n F dX10_counts_0 rfl 0 rfl ?_
  refine v_iload_n F dX10_counts_1 rfl 1 rfl ?_
  obtain ⟨kd1, hw⟩ := hw
  refine v_callq (r_V F lk_X10_108 kd1 (sX10_find hw) (mkRm hR rfl rfl rfl rfl rfl rfl) rfl rfl (Nat.le_of_ble_eq_true rfl) dX10_counts_2) (fun r2 G3 hw => ?_)
  refine v_qstore (L' := [(4, va_rf r2), (0, .ref a0), (1, .int p1), (2, .int p2), (3, .int p3)]) F dX10_counts_5 (by decide) rfl ?_
  refine v_qload F dX10_counts_7 0 rfl ?_
  refine v_ifnull (tgt := 26) F dX10_counts_9 (by decide) (fun hr => ?_) (fun b4 hr => ?_)
  · subst hr
    dsimp only at hw
    refine v_ldc2 (v := (-9000000000000000001)) F wd_337 dX10_counts_26 ?_
    refine v_widen (c' := 0) (s' := 0) (by decide) (by decide) ?_
    exact v_lret F hw dX10_counts_29
  · subst hr
    dsimp only at hw
    refine v_iload_n F dX10_counts_12 rfl 3 rfl ?_
    refine v_calli (r_S F ls_X10_82 (sX10_isPlace hw) (mkRm hR rfl rfl rfl rfl rfl rfl) rfl rfl (Nat.le_of_ble_eq_true rfl) dX10_counts_13) (fun r5 G6 hw => ?_)
    refine v_if_eq (tgt := 26) F dX10_counts_16 (by decide) (fun h => ?_) (fun h => ?_)
    · rw [if_pos h] at hw
      refine v_ldc2 (v := (-9000000000000000001)) F wd_337 dX10_counts_26 ?_
      refine v_widen (c' := 0) (s' := 0) (by decide) (by decide) ?_
      exact v_lret F hw dX10_counts_29
    · rw [if_neg h] at hw
      refine v_iload_n F dX10_counts_19 rfl 4 rfl ?_
      refine v_calli (r_S F ls_X10_112 (sX10_isDay hw) (mkRm hR rfl rfl rfl rfl rfl rfl) rfl rfl (Nat.le_of_ble_eq_true rfl) dX10_counts_20) (fun r7 G8 hw => ?_)
      refine v_if_ne (tgt := 30) F dX10_counts_23 (by decide) (fun h => ?_) (fun h => ?_)
      · rw [if_neg h] at hw
        refine v_aload_n F dX10_counts_30 rfl 1 rfl ?_
        refine v_aload F dX10_counts_31 0 rfl ?_
        refine v_iload_n F dX10_counts_33 rfl 3 rfl ?_
        refine v_iload_n F dX10_counts_34 rfl 4 rfl ?_
        obtain ⟨kd9, hw⟩ := hw
        refine v_calli (r_V F lk_X10_170 kd9 (sX10_countsAt hw) (mkRm hR rfl rfl rfl rfl rfl rfl) rfl rfl (Nat.le_of_ble_eq_true rfl) dX10_counts_35) (fun r10 G11 hw => ?_)
        refine v_if_eq (tgt := 45) F dX10_counts_38 (by decide) (fun h => ?_) (fun h => ?_)
        · rw [if_pos h] at hw
          refine v_lconst (v := 0) F dX10_counts_45 rfl ?_
          refine v_widen (c' := 0) (s' := 0) (by decide) (by decide) ?_
          exact v_lret F hw dX10_counts_46
        · rw [if_neg h] at hw
          refine v_lconst (v := 1) F dX10_counts_41 rfl ?_
          refine v_goto (tgt := 46) F dX10_counts_42 (by decide) ?_
          refine v_widen (c' := 0) (s' := 0) (by decide) (by decide) ?_
          exact v_lret F hw dX10_counts_46
      · rw [if_pos h] at hw
        refine v_ldc2 (v := (-9000000000000000001)) F wd_337 dX10_counts_26 ?_
        refine v_widen (c' := 0) (s' := 0) (by decide) (by decide) ?_
        exact v_lret F hw dX10_counts_29
set_option maxRecDepth 100000 in
theorem sX10_isPlaceAndDay {l : Launch} {D : Dx} {p0 : Int32} {G : Wd} {Q : Int32 → Wd → Prop} (hw : wpX10_isPlaceAndDay p0 G Q) : Met l yX10_isPlaceAndDay (wM yX10_isPlaceAndDay cX10_isPlaceAndDay 1 (some .boolean)) rmX10_isPlaceAndDay (PM D [.int p0] G) (QMi D Q) 0 0 (Ab D) := by
  refine v_met (by decide) (Nat.le_of_ble_eq_true rfl) (fun X hl hR F => ?_)
  subst hl
  have F : Fx X D cX10_isPlaceAndDay 1 RX10 (some .boolean) "isPlaceAndDay" := F
  refine v_cast (L' := [(0, .int p0)]) rfl rfl ?_
  unfold wpX10_isPlaceAndDay at hw
  refine v_iload_n F dX10_isPlaceAndDay_0 rfl 0 rfl ?_
  refine v_if_lt (tgt := 15) F dX10_isPlaceAndDay_1 (by decide) (fun h => ?_) (fun h => ?_)
  · rw [if_pos h] at hw
    refine v_iconst (v := 0) F dX10_isPlaceAndDay_15 (by decide) ?_
    exact v_zret F (Or.inl rfl) hw dX10_isPlaceAndDay_16
  · rw [if_neg h] at hw
    refine v_iload_n F dX10_isPlaceAndDay_4 rfl 0 rfl ?_
    refine v_ldcw (v := 80000) F wd_502 dX10_isPlaceAndDay_5 ?_
    refine v_icmp_ge (tgt := 15) F dX10_isPlaceAndDay_8 (by decide) (fun h => ?_) (fun h => ?_)
    · rw [if_pos h] at hw
      refine v_iconst (v := 0) F dX10_isPlaceAndDay_15 (by decide) ?_
      exact v_zret F (Or.inl rfl) hw dX10_isPlaceAndDay_16
    · rw [if_neg h] at hw
      refine v_iconst (v := 1) F dX10_isPlaceAndDay_11 (by decide) ?_
      refine v_goto (tgt := 16) F dX10_isPlaceAndDay_12 (by decide) ?_
      exact v_zret F (Or.inr rfl) hw dX10_isPlaceAndDay_16
set_option maxRecDepth 100000 in
theorem sbX10_gather_55 {X : Cx} {D : Dx} (hR : X.2.2.2.1 = rmX10_gather) (F : Fx X D cX10_gather 4 RX10 none "gather") {Q : Wd → Prop} {k10 : Nat → Int32 → Int32 → Wd → Prop} (hk10 : ∀ v0 v1 v2 G, k10 v0 v1 v2 G → V X D 4 (ZM X D (QMv D Q) 0 0) G 0 0 10 [(0, .ref v0), (1, .int v1), (2, .int v2)] []) {v0 : Nat} {v1 : Int32} {v2 : Int32} {G : Wd} (hw : wpX10_gather_55 Q k10 v0 v1 v2 G) : V X D 4 (ZM X D (QMv D Q) 0 0) G 0 0 55 [(0, .ref v0), (1, .int v1), (2, .int v2)] [] := by
  unfold wpX10_gather_55 at hw
  refine v_iincN (c := 1) F dX10_gather_55 2 rfl (by decide) (by decide) (fun x1 hx1 => ?_)
  refine v_cast (L' := [(2, .int x1), (0, .ref v0), (1, .int v1)]) rfl rfl ?_
  have hw := hw x1 hx1
  refine v_goto (tgt := 10) F dX10_gather_58 (by decide) ?_
  exact v_loc [1, 2, 0] rfl (hk10 _ _ _ _ hw)
set_option maxRecDepth 100000 in
theorem sbX10_gather_10 {X : Cx} {D : Dx} (hR : X.2.2.2.1 = rmX10_gather) (F : Fx X D cX10_gather 4 RX10 none "gather") {Q : Wd → Prop} : ∀ (n : Nat) (v0 : Nat) (v1 : Int32) (v2 : Int32) (G : Wd), wpX10_gather_10 Q  n v0 v1 v2 G → V X D 4 (ZM X D (QMv D Q) 0 0) G 0 0 10 [(0, .ref v0), (1, .int v1), (2, .int v2)] [] := by
  intro n
  induction n with
  | zero => intro v0 v1 v2 G hw; exact hw.elim
  | succ n ih =>
    intro v0 v1 v2 G hw
    simp only [wpX10_gather_10] at hw
    refine v_iload_n F dX10_gather_10 rfl 2 rfl ?_
    refine v_aload_n F dX10_gather_11 rfl 0 rfl ?_
    obtain ⟨kd2, hw⟩ := hw
    refine v_get F fl_X10_99 kd2 rfl dX10_gather_12 ?_
    refine v_icmp_ge (tgt := 61) F dX10_gather_15 (by decide) (fun h => ?_) (fun h => ?_)
    · rw [if_pos h] at hw
      exact v_vret F hw dX10_gather_61
    · rw [if_neg h] at hw
      refine v_aload_n F dX10_gather_18 rfl 0 rfl ?_
      obtain ⟨b3, hr4, hw⟩ := hw
      refine v_getS F fl_X10_15 (fun _ => rfl) kd2 hr4 dX10_gather_19 ?_
      refine v_iload_n F dX10_gather_22 rfl 2 rfl ?_
      obtain ⟨kd5, hw⟩ := hw
      obtain ⟨hi6, hw⟩ := hw
      refine v_aaldE (t := 5) F rfl rfl kd5 hi6 dX10_gather_23 (fun r7 hr7 => ?_)
      have hw := hw r7 hr7
      clear hr7
      refine v_qstore_n (L' := [(3, va_rf r7), (0, .ref v0), (1, .int v1), (2, .int v2)]) F dX10_gather_24 rfl (by decide) rfl ?_
      refine v_qload_n F dX10_gather_25 rfl 0 rfl ?_
      refine v_ifnull (tgt := 55) F dX10_gather_26 (by decide) (fun hr => ?_) (fun b8 hr => ?_)
      · subst hr
        dsimp only at hw
        exact v_loc [1, 2, 3] rfl (sbX10_gather_55 hR F ih hw)
      · subst hr
        dsimp only at hw
        refine v_aload_n F dX10_gather_29 rfl 1 rfl ?_
        refine v_aload_n F dX10_gather_30 rfl 0 rfl ?_
        refine v_iload_n F dX10_gather_31 rfl 2 rfl ?_
        refine v_sipush (v := 10000) F dX10_gather_32 (by decide) ?_
        refine v_idiv F dX10_gather_35 (by decide) ?_
        refine v_iload_n F dX10_gather_36 rfl 2 rfl ?_
        refine v_sipush (v := 10000) F dX10_gather_37 (by decide) ?_
        refine v_iremE F dX10_gather_40 (by decide) ?_
        refine v_calli (r_V F lk_X10_170 kd2 (sX10_countsAt hw) (mkRm hR rfl rfl rfl rfl rfl rfl) rfl rfl (Nat.le_of_ble_eq_true rfl) dX10_gather_41) (fun r9 G10 hw => ?_)
        refine v_if_eq (tgt := 55) F dX10_gather_44 (by decide) (fun h => ?_) (fun h => ?_)
        · rw [if_pos h] at hw
          exact v_loc [1, 2, 3] rfl (sbX10_gather_55 hR F ih hw)
        · rw [if_neg h] at hw
          refine v_aload_n F dX10_gather_47 rfl 1 rfl ?_
          obtain ⟨kd11, hw⟩ := hw
          obtain ⟨b12, hr13, hw⟩ := hw
          refine v_getS F fl_X10_34 (fun _ => rfl) kd11 hr13 dX10_gather_48 ?_
          refine v_aload_n F dX10_gather_51 rfl 0 rfl ?_
          obtain ⟨kd14, hw⟩ := hw
          refine v_callv (r_V F lk_X10_320 kd14 (sX9_admit hw) (mkRm hR rfl rfl rfl rfl rfl rfl) rfl rfl (Nat.le_of_ble_eq_true rfl) dX10_gather_52) (fun G16 hw => ?_)
          exact v_loc [1, 2, 3] rfl (sbX10_gather_55 hR F ih hw)
set_option maxRecDepth 100000 in
theorem sX10_gather {l : Launch} {D : Dx} {a0 : Nat} {p1 : Int32} {G : Wd} {Q : Wd → Prop} (hw : wpX10_gather a0 p1 G Q) : Met l yX10_gather (wM yX10_gather cX10_gather 4 none) rmX10_gather (PM D [.ref a0, .int p1] G) (QMv D Q) 0 0 (Ab D) := by
  refine v_met (by decide) (Nat.le_of_ble_eq_true rfl) (fun X hl hR F => ?_)
  subst hl
  have F : Fx X D cX10_gather 4 RX10 none "gather" := F
  refine v_cast (L' := [(0, .ref a0), (1, .int p1)]) rfl rfl ?_
  unfold wpX10_gather at hw
  refine v_aload_n F dX10_gather_0 rfl 0 rfl ?_
  obtain ⟨kd17, hw⟩ := hw
  obtain ⟨b18, hr19, hw⟩ := hw
  refine v_getS F fl_X10_34 (fun _ => rfl) kd17 hr19 dX10_gather_1 ?_
  refine v_iconst (v := 0) F dX10_gather_4 (by decide) ?_
  obtain ⟨kd20, hw⟩ := hw
  refine v_putI F fl_X10_317 (fun h => absurd h (by decide)) rfl kd20 dX10_gather_5 ?_
  refine v_nmG (fun G21 hG21 => ?_)
  have hw := hw G21 hG21
  refine v_iconst (v := 0) F dX10_gather_8 (by decide) ?_
  refine v_istore_n (L' := [(2, .int 0), (0, .ref a0), (1, .int p1)]) F dX10_gather_9 rfl (by decide) rfl ?_
  obtain ⟨m, hw⟩ := hw
  exact v_loc [1, 2, 0] rfl (sbX10_gather_10 hR F  m _ _ _ _ hw)
set_option maxRecDepth 100000 in
theorem sX10_ways {l : Launch} {D : Dx} {a0 : Nat} {p1 : Int32} {p2 : Int32} {G : Wd} {Q : Int64 → Wd → Prop} (hw : wpX10_ways a0 p1 p2 G Q) : Met l yX10_ways (wM yX10_ways cX10_ways 3 (some .long)) rmX10_ways (PM D [.ref a0, .int p1, .int p2] G) (QMl D Q) 0 0 (Ab D) := by
  refine v_met (by decide) (Nat.le_of_ble_eq_true rfl) (fun X hl hR F => ?_)
  subst hl
  have F : Fx X D cX10_ways 3 RX10 (some .long) "ways" := F
  refine v_cast (L' := [(0, .ref a0), (1, .int p1), (2, .int p2)]) rfl rfl ?_
  unfold wpX10_ways at hw
  refine v_iload_n F dX10_ways_0 rfl 1 rfl ?_
  refine v_calli (r_S F ls_X10_93 (sX10_isPair hw) (mkRm hR rfl rfl rfl rfl rfl rfl) rfl rfl (Nat.le_of_ble_eq_true rfl) dX10_ways_1) (fun r1 G2 hw => ?_)
  refine v_if_eq (tgt := 14) F dX10_ways_4 (by decide) (fun h => ?_) (fun h => ?_)
  · rw [if_pos h] at hw
    refine v_ldc2 (v := (-9000000000000000001)) F wd_337 dX10_ways_14 ?_
    refine v_widen (c' := 0) (s' := 0) (by decide) (by decide) ?_
    exact v_lret F hw dX10_ways_17
  · rw [if_neg h] at hw
    refine v_iload_n F dX10_ways_7 rfl 2 rfl ?_
    refine v_calli (r_S F ls_X10_174 (sX10_isPlaceAndDay hw) (mkRm hR rfl rfl rfl rfl rfl rfl) rfl rfl (Nat.le_of_ble_eq_true rfl) dX10_ways_8) (fun r3 G4 hw => ?_)
    refine v_if_ne (tgt := 18) F dX10_ways_11 (by decide) (fun h => ?_) (fun h => ?_)
    · rw [if_neg h] at hw
      refine v_aload_n F dX10_ways_18 rfl 0 rfl ?_
      refine v_iload_n F dX10_ways_19 rfl 2 rfl ?_
      obtain ⟨kd5, hw⟩ := hw
      refine v_callv (r_V F lk_X10_177 kd5 (sX10_gather hw) (mkRm hR rfl rfl rfl rfl rfl rfl) rfl rfl (Nat.le_of_ble_eq_true rfl) dX10_ways_20) (fun G7 hw => ?_)
      refine v_aload_n F dX10_ways_23 rfl 0 rfl ?_
      obtain ⟨kd8, hw⟩ := hw
      obtain ⟨b9, hr10, hw⟩ := hw
      refine v_getS F fl_X10_41 (fun _ => rfl) kd8 hr10 dX10_ways_24 ?_
      refine v_lconst (v := 0) F dX10_ways_27 rfl ?_
      obtain ⟨kd11, hw⟩ := hw
      refine v_putJ F fl_X10_181 (fun h => absurd h (by decide)) rfl kd11 dX10_ways_28 ?_
      refine v_nmG (fun G12 hG12 => ?_)
      have hw := hw G12 hG12
      refine v_aload_n F dX10_ways_31 rfl 0 rfl ?_
      have kd13 : gK G12 a0 = 10 := by rw [hG12]; exact kd8
      obtain ⟨b14, hr15, hw⟩ := hw
      refine v_getS F fl_X10_34 (fun _ => rfl) kd13 hr15 dX10_ways_32 ?_
      refine v_iload_n F dX10_ways_35 rfl 1 rfl ?_
      refine v_bipush (v := 10) F dX10_ways_36 (by decide) ?_
      refine v_idiv F dX10_ways_38 (by decide) ?_
      refine v_iload_n F dX10_ways_39 rfl 1 rfl ?_
      refine v_bipush (v := 10) F dX10_ways_40 (by decide) ?_
      refine v_iremE F dX10_ways_42 (by decide) ?_
      refine v_aload_n F dX10_ways_43 rfl 0 rfl ?_
      obtain ⟨b16, hr17, hw⟩ := hw
      refine v_getS F fl_X10_41 (fun _ => rfl) kd13 hr17 dX10_ways_44 ?_
      obtain ⟨kd18, hw⟩ := hw
      refine v_callv (r_V F lk_X10_185 kd18 (sX9_seekWays hw) (mkRm hR rfl rfl rfl rfl rfl rfl) rfl rfl (Nat.le_of_ble_eq_true rfl) dX10_ways_47) (fun G20 hw => ?_)
      refine v_aload_n F dX10_ways_50 rfl 0 rfl ?_
      obtain ⟨kd21, hw⟩ := hw
      obtain ⟨b22, hr23, hw⟩ := hw
      refine v_getS F fl_X10_41 (fun _ => rfl) kd21 hr23 dX10_ways_51 ?_
      obtain ⟨kd24, hw⟩ := hw
      refine v_get F fl_X10_181 kd24 rfl dX10_ways_54 ?_
      refine v_widen (c' := 0) (s' := 0) (by decide) (by decide) ?_
      exact v_lret F hw dX10_ways_57
    · rw [if_pos h] at hw
      refine v_ldc2 (v := (-9000000000000000001)) F wd_337 dX10_ways_14 ?_
      refine v_widen (c' := 0) (s' := 0) (by decide) (by decide) ?_
      exact v_lret F hw dX10_ways_17
set_option maxRecDepth 100000 in
theorem sX10_way {l : Launch} {D : Dx} {a0 : Nat} {p1 : Int32} {p2 : Int32} {p3 : Int32} {p4 : Int32} {G : Wd} {Q : Int64 → Wd → Prop} (hw : wpX10_way a0 p1 p2 p3 p4 G Q) : Met l yX10_way (wM yX10_way cX10_way 5 (some .long)) rmX10_way (PM D [.ref a0, .int p1, .int p2, .int p3, .int p4] G) (QMl D Q) 0 0 (Ab D) := by
  refine v_met (by decide) (Nat.le_of_ble_eq_true rfl) (fun X hl hR F => ?_)
  subst hl
  have F : Fx X D cX10_way 5 RX10 (some .long) "way" := F
  refine v_cast (L' := [(0, .ref a0), (1, .int p1), (2, .int p2), (3, .int p3), (4, .int p4)]) rfl rfl ?_
  unfold wpX10_way at hw
  refine v_iload_n F dX10_way_0 rfl 1 rfl ?_
  refine v_calli (r_S F ls_X10_93 (sX10_isPair hw) (mkRm hR rfl rfl rfl rfl rfl rfl) rfl rfl (Nat.le_of_ble_eq_true rfl) dX10_way_1) (fun r1 G2 hw => ?_)
  refine v_if_eq (tgt := 23) F dX10_way_4 (by decide) (fun h => ?_) (fun h => ?_)
  · rw [if_pos h] at hw
    refine v_ldc2 (v := (-9000000000000000001)) F wd_337 dX10_way_23 ?_
    refine v_widen (c' := 0) (s' := 0) (by decide) (by decide) ?_
    exact v_lret F hw dX10_way_26
  · rw [if_neg h] at hw
    refine v_iload_n F dX10_way_7 rfl 2 rfl ?_
    refine v_calli (r_S F ls_X10_174 (sX10_isPlaceAndDay hw) (mkRm hR rfl rfl rfl rfl rfl rfl) rfl rfl (Nat.le_of_ble_eq_true rfl) dX10_way_8) (fun r3 G4 hw => ?_)
    refine v_if_eq (tgt := 23) F dX10_way_11 (by decide) (fun h => ?_) (fun h => ?_)
    · rw [if_pos h] at hw
      refine v_ldc2 (v := (-9000000000000000001)) F wd_337 dX10_way_23 ?_
      refine v_widen (c' := 0) (s' := 0) (by decide) (by decide) ?_
      exact v_lret F hw dX10_way_26
    · rw [if_neg h] at hw
      refine v_iload_n F dX10_way_14 rfl 3 rfl ?_
      refine v_if_lt (tgt := 23) F dX10_way_15 (by decide) (fun h => ?_) (fun h => ?_)
      · rw [if_pos h] at hw
        refine v_ldc2 (v := (-9000000000000000001)) F wd_337 dX10_way_23 ?_
        refine v_widen (c' := 0) (s' := 0) (by decide) (by decide) ?_
        exact v_lret F hw dX10_way_26
      · rw [if_neg h] at hw
        refine v_iload F dX10_way_18 4 rfl ?_
        refine v_if_ge (tgt := 27) F dX10_way_20 (by decide) (fun h => ?_) (fun h => ?_)
        · rw [if_pos h] at hw
          refine v_aload_n F dX10_way_27 rfl 0 rfl ?_
          refine v_iload_n F dX10_way_28 rfl 2 rfl ?_
          obtain ⟨kd5, hw⟩ := hw
          refine v_callv (r_V F lk_X10_177 kd5 (sX10_gather hw) (mkRm hR rfl rfl rfl rfl rfl rfl) rfl rfl (Nat.le_of_ble_eq_true rfl) dX10_way_29) (fun G7 hw => ?_)
          refine v_aload_n F dX10_way_32 rfl 0 rfl ?_
          obtain ⟨kd8, hw⟩ := hw
          obtain ⟨b9, hr10, hw⟩ := hw
          refine v_getS F fl_X10_34 (fun _ => rfl) kd8 hr10 dX10_way_33 ?_
          refine v_iload_n F dX10_way_36 rfl 1 rfl ?_
          refine v_bipush (v := 10) F dX10_way_37 (by decide) ?_
          refine v_idiv F dX10_way_39 (by decide) ?_
          refine v_iload_n F dX10_way_40 rfl 1 rfl ?_
          refine v_bipush (v := 10) F dX10_way_41 (by decide) ?_
          refine v_iremE F dX10_way_43 (by decide) ?_
          refine v_iload_n F dX10_way_44 rfl 3 rfl ?_
          refine v_aload_n F dX10_way_45 rfl 0 rfl ?_
          obtain ⟨b11, hr12, hw⟩ := hw
          refine v_getS F fl_X10_48 (fun _ => rfl) kd8 hr12 dX10_way_46 ?_
          obtain ⟨kd13, hw⟩ := hw
          refine v_calli (r_V F lk_X10_189 kd13 (sX9_pickWay hw) (mkRm hR rfl rfl rfl rfl rfl rfl) rfl rfl (Nat.le_of_ble_eq_true rfl) dX10_way_49) (fun r14 G15 hw => ?_)
          refine v_if_eq (tgt := 67) F dX10_way_52 (by decide) (fun h => ?_) (fun h => ?_)
          · rw [if_pos h] at hw
            refine v_ldc2 (v := (-9000000000000000005)) F wd_611 dX10_way_67 ?_
            refine v_widen (c' := 0) (s' := 0) (by decide) (by decide) ?_
            exact v_lret F hw dX10_way_70
          · rw [if_neg h] at hw
            refine v_iload F dX10_way_55 4 rfl ?_
            refine v_aload_n F dX10_way_57 rfl 0 rfl ?_
            obtain ⟨kd16, hw⟩ := hw
            obtain ⟨b17, hr18, hw⟩ := hw
            refine v_getS F fl_X10_34 (fun _ => rfl) kd16 hr18 dX10_way_58 ?_
            obtain ⟨kd19, hw⟩ := hw
            refine v_get F fl_X10_193 kd19 rfl dX10_way_61 ?_
            refine v_icmp_lt (tgt := 71) F dX10_way_64 (by decide) (fun h => ?_) (fun h => ?_)
            · rw [if_pos h] at hw
              refine v_aload_n F dX10_way_71 rfl 0 rfl ?_
              obtain ⟨b20, hr21, hw⟩ := hw
              refine v_getS F fl_X10_34 (fun _ => rfl) kd16 hr21 dX10_way_72 ?_
              obtain ⟨kd22, hw⟩ := hw
              obtain ⟨b23, hr24, hw⟩ := hw
              refine v_getSG F fl_X10_198 (fun _ => rfl) kd22 hr24 dX10_way_75 ?_
              refine v_iload F dX10_way_78 4 rfl ?_
              obtain ⟨kd25, hw⟩ := hw
              obtain ⟨hi26, hw⟩ := hw
              refine v_ialdE F rfl kd25 hi26 dX10_way_80 ?_
              refine v_i2l F dX10_way_81 ?_
              refine v_widen (c' := 0) (s' := 0) (by decide) (by decide) ?_
              exact v_lret F hw dX10_way_82
            · rw [if_neg h] at hw
              refine v_ldc2 (v := (-9000000000000000005)) F wd_611 dX10_way_67 ?_
              refine v_widen (c' := 0) (s' := 0) (by decide) (by decide) ?_
              exact v_lret F hw dX10_way_70
        · rw [if_neg h] at hw
          refine v_ldc2 (v := (-9000000000000000001)) F wd_337 dX10_way_23 ?_
          refine v_widen (c' := 0) (s' := 0) (by decide) (by decide) ?_
          exact v_lret F hw dX10_way_26
set_option maxRecDepth 100000 in
theorem sX10_factor {l : Launch} {D : Dx} {a0 : Nat} {p1 : Int32} {p2 : Int32} {p3 : Int32} {p4 : Int32} {G : Wd} {Q : Int64 → Wd → Prop} (hw : wpX10_factor a0 p1 p2 p3 p4 G Q) : Met l yX10_factor (wM yX10_factor cX10_factor 5 (some .long)) rmX10_factor (PM D [.ref a0, .int p1, .int p2, .int p3, .int p4] G) (QMl D Q) 0 0 (Ab D) := by
  refine v_met (by decide) (Nat.le_of_ble_eq_true rfl) (fun X hl hR F => ?_)
  subst hl
  have F : Fx X D cX10_factor 5 RX10 (some .long) "factor" := F
  refine v_cast (L' := [(0, .ref a0), (1, .int p1), (2, .int p2), (3, .int p3), (4, .int p4)]) rfl rfl ?_
  unfold wpX10_factor at hw
  refine v_iload_n F dX10_factor_0 rfl 1 rfl ?_
  refine v_calli (r_S F ls_X10_93 (sX10_isPair hw) (mkRm hR rfl rfl rfl rfl rfl rfl) rfl rfl (Nat.le_of_ble_eq_true rfl) dX10_factor_1) (fun r1 G2 hw => ?_)
  refine v_if_eq (tgt := 29) F dX10_factor_4 (by decide) (fun h => ?_) (fun h => ?_)
  · rw [if_pos h] at hw
    refine v_ldc2 (v := (-9000000000000000001)) F wd_337 dX10_factor_29 ?_
    refine v_widen (c' := 0) (s' := 0) (by decide) (by decide) ?_
    exact v_lret F hw dX10_factor_32
  · rw [if_neg h] at hw
    refine v_iload_n F dX10_factor_7 rfl 2 rfl ?_
    refine v_calli (r_S F ls_X10_174 (sX10_isPlaceAndDay hw) (mkRm hR rfl rfl rfl rfl rfl rfl) rfl rfl (Nat.le_of_ble_eq_true rfl) dX10_factor_8) (fun r3 G4 hw => ?_)
    refine v_if_eq (tgt := 29) F dX10_factor_11 (by decide) (fun h => ?_) (fun h => ?_)
    · rw [if_pos h] at hw
      refine v_ldc2 (v := (-9000000000000000001)) F wd_337 dX10_factor_29 ?_
      refine v_widen (c' := 0) (s' := 0) (by decide) (by decide) ?_
      exact v_lret F hw dX10_factor_32
    · rw [if_neg h] at hw
      refine v_iload_n F dX10_factor_14 rfl 3 rfl ?_
      refine v_calli (r_S F ls_X10_157 (sX10_isEither hw) (mkRm hR rfl rfl rfl rfl rfl rfl) rfl rfl (Nat.le_of_ble_eq_true rfl) dX10_factor_15) (fun r5 G6 hw => ?_)
      refine v_if_eq (tgt := 29) F dX10_factor_18 (by decide) (fun h => ?_) (fun h => ?_)
      · rw [if_pos h] at hw
        refine v_ldc2 (v := (-9000000000000000001)) F wd_337 dX10_factor_29 ?_
        refine v_widen (c' := 0) (s' := 0) (by decide) (by decide) ?_
        exact v_lret F hw dX10_factor_32
      · rw [if_neg h] at hw
        refine v_iload F dX10_factor_21 4 rfl ?_
        refine v_calli (r_S F ls_X10_157 (sX10_isEither hw) (mkRm hR rfl rfl rfl rfl rfl rfl) rfl rfl (Nat.le_of_ble_eq_true rfl) dX10_factor_23) (fun r7 G8 hw => ?_)
        refine v_if_ne (tgt := 33) F dX10_factor_26 (by decide) (fun h => ?_) (fun h => ?_)
        · rw [if_neg h] at hw
          refine v_aload_n F dX10_factor_33 rfl 0 rfl ?_
          refine v_iload_n F dX10_factor_34 rfl 2 rfl ?_
          obtain ⟨kd9, hw⟩ := hw
          refine v_callv (r_V F lk_X10_177 kd9 (sX10_gather hw) (mkRm hR rfl rfl rfl rfl rfl rfl) rfl rfl (Nat.le_of_ble_eq_true rfl) dX10_factor_35) (fun G11 hw => ?_)
          refine v_aload_n F dX10_factor_38 rfl 0 rfl ?_
          obtain ⟨kd12, hw⟩ := hw
          obtain ⟨b13, hr14, hw⟩ := hw
          refine v_getS F fl_X10_34 (fun _ => rfl) kd12 hr14 dX10_factor_39 ?_
          refine v_iload_n F dX10_factor_42 rfl 1 rfl ?_
          refine v_bipush (v := 10) F dX10_factor_43 (by decide) ?_
          refine v_idiv F dX10_factor_45 (by decide) ?_
          refine v_iload_n F dX10_factor_46 rfl 1 rfl ?_
          refine v_bipush (v := 10) F dX10_factor_47 (by decide) ?_
          refine v_iremE F dX10_factor_49 (by decide) ?_
          refine v_iconst (v := 0) F dX10_factor_50 (by decide) ?_
          refine v_aload_n F dX10_factor_51 rfl 0 rfl ?_
          obtain ⟨b15, hr16, hw⟩ := hw
          refine v_getS F fl_X10_48 (fun _ => rfl) kd12 hr16 dX10_factor_52 ?_
          obtain ⟨kd17, hw⟩ := hw
          refine v_calli (r_V F lk_X10_189 kd17 (sX9_pickWay hw) (mkRm hR rfl rfl rfl rfl rfl rfl) rfl rfl (Nat.le_of_ble_eq_true rfl) dX10_factor_55) (fun r18 G19 hw => ?_)
          refine v_if_ne (tgt := 65) F dX10_factor_58 (by decide) (fun h => ?_) (fun h => ?_)
          · rw [if_neg h] at hw
            refine v_aload_n F dX10_factor_65 rfl 0 rfl ?_
            obtain ⟨kd20, hw⟩ := hw
            obtain ⟨b21, hr22, hw⟩ := hw
            refine v_getS F fl_X10_34 (fun _ => rfl) kd20 hr22 dX10_factor_66 ?_
            obtain ⟨kd23, hw⟩ := hw
            refine v_callq (r_V F lk_X10_201 kd23 (sX9_low hw) (mkRm hR rfl rfl rfl rfl rfl rfl) rfl rfl (Nat.le_of_ble_eq_true rfl) dX10_factor_69) (fun r24 G25 hw => ?_)
            obtain ⟨b26, hr, hw⟩ := hw
            subst hr
            refine v_aload_n F dX10_factor_72 rfl 0 rfl ?_
            obtain ⟨kd27, hw⟩ := hw
            obtain ⟨b28, hr29, hw⟩ := hw
            refine v_getS F fl_X10_34 (fun _ => rfl) kd27 hr29 dX10_factor_73 ?_
            obtain ⟨kd30, hw⟩ := hw
            refine v_callq (r_V F lk_X10_204 kd30 (sX9_high hw) (mkRm hR rfl rfl rfl rfl rfl rfl) rfl rfl (Nat.le_of_ble_eq_true rfl) dX10_factor_76) (fun r31 G32 hw => ?_)
            obtain ⟨b33, hr, hw⟩ := hw
            subst hr
            refine v_iload_n F dX10_factor_79 rfl 3 rfl ?_
            refine v_iload F dX10_factor_80 4 rfl ?_
            refine v_calll (r_S F ls_X10_166 (sX10_endOf hw) (mkRm hR rfl rfl rfl rfl rfl rfl) rfl rfl (Nat.le_of_ble_eq_true rfl) dX10_factor_82) (fun r34 G35 hw => ?_)
            refine v_widen (c' := 0) (s' := 0) (by decide) (by decide) ?_
            exact v_lret F hw dX10_factor_85
          · rw [if_pos h] at hw
            refine v_ldc2 (v := (-9000000000000000005)) F wd_611 dX10_factor_61 ?_
            refine v_widen (c' := 0) (s' := 0) (by decide) (by decide) ?_
            exact v_lret F hw dX10_factor_64
        · rw [if_pos h] at hw
          refine v_ldc2 (v := (-9000000000000000001)) F wd_337 dX10_factor_29 ?_
          refine v_widen (c' := 0) (s' := 0) (by decide) (by decide) ?_
          exact v_lret F hw dX10_factor_32
set_option maxRecDepth 100000 in
theorem sX10_span {l : Launch} {D : Dx} {a0 : Nat} {p1 : Int32} {p2 : Int32} {p3 : Int32} {p4 : Int32} {G : Wd} {Q : Int64 → Wd → Prop} (hw : wpX10_span a0 p1 p2 p3 p4 G Q) : Met l yX10_span (wM yX10_span cX10_span 5 (some .long)) rmX10_span (PM D [.ref a0, .int p1, .int p2, .int p3, .int p4] G) (QMl D Q) 0 0 (Ab D) := by
  refine v_met (by decide) (Nat.le_of_ble_eq_true rfl) (fun X hl hR F => ?_)
  subst hl
  have F : Fx X D cX10_span 5 RX10 (some .long) "span" := F
  refine v_cast (L' := [(0, .ref a0), (1, .int p1), (2, .int p2), (3, .int p3), (4, .int p4)]) rfl rfl ?_
  unfold wpX10_span at hw
  refine v_iload_n F dX10_span_0 rfl 1 rfl ?_
  refine v_calli (r_S F ls_X10_93 (sX10_isPair hw) (mkRm hR rfl rfl rfl rfl rfl rfl) rfl rfl (Nat.le_of_ble_eq_true rfl) dX10_span_1) (fun r1 G2 hw => ?_)
  refine v_if_eq (tgt := 29) F dX10_span_4 (by decide) (fun h => ?_) (fun h => ?_)
  · rw [if_pos h] at hw
    refine v_ldc2 (v := (-9000000000000000001)) F wd_337 dX10_span_29 ?_
    refine v_widen (c' := 0) (s' := 0) (by decide) (by decide) ?_
    exact v_lret F hw dX10_span_32
  · rw [if_neg h] at hw
    refine v_iload_n F dX10_span_7 rfl 2 rfl ?_
    refine v_calli (r_S F ls_X10_174 (sX10_isPlaceAndDay hw) (mkRm hR rfl rfl rfl rfl rfl rfl) rfl rfl (Nat.le_of_ble_eq_true rfl) dX10_span_8) (fun r3 G4 hw => ?_)
    refine v_if_eq (tgt := 29) F dX10_span_11 (by decide) (fun h => ?_) (fun h => ?_)
    · rw [if_pos h] at hw
      refine v_ldc2 (v := (-9000000000000000001)) F wd_337 dX10_span_29 ?_
      refine v_widen (c' := 0) (s' := 0) (by decide) (by decide) ?_
      exact v_lret F hw dX10_span_32
    · rw [if_neg h] at hw
      refine v_iload_n F dX10_span_14 rfl 3 rfl ?_
      refine v_calli (r_S F ls_X10_157 (sX10_isEither hw) (mkRm hR rfl rfl rfl rfl rfl rfl) rfl rfl (Nat.le_of_ble_eq_true rfl) dX10_span_15) (fun r5 G6 hw => ?_)
      refine v_if_eq (tgt := 29) F dX10_span_18 (by decide) (fun h => ?_) (fun h => ?_)
      · rw [if_pos h] at hw
        refine v_ldc2 (v := (-9000000000000000001)) F wd_337 dX10_span_29 ?_
        refine v_widen (c' := 0) (s' := 0) (by decide) (by decide) ?_
        exact v_lret F hw dX10_span_32
      · rw [if_neg h] at hw
        refine v_iload F dX10_span_21 4 rfl ?_
        refine v_calli (r_S F ls_X10_157 (sX10_isEither hw) (mkRm hR rfl rfl rfl rfl rfl rfl) rfl rfl (Nat.le_of_ble_eq_true rfl) dX10_span_23) (fun r7 G8 hw => ?_)
        refine v_if_ne (tgt := 33) F dX10_span_26 (by decide) (fun h => ?_) (fun h => ?_)
        · rw [if_neg h] at hw
          refine v_aload_n F dX10_span_33 rfl 0 rfl ?_
          refine v_iload_n F dX10_span_34 rfl 2 rfl ?_
          obtain ⟨kd9, hw⟩ := hw
          refine v_callv (r_V F lk_X10_177 kd9 (sX10_gather hw) (mkRm hR rfl rfl rfl rfl rfl rfl) rfl rfl (Nat.le_of_ble_eq_true rfl) dX10_span_35) (fun G11 hw => ?_)
          refine v_aload_n F dX10_span_38 rfl 0 rfl ?_
          obtain ⟨kd12, hw⟩ := hw
          obtain ⟨b13, hr14, hw⟩ := hw
          refine v_getS F fl_X10_55 (fun _ => rfl) kd12 hr14 dX10_span_39 ?_
          refine v_iconst (v := 0) F dX10_span_42 (by decide) ?_
          obtain ⟨kd15, hw⟩ := hw
          refine v_putZ F fl_X10_206 (fun h => absurd h (by decide)) rfl (Or.inl rfl) kd15 dX10_span_43 ?_
          refine v_nmG (fun G16 hG16 => ?_)
          have hw := hw G16 hG16
          refine v_aload_n F dX10_span_46 rfl 0 rfl ?_
          have kd17 : gK G16 a0 = 10 := by rw [hG16]; exact kd12
          obtain ⟨b18, hr19, hw⟩ := hw
          refine v_getS F fl_X10_34 (fun _ => rfl) kd17 hr19 dX10_span_47 ?_
          refine v_iload_n F dX10_span_50 rfl 1 rfl ?_
          refine v_bipush (v := 10) F dX10_span_51 (by decide) ?_
          refine v_idiv F dX10_span_53 (by decide) ?_
          refine v_iload_n F dX10_span_54 rfl 1 rfl ?_
          refine v_bipush (v := 10) F dX10_span_55 (by decide) ?_
          refine v_iremE F dX10_span_57 (by decide) ?_
          refine v_aload_n F dX10_span_58 rfl 0 rfl ?_
          obtain ⟨b20, hr21, hw⟩ := hw
          refine v_getS F fl_X10_55 (fun _ => rfl) kd17 hr21 dX10_span_59 ?_
          obtain ⟨kd22, hw⟩ := hw
          refine v_callv (r_V F lk_X10_185 kd22 (sX9_seekWays hw) (mkRm hR rfl rfl rfl rfl rfl rfl) rfl rfl (Nat.le_of_ble_eq_true rfl) dX10_span_62) (fun G24 hw => ?_)
          refine v_aload_n F dX10_span_65 rfl 0 rfl ?_
          obtain ⟨kd25, hw⟩ := hw
          obtain ⟨b26, hr27, hw⟩ := hw
          refine v_getS F fl_X10_55 (fun _ => rfl) kd25 hr27 dX10_span_66 ?_
          obtain ⟨kd28, hw⟩ := hw
          refine v_get F fl_X10_206 kd28 rfl dX10_span_69 ?_
          refine v_if_ne (tgt := 79) F dX10_span_72 (by decide) (fun h => ?_) (fun h => ?_)
          · rw [if_neg h] at hw
            refine v_aload_n F dX10_span_79 rfl 0 rfl ?_
            obtain ⟨b29, hr30, hw⟩ := hw
            refine v_getS F fl_X10_55 (fun _ => rfl) kd25 hr30 dX10_span_80 ?_
            obtain ⟨kd31, hw⟩ := hw
            obtain ⟨b32, hr33, hw⟩ := hw
            refine v_getSG F fl_X10_208 (fun _ => rfl) kd31 hr33 dX10_span_83 ?_
            refine v_aload_n F dX10_span_86 rfl 0 rfl ?_
            obtain ⟨b34, hr35, hw⟩ := hw
            refine v_getS F fl_X10_55 (fun _ => rfl) kd25 hr35 dX10_span_87 ?_
            obtain ⟨kd36, hw⟩ := hw
            obtain ⟨b37, hr38, hw⟩ := hw
            refine v_getSG F fl_X10_209 (fun _ => rfl) kd36 hr38 dX10_span_90 ?_
            refine v_iload_n F dX10_span_93 rfl 3 rfl ?_
            refine v_iload F dX10_span_94 4 rfl ?_
            refine v_calll (r_S F ls_X10_166 (sX10_endOf hw) (mkRm hR rfl rfl rfl rfl rfl rfl) rfl rfl (Nat.le_of_ble_eq_true rfl) dX10_span_96) (fun r39 G40 hw => ?_)
            refine v_widen (c' := 0) (s' := 0) (by decide) (by decide) ?_
            exact v_lret F hw dX10_span_99
          · rw [if_pos h] at hw
            refine v_ldc2 (v := (-9000000000000000005)) F wd_611 dX10_span_75 ?_
            refine v_widen (c' := 0) (s' := 0) (by decide) (by decide) ?_
            exact v_lret F hw dX10_span_78
        · rw [if_pos h] at hw
          refine v_ldc2 (v := (-9000000000000000001)) F wd_337 dX10_span_29 ?_
          refine v_widen (c' := 0) (s' := 0) (by decide) (by decide) ?_
          exact v_lret F hw dX10_span_32
set_option maxRecDepth 100000 in
theorem sX10_quarrel {l : Launch} {D : Dx} {a0 : Nat} {p1 : Int32} {p2 : Int32} {G : Wd} {Q : Int64 → Wd → Prop} (hw : wpX10_quarrel a0 p1 p2 G Q) : Met l yX10_quarrel (wM yX10_quarrel cX10_quarrel 3 (some .long)) rmX10_quarrel (PM D [.ref a0, .int p1, .int p2] G) (QMl D Q) 0 0 (Ab D) := by
  refine v_met (by decide) (Nat.le_of_ble_eq_true rfl) (fun X hl hR F => ?_)
  subst hl
  have F : Fx X D cX10_quarrel 3 RX10 (some .long) "quarrel" := F
  refine v_cast (L' := [(0, .ref a0), (1, .int p1), (2, .int p2)]) rfl rfl ?_
  unfold wpX10_quarrel at hw
  refine v_iload_n F dX10_quarrel_0 rfl 1 rfl ?_
  refine v_calli (r_S F ls_X10_174 (sX10_isPlaceAndDay hw) (mkRm hR rfl rfl rfl rfl rfl rfl) rfl rfl (Nat.le_of_ble_eq_true rfl) dX10_quarrel_1) (fun r1 G2 hw => ?_)
  refine v_if_eq (tgt := 11) F dX10_quarrel_4 (by decide) (fun h => ?_) (fun h => ?_)
  · rw [if_pos h] at hw
    refine v_ldc2 (v := (-9000000000000000001)) F wd_337 dX10_quarrel_11 ?_
    refine v_widen (c' := 0) (s' := 0) (by decide) (by decide) ?_
    exact v_lret F hw dX10_quarrel_14
  · rw [if_neg h] at hw
    refine v_iload_n F dX10_quarrel_7 rfl 2 rfl ?_
    refine v_if_ge (tgt := 15) F dX10_quarrel_8 (by decide) (fun h => ?_) (fun h => ?_)
    · rw [if_pos h] at hw
      refine v_aload_n F dX10_quarrel_15 rfl 0 rfl ?_
      refine v_iload_n F dX10_quarrel_16 rfl 1 rfl ?_
      obtain ⟨kd3, hw⟩ := hw
      refine v_callv (r_V F lk_X10_177 kd3 (sX10_gather hw) (mkRm hR rfl rfl rfl rfl rfl rfl) rfl rfl (Nat.le_of_ble_eq_true rfl) dX10_quarrel_17) (fun G5 hw => ?_)
      refine v_aload_n F dX10_quarrel_20 rfl 0 rfl ?_
      obtain ⟨kd6, hw⟩ := hw
      obtain ⟨b7, hr8, hw⟩ := hw
      refine v_getS F fl_X10_62 (fun _ => rfl) kd6 hr8 dX10_quarrel_21 ?_
      obtain ⟨kd9, hw⟩ := hw
      refine v_callv (r_V F lk_X10_210 kd9 (sX4_begin hw) (mkRm hR rfl rfl rfl rfl rfl rfl) rfl rfl (Nat.le_of_ble_eq_true rfl) dX10_quarrel_24) (fun G11 hw => ?_)
      refine v_aload_n F dX10_quarrel_27 rfl 0 rfl ?_
      obtain ⟨kd12, hw⟩ := hw
      obtain ⟨b13, hr14, hw⟩ := hw
      refine v_getS F fl_X10_34 (fun _ => rfl) kd12 hr14 dX10_quarrel_28 ?_
      refine v_aload_n F dX10_quarrel_31 rfl 0 rfl ?_
      obtain ⟨b15, hr16, hw⟩ := hw
      refine v_getS F fl_X10_62 (fun _ => rfl) kd12 hr16 dX10_quarrel_32 ?_
      obtain ⟨kd17, hw⟩ := hw
      refine v_callv (r_V F lk_X10_213 kd17 (sX9_seekRings hw) (mkRm hR rfl rfl rfl rfl rfl rfl) rfl rfl (Nat.le_of_ble_eq_true rfl) dX10_quarrel_35) (fun G19 hw => ?_)
      refine v_aload_n F dX10_quarrel_38 rfl 0 rfl ?_
      obtain ⟨kd20, hw⟩ := hw
      obtain ⟨b21, hr22, hw⟩ := hw
      refine v_getS F fl_X10_62 (fun _ => rfl) kd20 hr22 dX10_quarrel_39 ?_
      obtain ⟨kd23, hw⟩ := hw
      refine v_get F fl_X10_217 kd23 rfl dX10_quarrel_42 ?_
      refine v_if_eq (tgt := 52) F dX10_quarrel_45 (by decide) (fun h => ?_) (fun h => ?_)
      · rw [if_pos h] at hw
        refine v_iload_n F dX10_quarrel_52 rfl 2 rfl ?_
        refine v_aload_n F dX10_quarrel_53 rfl 0 rfl ?_
        obtain ⟨b24, hr25, hw⟩ := hw
        refine v_getS F fl_X10_62 (fun _ => rfl) kd20 hr25 dX10_quarrel_54 ?_
        obtain ⟨kd26, hw⟩ := hw
        refine v_get F fl_X10_222 kd26 rfl dX10_quarrel_57 ?_
        refine v_icmp_ge (tgt := 76) F dX10_quarrel_60 (by decide) (fun h => ?_) (fun h => ?_)
        · rw [if_pos h] at hw
          refine v_ldc2 (v := (-9000000000000000005)) F wd_611 dX10_quarrel_76 ?_
          refine v_widen (c' := 0) (s' := 0) (by decide) (by decide) ?_
          exact v_lret F hw dX10_quarrel_79
        · rw [if_neg h] at hw
          refine v_aload_n F dX10_quarrel_63 rfl 0 rfl ?_
          obtain ⟨b27, hr28, hw⟩ := hw
          refine v_getS F fl_X10_62 (fun _ => rfl) kd20 hr28 dX10_quarrel_64 ?_
          obtain ⟨kd29, hw⟩ := hw
          obtain ⟨b30, hr31, hw⟩ := hw
          refine v_getSG F fl_X10_223 (fun _ => rfl) kd29 hr31 dX10_quarrel_67 ?_
          refine v_iload_n F dX10_quarrel_70 rfl 2 rfl ?_
          obtain ⟨kd32, hw⟩ := hw
          obtain ⟨hi33, hw⟩ := hw
          refine v_ialdE F rfl kd32 hi33 dX10_quarrel_71 ?_
          refine v_i2l F dX10_quarrel_72 ?_
          refine v_goto (tgt := 79) F dX10_quarrel_73 (by decide) ?_
          refine v_widen (c' := 0) (s' := 0) (by decide) (by decide) ?_
          exact v_lret F hw dX10_quarrel_79
      · rw [if_neg h] at hw
        refine v_ldc2 (v := (-9000000000000000004)) F wd_486 dX10_quarrel_48 ?_
        refine v_widen (c' := 0) (s' := 0) (by decide) (by decide) ?_
        exact v_lret F hw dX10_quarrel_51
    · rw [if_neg h] at hw
      refine v_ldc2 (v := (-9000000000000000001)) F wd_337 dX10_quarrel_11 ?_
      refine v_widen (c' := 0) (s' := 0) (by decide) (by decide) ?_
      exact v_lret F hw dX10_quarrel_14
set_option maxRecDepth 100000 in
theorem sX10_findCure {l : Launch} {D : Dx} {a0 : Nat} {p1 : Int32} {G : Wd} {Q : Int64 → Wd → Prop} (hw : wpX10_findCure a0 p1 G Q) : Met l yX10_findCure (wM yX10_findCure cX10_findCure 2 (some .long)) rmX10_findCure (PM D [.ref a0, .int p1] G) (QMl D Q) 0 0 (Ab D) := by
  refine v_met (by decide) (Nat.le_of_ble_eq_true rfl) (fun X hl hR F => ?_)
  subst hl
  have F : Fx X D cX10_findCure 2 RX10 (some .long) "findCure" := F
  refine v_cast (L' := [(0, .ref a0), (1, .int p1)]) rfl rfl ?_
  unfold wpX10_findCure at hw
  refine v_aload_n F dX10_findCure_0 rfl 0 rfl ?_
  refine v_iload_n F dX10_findCure_1 rfl 1 rfl ?_
  obtain ⟨kd1, hw⟩ := hw
  refine v_callv (r_V F lk_X10_177 kd1 (sX10_gather hw) (mkRm hR rfl rfl rfl rfl rfl rfl) rfl rfl (Nat.le_of_ble_eq_true rfl) dX10_findCure_2) (fun G3 hw => ?_)
  refine v_aload_n F dX10_findCure_5 rfl 0 rfl ?_
  obtain ⟨kd4, hw⟩ := hw
  obtain ⟨b5, hr6, hw⟩ := hw
  refine v_getS F fl_X10_62 (fun _ => rfl) kd4 hr6 dX10_findCure_6 ?_
  obtain ⟨kd7, hw⟩ := hw
  refine v_callv (r_V F lk_X10_210 kd7 (sX4_begin hw) (mkRm hR rfl rfl rfl rfl rfl rfl) rfl rfl (Nat.le_of_ble_eq_true rfl) dX10_findCure_9) (fun G9 hw => ?_)
  refine v_aload_n F dX10_findCure_12 rfl 0 rfl ?_
  obtain ⟨kd10, hw⟩ := hw
  obtain ⟨b11, hr12, hw⟩ := hw
  refine v_getS F fl_X10_62 (fun _ => rfl) kd10 hr12 dX10_findCure_13 ?_
  refine v_aload_n F dX10_findCure_16 rfl 0 rfl ?_
  obtain ⟨b13, hr14, hw⟩ := hw
  refine v_getS F fl_X10_34 (fun _ => rfl) kd10 hr14 dX10_findCure_17 ?_
  obtain ⟨kd15, hw⟩ := hw
  refine v_calli (r_V F lk_X10_331 kd15 (sX4_choose hw) (mkRm hR rfl rfl rfl rfl rfl rfl) rfl rfl (Nat.le_of_ble_eq_true rfl) dX10_findCure_20) (fun r16 G17 hw => ?_)
  refine v_if_ne (tgt := 30) F dX10_findCure_23 (by decide) (fun h => ?_) (fun h => ?_)
  · rw [if_neg h] at hw
    refine v_aload_n F dX10_findCure_30 rfl 0 rfl ?_
    obtain ⟨kd18, hw⟩ := hw
    obtain ⟨b19, hr20, hw⟩ := hw
    refine v_getS F fl_X10_34 (fun _ => rfl) kd18 hr20 dX10_findCure_31 ?_
    refine v_aload_n F dX10_findCure_34 rfl 0 rfl ?_
    obtain ⟨b21, hr22, hw⟩ := hw
    refine v_getS F fl_X10_62 (fun _ => rfl) kd18 hr22 dX10_findCure_35 ?_
    obtain ⟨kd23, hw⟩ := hw
    refine v_callv (r_V F lk_X10_213 kd23 (sX9_seekRings hw) (mkRm hR rfl rfl rfl rfl rfl rfl) rfl rfl (Nat.le_of_ble_eq_true rfl) dX10_findCure_38) (fun G25 hw => ?_)
    refine v_aload_n F dX10_findCure_41 rfl 0 rfl ?_
    obtain ⟨kd26, hw⟩ := hw
    obtain ⟨b27, hr28, hw⟩ := hw
    refine v_getS F fl_X10_62 (fun _ => rfl) kd26 hr28 dX10_findCure_42 ?_
    obtain ⟨kd29, hw⟩ := hw
    refine v_get F fl_X10_217 kd29 rfl dX10_findCure_45 ?_
    refine v_if_eq (tgt := 57) F dX10_findCure_48 (by decide) (fun h => ?_) (fun h => ?_)
    · rw [if_pos h] at hw
      refine v_aload_n F dX10_findCure_57 rfl 0 rfl ?_
      obtain ⟨b30, hr31, hw⟩ := hw
      refine v_getS F fl_X10_62 (fun _ => rfl) kd26 hr31 dX10_findCure_58 ?_
      obtain ⟨kd32, hw⟩ := hw
      refine v_calll (r_V F lk_X10_335 kd32 (sX4_cheapest hw) (mkRm hR rfl rfl rfl rfl rfl rfl) rfl rfl (Nat.le_of_ble_eq_true rfl) dX10_findCure_61) (fun r33 G34 hw => ?_)
      refine v_widen (c' := 0) (s' := 0) (by decide) (by decide) ?_
      exact v_lret F hw dX10_findCure_64
    · rw [if_neg h] at hw
      refine v_ldc2 (v := (-9000000000000000004)) F wd_486 dX10_findCure_51 ?_
      refine v_goto (tgt := 64) F dX10_findCure_54 (by decide) ?_
      refine v_widen (c' := 0) (s' := 0) (by decide) (by decide) ?_
      exact v_lret F hw dX10_findCure_64
  · rw [if_pos h] at hw
    refine v_ldc2 (v := (-9000000000000000004)) F wd_486 dX10_findCure_26 ?_
    refine v_widen (c' := 0) (s' := 0) (by decide) (by decide) ?_
    exact v_lret F hw dX10_findCure_29
set_option maxRecDepth 100000 in
theorem sX10_cure {l : Launch} {D : Dx} {a0 : Nat} {p1 : Int32} {G : Wd} {Q : Int64 → Wd → Prop} (hw : wpX10_cure a0 p1 G Q) : Met l yX10_cure (wM yX10_cure cX10_cure 2 (some .long)) rmX10_cure (PM D [.ref a0, .int p1] G) (QMl D Q) 0 0 (Ab D) := by
  refine v_met (by decide) (Nat.le_of_ble_eq_true rfl) (fun X hl hR F => ?_)
  subst hl
  have F : Fx X D cX10_cure 2 RX10 (some .long) "cure" := F
  refine v_cast (L' := [(0, .ref a0), (1, .int p1)]) rfl rfl ?_
  unfold wpX10_cure at hw
  refine v_iload_n F dX10_cure_0 rfl 1 rfl ?_
  refine v_calli (r_S F ls_X10_174 (sX10_isPlaceAndDay hw) (mkRm hR rfl rfl rfl rfl rfl rfl) rfl rfl (Nat.le_of_ble_eq_true rfl) dX10_cure_1) (fun r1 G2 hw => ?_)
  refine v_if_eq (tgt := 15) F dX10_cure_4 (by decide) (fun h => ?_) (fun h => ?_)
  · rw [if_pos h] at hw
    refine v_ldc2 (v := (-9000000000000000001)) F wd_337 dX10_cure_15 ?_
    refine v_widen (c' := 0) (s' := 0) (by decide) (by decide) ?_
    exact v_lret F hw dX10_cure_18
  · rw [if_neg h] at hw
    refine v_aload_n F dX10_cure_7 rfl 0 rfl ?_
    refine v_iload_n F dX10_cure_8 rfl 1 rfl ?_
    obtain ⟨kd3, hw⟩ := hw
    refine v_calll (r_V F lk_X10_224 kd3 (sX10_findCure hw) (mkRm hR rfl rfl rfl rfl rfl rfl) rfl rfl (Nat.le_of_ble_eq_true rfl) dX10_cure_9) (fun r4 G5 hw => ?_)
    refine v_goto (tgt := 18) F dX10_cure_12 (by decide) ?_
    refine v_widen (c' := 0) (s' := 0) (by decide) (by decide) ?_
    exact v_lret F hw dX10_cure_18
set_option maxRecDepth 100000 in
theorem sbX10_heal_70 {X : Cx} {D : Dx} (hR : X.2.2.2.1 = rmX10_heal) (F : Fx X D cX10_heal 6 RX10 (some .long) "heal") {Q : Int64 → Wd → Prop} {k30 : Nat → Int64 → Int32 → Wd → Prop} (hk30 : ∀ v0 v2 v4 G, k30 v0 v2 v4 G → V X D 6 (ZM X D (QMl D Q) 0 0) G 0 0 30 [(0, .ref v0), (2, .long v2), (4, .int v4)] []) {v0 : Nat} {v2 : Int64} {v4 : Int32} {G : Wd} (hw : wpX10_heal_70 Q k30 v0 v2 v4 G) : V X D 6 (ZM X D (QMl D Q) 0 0) G 0 0 70 [(0, .ref v0), (2, .long v2), (4, .int v4)] [] := by
  unfold wpX10_heal_70 at hw
  refine v_iincN (c := 1) F dX10_heal_70 2 rfl (by decide) (by decide) (fun x1 hx1 => ?_)
  refine v_cast (L' := [(4, .int x1), (0, .ref v0), (2, .long v2)]) rfl rfl ?_
  have hw := hw x1 hx1
  refine v_goto (tgt := 30) F dX10_heal_73 (by decide) ?_
  exact v_loc [1, 2, 0] rfl (hk30 _ _ _ _ hw)
set_option maxRecDepth 100000 in
theorem sbX10_heal_30 {X : Cx} {D : Dx} (hR : X.2.2.2.1 = rmX10_heal) (F : Fx X D cX10_heal 6 RX10 (some .long) "heal") {Q : Int64 → Wd → Prop} : ∀ (n : Nat) (v0 : Nat) (v2 : Int64) (v4 : Int32) (G : Wd), wpX10_heal_30 Q  n v0 v2 v4 G → V X D 6 (ZM X D (QMl D Q) 0 0) G 0 0 30 [(0, .ref v0), (2, .long v2), (4, .int v4)] [] := by
  intro n
  induction n with
  | zero => intro v0 v2 v4 G hw; exact hw.elim
  | succ n ih =>
    intro v0 v2 v4 G hw
    simp only [wpX10_heal_30] at hw
    refine v_iload F dX10_heal_30 2 rfl ?_
    refine v_aload_n F dX10_heal_32 rfl 0 rfl ?_
    obtain ⟨kd2, hw⟩ := hw
    refine v_get F fl_X10_99 kd2 rfl dX10_heal_33 ?_
    refine v_icmp_ge (tgt := 76) F dX10_heal_36 (by decide) (fun h => ?_) (fun h => ?_)
    · rw [if_pos h] at hw
      refine v_lload_n F dX10_heal_76 rfl 1 rfl ?_
      refine v_calli (r_S F ls_X10_228 (sJ13_bitCount_95d88 hw) (mkRm hR rfl rfl rfl rfl rfl rfl) rfl rfl (Nat.le_of_ble_eq_true rfl) dX10_heal_77) (fun r3 G4 hw => ?_)
      refine v_i2l F dX10_heal_80 ?_
      refine v_widen (c' := 0) (s' := 0) (by decide) (by decide) ?_
      exact v_lret F hw dX10_heal_81
    · rw [if_neg h] at hw
      refine v_aload_n F dX10_heal_39 rfl 0 rfl ?_
      obtain ⟨b5, hr6, hw⟩ := hw
      refine v_getS F fl_X10_15 (fun _ => rfl) kd2 hr6 dX10_heal_40 ?_
      refine v_iload F dX10_heal_43 2 rfl ?_
      obtain ⟨kd7, hw⟩ := hw
      obtain ⟨hi8, hw⟩ := hw
      refine v_aaldE (t := 5) F rfl rfl kd7 hi8 dX10_heal_45 (fun r9 hr9 => ?_)
      have hw := hw r9 hr9
      clear hr9
      refine v_qstore (L' := [(5, va_rf r9), (0, .ref v0), (2, .long v2), (4, .int v4)]) F dX10_heal_46 (by decide) rfl ?_
      refine v_qload F dX10_heal_48 0 rfl ?_
      refine v_ifnull (tgt := 70) F dX10_heal_50 (by decide) (fun hr => ?_) (fun b10 hr => ?_)
      · subst hr
        dsimp only at hw
        exact v_loc [1, 2, 3] rfl (sbX10_heal_70 hR F ih hw)
      · subst hr
        dsimp only at hw
        refine v_lload_n F dX10_heal_53 rfl 2 rfl ?_
        refine v_iload F dX10_heal_54 3 rfl ?_
        refine v_lshr F dX10_heal_56 ?_
        refine v_lconst (v := 1) F dX10_heal_57 rfl ?_
        refine v_land F dX10_heal_58 ?_
        refine v_lconst (v := 1) F dX10_heal_59 rfl ?_
        refine v_lcmp F dX10_heal_60 ?_
        refine v_lif_ne (tgt := 70) F dX10_heal_61 (by decide) (fun h => ?_) (fun h => ?_)
        · rw [if_neg h] at hw
          exact v_loc [1, 2, 3] rfl (sbX10_heal_70 hR F ih hw)
        · rw [if_pos h] at hw
          refine v_aload F dX10_heal_64 0 rfl ?_
          refine v_iconst (v := 1) F dX10_heal_66 (by decide) ?_
          obtain ⟨kd11, hw⟩ := hw
          refine v_putZ F fl_X10_138 (fun h => absurd h (by decide)) rfl (Or.inr rfl) kd11 dX10_heal_67 ?_
          refine v_nmG (fun G12 hG12 => ?_)
          have hw := hw G12 hG12
          exact v_loc [1, 2, 3] rfl (sbX10_heal_70 hR F ih hw)
set_option maxRecDepth 100000 in
theorem sbX10_heal_18 {X : Cx} {D : Dx} (hR : X.2.2.2.1 = rmX10_heal) (F : Fx X D cX10_heal 6 RX10 (some .long) "heal") {Q : Int64 → Wd → Prop} {v0 : Nat} {s0 : Int64} {G : Wd} (hw : wpX10_heal_18 Q  v0 s0 G) : V X D 6 (ZM X D (QMl D Q) 0 0) G 0 0 18 [(0, .ref v0)] [.long s0] := by
  unfold wpX10_heal_18 at hw
  refine v_lstore_n (L' := [(2, .long s0), (0, .ref v0)]) F dX10_heal_18 rfl (by decide) rfl ?_
  refine v_lload_n F dX10_heal_19 rfl 0 rfl ?_
  refine v_lconst (v := 0) F dX10_heal_20 rfl ?_
  refine v_lcmp F dX10_heal_21 ?_
  refine v_lif_ge (tgt := 27) F dX10_heal_22 (by decide) (fun h => ?_) (fun h => ?_)
  · rw [if_neg h] at hw
    refine v_iconst (v := 0) F dX10_heal_27 (by decide) ?_
    refine v_istore (L' := [(4, .int 0), (2, .long s0), (0, .ref v0)]) F dX10_heal_28 (by decide) rfl ?_
    obtain ⟨m, hw⟩ := hw
    exact v_loc [2, 1, 0] rfl (sbX10_heal_30 hR F  m _ _ _ _ hw)
  · rw [if_pos h] at hw
    refine v_lload_n F dX10_heal_25 rfl 0 rfl ?_
    exact v_lret F hw dX10_heal_26
set_option maxRecDepth 100000 in
theorem sX10_heal {l : Launch} {D : Dx} {a0 : Nat} {p1 : Int32} {G : Wd} {Q : Int64 → Wd → Prop} (hw : wpX10_heal a0 p1 G Q) : Met l yX10_heal (wM yX10_heal cX10_heal 6 (some .long)) rmX10_heal (PM D [.ref a0, .int p1] G) (QMl D Q) 0 0 (Ab D) := by
  refine v_met (by decide) (Nat.le_of_ble_eq_true rfl) (fun X hl hR F => ?_)
  subst hl
  have F : Fx X D cX10_heal 6 RX10 (some .long) "heal" := F
  refine v_cast (L' := [(0, .ref a0), (1, .int p1)]) rfl rfl ?_
  unfold wpX10_heal at hw
  refine v_iload_n F dX10_heal_0 rfl 1 rfl ?_
  refine v_calli (r_S F ls_X10_174 (sX10_isPlaceAndDay hw) (mkRm hR rfl rfl rfl rfl rfl rfl) rfl rfl (Nat.le_of_ble_eq_true rfl) dX10_heal_1) (fun r13 G14 hw => ?_)
  refine v_if_eq (tgt := 15) F dX10_heal_4 (by decide) (fun h => ?_) (fun h => ?_)
  · rw [if_pos h] at hw
    refine v_ldc2 (v := (-9000000000000000001)) F wd_337 dX10_heal_15 ?_
    exact v_loc [0] rfl (sbX10_heal_18 hR F  hw)
  · rw [if_neg h] at hw
    refine v_aload_n F dX10_heal_7 rfl 0 rfl ?_
    refine v_iload_n F dX10_heal_8 rfl 1 rfl ?_
    obtain ⟨kd15, hw⟩ := hw
    refine v_calll (r_V F lk_X10_224 kd15 (sX10_findCure hw) (mkRm hR rfl rfl rfl rfl rfl rfl) rfl rfl (Nat.le_of_ble_eq_true rfl) dX10_heal_9) (fun r16 G17 hw => ?_)
    refine v_goto (tgt := 18) F dX10_heal_12 (by decide) ?_
    exact v_loc [0] rfl (sbX10_heal_18 hR F  hw)
set_option maxRecDepth 100000 in
theorem sX10_findCustom {l : Launch} {D : Dx} {a0 : Nat} {p1 : Int32} {G : Wd} {Q : Option Nat → Wd → Prop} (hw : wpX10_findCustom a0 p1 G Q) : Met l yX10_findCustom (wM yX10_findCustom cX10_findCustom 2 (some (.object "OldReckoner$Custom"))) rmX10_findCustom (PM D [.ref a0, .int p1] G) (QMq D Q) 0 0 (Ab D) := by
  refine v_met (by decide) (Nat.le_of_ble_eq_true rfl) (fun X hl hR F => ?_)
  subst hl
  have F : Fx X D cX10_findCustom 2 RX10 (some (.object "OldReckoner$Custom")) "findCustom" := F
  refine v_cast (L' := [(0, .ref a0), (1, .int p1)]) rfl rfl ?_
  unfold wpX10_findCustom at hw
  refine v_iload_n F dX10_findCustom_0 rfl 1 rfl ?_
  refine v_if_lt (tgt := 18) F dX10_findCustom_1 (by decide) (fun h => ?_) (fun h => ?_)
  · rw [if_pos h] at hw
    refine v_null F dX10_findCustom_18 ?_
    exact v_qret F hw dX10_findCustom_19
  · rw [if_neg h] at hw
    refine v_iload_n F dX10_findCustom_4 rfl 1 rfl ?_
    refine v_iconst (v := 4) F dX10_findCustom_5 (by decide) ?_
    refine v_icmp_ge (tgt := 18) F dX10_findCustom_6 (by decide) (fun h => ?_) (fun h => ?_)
    · rw [if_pos h] at hw
      refine v_null F dX10_findCustom_18 ?_
      exact v_qret F hw dX10_findCustom_19
    · rw [if_neg h] at hw
      refine v_aload_n F dX10_findCustom_9 rfl 0 rfl ?_
      obtain ⟨kd1, hw⟩ := hw
      obtain ⟨b2, hr3, hw⟩ := hw
      refine v_getS F fl_X10_21 (fun _ => rfl) kd1 hr3 dX10_findCustom_10 ?_
      refine v_iload_n F dX10_findCustom_13 rfl 1 rfl ?_
      obtain ⟨kd4, hw⟩ := hw
      obtain ⟨hi5, hw⟩ := hw
      obtain ⟨b6, hr7, hw⟩ := hw
      refine v_aaldS (t := 3) F rfl rfl kd4 hi5 hr7 dX10_findCustom_14 ?_
      refine v_goto (tgt := 19) F dX10_findCustom_15 (by decide) ?_
      exact v_qret F hw dX10_findCustom_19
