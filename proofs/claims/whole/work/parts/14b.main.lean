set_option maxRecDepth 100000 in
def wpX10_custom (a0 : Nat) (p1 : Int32) (p2 : Int32) (G : Wd) (Q : Int64 → Wd → Prop) : Prop := gK G a0 = 10 ∧ wpX10_findCustom a0 p1 G (fun r2 G3 => (match r2 with | none => (Q (-9000000000000000001) G3) | some b4 => (if p2 ≤ 5 then (if 0 ≤ p2 then (gK G3 b4 = 2 ∧ wpX1_begin b4 p2 G3 (fun G7 => Q ((p2).toInt64) G7)) else (Q (-9000000000000000014) G3)) else (Q (-9000000000000000001) G3))))
abbrev rmX10_custom : Room := { frames := 2, cells := 0, slots := 0, locals := 44 }
set_option maxRecDepth 100000 in
def wpX10_step (a0 : Nat) (p1 : Int32) (p2 : Int32) (p3 : Int32) (G : Wd) (Q : Int64 → Wd → Prop) : Prop := gK G a0 = 10 ∧ wpX10_findCustom a0 p1 G (fun r2 G3 => (match r2 with | none => (Q (-9000000000000000001) G3) | some b4 => (gK G3 b4 = 2 ∧ if (gI G3 b4 2) = 0 then (if p2 < 0 then (Q (-9000000000000000013) G3) else (if p2 < (gI G3 b4 1) then (if p3 < 2 then (Q (-9000000000000000001) G3) else (if p3 ≤ 1000 then (∃ b6, gR G3 b4 0 = some b6 ∧ gK G3 b6 = 20 ∧ vp_in p2 (gN G3 b6) ∧ ∀ x10 : Int32, x10 = gI G3 b6 (p2).toNatClampNeg → ∃ b11, gR G3 b4 0 = some b11 ∧ gK G3 b11 = 20 ∧ vp_in p2 (gN G3 b11) ∧ ∀ G15 : Wd, G15 = uI G3 b11 (p2).toNatClampNeg p3 → Q ((x10).toInt64) G15) else (Q (-9000000000000000001) G3))) else (Q (-9000000000000000013) G3))) else (Q (-9000000000000000011) G3))))
abbrev rmX10_step : Room := { frames := 1, cells := 0, slots := 0, locals := 21 }
def wpX10_copy_77 (Q : Int64 → Wd → Prop) : Nat → Int32 → Nat → Nat → Int32 → Wd → Prop
  | 0, _, _, _, _, _ => False
  | n + 1, v3, v4, v5, v6, G => if v3 ≤ v6 then (Q ((v3).toInt64) G) else (gK G v5 = 2 ∧ ∃ b2, gR G v5 0 = some b2 ∧ gK G v4 = 2 ∧ ∃ b5, gR G v4 0 = some b5 ∧ gK G b5 = 20 ∧ vp_in v6 (gN G b5) ∧ gK G b2 = 20 ∧ vp_in v6 (gN G b2) ∧ ∀ G11 : Wd, G11 = uI G b2 (v6).toNatClampNeg (gI G b5 (v6).toNatClampNeg) → ∀ x12 : Int32, x12 = v6 + 1 → wpX10_copy_77 Q n v3 v4 v5 x12 G11)
set_option maxRecDepth 100000 in
def wpX10_copy (a0 : Nat) (p1 : Int32) (p2 : Int32) (p3 : Int32) (G : Wd) (Q : Int64 → Wd → Prop) : Prop := gK G a0 = 10 ∧ wpX10_findCustom a0 p1 G (fun r14 G15 => gK G15 a0 = 10 ∧ wpX10_findCustom a0 p2 G15 (fun r17 G18 => (match r14 with | none => (Q (-9000000000000000001) G18) | some b19 => ((match r17 with | none => (Q (-9000000000000000001) G18) | some b20 => (gK G18 b19 = 2 ∧ if (gI G18 b19 2) = 0 then (gK G18 b20 = 2 ∧ if (gI G18 b20 2) = 0 then (if p3 < 0 then (Q (-9000000000000000013) G18) else (if (gI G18 b19 1) < p3 then (Q (-9000000000000000013) G18) else (if p3 ≤ (gI G18 b20 1) then (∃ m, wpX10_copy_77 Q m p3 b19 b20 0 G18) else (Q (-9000000000000000013) G18)))) else (Q (-9000000000000000011) G18)) else (Q (-9000000000000000011) G18)))))))
abbrev rmX10_copy : Room := { frames := 1, cells := 0, slots := 0, locals := 21 }
set_option maxRecDepth 100000 in
def wpX10_part (a0 : Nat) (p1 : Int32) (p2 : Int64) (p4 : Int32) (G : Wd) (Q : Int64 → Wd → Prop) : Prop := gK G a0 = 10 ∧ wpX10_findCustom a0 p1 G (fun r2 G3 => (match r2 with | none => (Q (-9000000000000000001) G3) | some b4 => (if p2 < (-1000000000000000) then (Q (-9000000000000000001) G3) else (if 1000000000000000 < p2 then (Q (-9000000000000000001) G3) else (gK G3 b4 = 2 ∧ if (gI G3 b4 2) = 0 then (if p4 < 0 then (Q (-9000000000000000013) G3) else (if p4 ≤ (gI G3 b4 1) then (if p2 < 0 then (wpX1_partOf b4 (-p2) p4 G3 (fun r8 G9 => Q (-r8) G9)) else (wpX1_partOf b4 p2 p4 G3 (fun r6 G7 => Q r6 G7))) else (Q (-9000000000000000013) G3))) else (Q (-9000000000000000011) G3))))))
abbrev rmX10_part : Room := { frames := 3, cells := 0, slots := 0, locals := 68 }
set_option maxRecDepth 100000 in
def wpX10_whole (a0 : Nat) (p1 : Int32) (p2 : Int64) (G : Wd) (Q : Int64 → Wd → Prop) : Prop := gK G a0 = 10 ∧ wpX10_findCustom a0 p1 G (fun r2 G3 => (match r2 with | none => (Q (-9000000000000000001) G3) | some b4 => (if p2 < 0 then (Q (-9000000000000000001) G3) else (if p2 < 1000000000000000000 then (gK G3 b4 = 2 ∧ if (gI G3 b4 2) = 0 then (wpX1_putTogether b4 p2 G3 (fun r6 G7 => Q r6 G7)) else (Q (-9000000000000000011) G3)) else (Q (-9000000000000000001) G3)))))
abbrev rmX10_whole : Room := { frames := 3, cells := 0, slots := 0, locals := 71 }
set_option maxRecDepth 100000 in
def wpX10_isAmount (p0 : Int32) (G : Wd) (Q : Int32 → Wd → Prop) : Prop := if p0 < (-1000000) then (Q 0 G) else (if 1000000 < p0 then (Q 0 G) else (Q 1 G))
abbrev rmX10_isAmount : Room := { frames := 0, cells := 0, slots := 0, locals := 0 }
set_option maxRecDepth 100000 in
def wpX10_isMeasure (p0 : Int32) (G : Wd) (Q : Int32 → Wd → Prop) : Prop := if p0 < 0 then (Q 0 G) else (if 10 ≤ p0 then (Q 0 G) else (Q 1 G))
abbrev rmX10_isMeasure : Room := { frames := 0, cells := 0, slots := 0, locals := 0 }
set_option maxRecDepth 100000 in
def wpX10_line (a0 : Nat) (p1 : Int32) (p2 : Int32) (p3 : Int32) (p4 : Int32) (G : Wd) (Q : Int64 → Wd → Prop) : Prop := wpX10_isAmount p1 G (fun r1 G2 => if r1 = 0 then (Q (-9000000000000000001) G2) else (wpX10_isMeasure p2 G2 (fun r3 G4 => if r3 = 0 then (Q (-9000000000000000001) G4) else (wpX10_isPlace p3 G4 (fun r5 G6 => if r5 = 0 then (Q (-9000000000000000001) G6) else (wpX10_isDay p4 G6 (fun r7 G8 => if r7 = 0 then (Q (-9000000000000000001) G8) else (gK G8 a0 = 10 ∧ if (gI G8 a0 5) < 20 then (∃ b10, gR G8 a0 4 = some b10 ∧ ∀ (z13 : Nat) (G12 : Wd), z13 = gZ G8 → G12 = nC G8 6 0 → wpX6_init z13 p1 p2 p3 p4 G12 (fun G15 => gK G15 b10 = 26 ∧ gK G15 z13 = 6 ∧ vp_in (gI G8 a0 5) (gN G15 b10) ∧ ∀ G18 : Wd, G18 = uR G15 b10 (gI G8 a0 5).toNatClampNeg (some z13) → gK G18 a0 = 10 ∧ ∀ G21 : Wd, G21 = uI G18 a0 5 ((gI G18 a0 5) + 1) → Q ((gI G18 a0 5).toInt64) G21)) else (Q (-9000000000000000003) G8)))))))))
abbrev rmX10_line : Room := { frames := 3, cells := 3, slots := 12, locals := 64 }
set_option maxRecDepth 100000 in
def wpX10_findLine (a0 : Nat) (p1 : Int32) (G : Wd) (Q : Option Nat → Wd → Prop) : Prop := if p1 < 0 then (Q none G) else (gK G a0 = 10 ∧ if (gI G a0 5) ≤ p1 then (Q none G) else (∃ b2, gR G a0 4 = some b2 ∧ gK G b2 = 26 ∧ vp_in p1 (gN G b2) ∧ ∀ r6 : Option Nat, r6 = gR G b2 (p1).toNatClampNeg → Q r6 G))
abbrev rmX10_findLine : Room := { frames := 0, cells := 0, slots := 0, locals := 0 }
set_option maxRecDepth 100000 in
def wpX10_amend (a0 : Nat) (p1 : Int32) (p2 : Int32) (G : Wd) (Q : Int64 → Wd → Prop) : Prop := gK G a0 = 10 ∧ wpX10_findLine a0 p1 G (fun r2 G3 => (match r2 with | none => (Q (-9000000000000000001) G3) | some b4 => (wpX10_isAmount p2 G3 (fun r5 G6 => if r5 = 0 then (Q (-9000000000000000001) G6) else (gK G6 b4 = 6 ∧ ∀ x8 : Int32, x8 = gI G6 b4 5 → ∀ G9 : Wd, G9 = uI G6 b4 5 p2 → Q ((x8).toInt64) G9)))))
abbrev rmX10_amend : Room := { frames := 1, cells := 0, slots := 0, locals := 21 }
def wpX10_clear_7 (Q : Int64 → Wd → Prop) : Nat → Nat → Int32 → Int32 → Wd → Prop
  | 0, _, _, _, _ => False
  | n + 1, v0, v1, v2, G => if v1 ≤ v2 then (gK G v0 = 10 ∧ ∀ G2 : Wd, G2 = uI G v0 5 0 → Q ((v1).toInt64) G2) else (gK G v0 = 10 ∧ ∃ b4, gR G v0 4 = some b4 ∧ gK G b4 = 26 ∧ vp_in v2 (gN G b4) ∧ ∀ G8 : Wd, G8 = uR G b4 (v2).toNatClampNeg none → ∀ x9 : Int32, x9 = v2 + 1 → wpX10_clear_7 Q n v0 v1 x9 G8)
set_option maxRecDepth 100000 in
def wpX10_clear (a0 : Nat) (G : Wd) (Q : Int64 → Wd → Prop) : Prop := gK G a0 = 10 ∧ ∀ x11 : Int32, x11 = gI G a0 5 → ∃ m, wpX10_clear_7 Q m a0 x11 0 G
abbrev rmX10_clear : Room := { frames := 0, cells := 0, slots := 0, locals := 0 }
def wpX10_weighLines_88 (Q : Int32 → Wd → Prop) (k2 : Nat → Int32 → Int32 → Wd → Prop) (v0 : Nat) (v1 : Int32) (v2 : Int32) (G : Wd) : Prop := ∀ x1 : Int32, x1 = v2 + 1 → k2 v0 v1 x1 G
def wpX10_weighLines_2 (Q : Int32 → Wd → Prop) : Nat → Nat → Int32 → Int32 → Wd → Prop
  | 0, _, _, _, _ => False
  | n + 1, v0, v1, v2, G => gK G v0 = 10 ∧ if (gI G v0 5) ≤ v2 then (Q 1 G) else (∃ b3, gR G v0 4 = some b3 ∧ gK G b3 = 26 ∧ vp_in v2 (gN G b3) ∧ ∀ r7 : Option Nat, r7 = gR G b3 (v2).toNatClampNeg → (match r7 with | none => (wpX10_weighLines_88 Q (fun y0 y1 y2 y3 => wpX10_weighLines_2 Q n y0 y1 y2 y3) v0 v1 v2 G) | some b8 => (gK G b8 = 6 ∧ wpX10_gather v0 (((gI G b8 1) * 10000) + (gI G b8 2)) G (fun G11 => gK G11 v0 = 10 ∧ ∃ b13, gR G11 v0 6 = some b13 ∧ gK G11 b8 = 6 ∧ ∃ b16, gR G11 v0 8 = some b16 ∧ gK G11 b13 = 9 ∧ wpX9_pickWay b13 (gI G11 b8 0) v1 0 b16 G11 (fun r19 G20 => if r19 = 0 then (Q 0 G20) else (gK G20 b8 = 6 ∧ ∃ b22, gR G20 b8 3 = some b22 ∧ gK G20 v0 = 10 ∧ ∃ b25, gR G20 v0 6 = some b25 ∧ gK G20 b25 = 9 ∧ wpX9_low b25 G20 (fun r28 G29 => ∃ b30, r28 = some b30 ∧ gK G29 b22 = 3 ∧ wpX2_become_ b22 b30 G29 (fun G33 => gK G33 b8 = 6 ∧ ∃ b35, gR G33 b8 4 = some b35 ∧ gK G33 v0 = 10 ∧ ∃ b38, gR G33 v0 6 = some b38 ∧ gK G33 b38 = 9 ∧ wpX9_high b38 G33 (fun r41 G42 => ∃ b43, r41 = some b43 ∧ gK G42 b35 = 3 ∧ wpX2_become_ b35 b43 G42 (fun G46 => wpX10_weighLines_88 Q (fun y0 y1 y2 y3 => wpX10_weighLines_2 Q n y0 y1 y2 y3) v0 v1 v2 G46))))))))))
set_option maxRecDepth 100000 in
def wpX10_weighLines (a0 : Nat) (p1 : Int32) (G : Wd) (Q : Int32 → Wd → Prop) : Prop := ∃ m, wpX10_weighLines_2 Q m a0 p1 0 G
abbrev rmX10_weighLines : Room := { frames := 18, cells := 0, slots := 0, locals := 481 }
def wpX10_sumLines_144 (Q : Wd → Prop) (k21 : Nat → Int32 → Int64 → Int32 → Wd → Prop) (v0 : Nat) (v1 : Int32) (v2 : Int64) (v4 : Int32) (G : Wd) : Prop := ∀ x1 : Int32, x1 = v4 + 1 → k21 v0 v1 v2 x1 G
def wpX10_sumLines_127 (Q : Wd → Prop) (k21 : Nat → Int32 → Int64 → Int32 → Wd → Prop) (v0 : Nat) (v1 : Int32) (v2 : Int64) (v4 : Int32) (v6 : Int64) (s0 : Nat) (s1 : Nat) (G : Wd) : Prop := gK G s0 = 3 ∧ wpX2_becomeProduct s0 s1 v6 1 G (fun G4 => gK G4 v0 = 10 ∧ ∃ b6, gR G4 v0 12 = some b6 ∧ ∃ b8, gR G4 v0 13 = some b8 ∧ gK G4 b6 = 3 ∧ wpX2_add b6 b8 G4 (fun G12 => wpX10_sumLines_144 Q k21 v0 v1 v2 v4 G12))
def wpX10_sumLines_86 (Q : Wd → Prop) (k21 : Nat → Int32 → Int64 → Int32 → Wd → Prop) (v0 : Nat) (v1 : Int32) (v2 : Int64) (v4 : Int32) (v5 : Nat) (v6 : Int64) (s0 : Nat) (s1 : Nat) (G : Wd) : Prop := gK G s0 = 3 ∧ wpX2_becomeProduct s0 s1 v6 1 G (fun G15 => gK G15 v0 = 10 ∧ ∃ b17, gR G15 v0 11 = some b17 ∧ ∃ b19, gR G15 v0 13 = some b19 ∧ gK G15 b17 = 3 ∧ wpX2_add b17 b19 G15 (fun G23 => gK G23 v0 = 10 ∧ ∃ b25, gR G23 v0 13 = some b25 ∧ if v6 < 0 then (gK G23 v5 = 6 ∧ ∃ b31, gR G23 v5 3 = some b31 ∧ wpX10_sumLines_127 Q k21 v0 v1 v2 v4 v6 b25 b31 G23) else (gK G23 v5 = 6 ∧ ∃ b28, gR G23 v5 4 = some b28 ∧ wpX10_sumLines_127 Q k21 v0 v1 v2 v4 v6 b25 b28 G23)))
def wpX10_sumLines_60 (Q : Wd → Prop) (k21 : Nat → Int32 → Int64 → Int32 → Wd → Prop) (v0 : Nat) (v1 : Int32) (v2 : Int64) (v4 : Int32) (v5 : Nat) (s0 : Int64) (G : Wd) : Prop := gK G v0 = 10 ∧ ∃ b34, gR G v0 13 = some b34 ∧ if s0 < 0 then (gK G v5 = 6 ∧ ∃ b40, gR G v5 4 = some b40 ∧ wpX10_sumLines_86 Q k21 v0 v1 v2 v4 v5 s0 b34 b40 G) else (gK G v5 = 6 ∧ ∃ b37, gR G v5 3 = some b37 ∧ wpX10_sumLines_86 Q k21 v0 v1 v2 v4 v5 s0 b34 b37 G)
def wpX10_sumLines_21 (Q : Wd → Prop) : Nat → Nat → Int32 → Int64 → Int32 → Wd → Prop
  | 0, _, _, _, _, _ => False
  | n + 1, v0, v1, v2, v4, G => gK G v0 = 10 ∧ if (gI G v0 5) ≤ v4 then (Q G) else (∃ b43, gR G v0 4 = some b43 ∧ gK G b43 = 26 ∧ vp_in v4 (gN G b43) ∧ ∀ r47 : Option Nat, r47 = gR G b43 (v4).toNatClampNeg → (match r47 with | none => (wpX10_sumLines_144 Q (fun y0 y1 y2 y3 y4 => wpX10_sumLines_21 Q n y0 y1 y2 y3 y4) v0 v1 v2 v4 G) | some b48 => (if v4 = v1 then (wpX10_sumLines_60 Q (fun y0 y1 y2 y3 y4 => wpX10_sumLines_21 Q n y0 y1 y2 y3 y4) v0 v1 v2 v4 b48 v2 G) else (gK G b48 = 6 ∧ wpX10_sumLines_60 Q (fun y0 y1 y2 y3 y4 => wpX10_sumLines_21 Q n y0 y1 y2 y3 y4) v0 v1 v2 v4 b48 ((gI G b48 5).toInt64) G))))
set_option maxRecDepth 100000 in
def wpX10_sumLines (a0 : Nat) (p1 : Int32) (p2 : Int64) (G : Wd) (Q : Wd → Prop) : Prop := gK G a0 = 10 ∧ ∃ b51, gR G a0 11 = some b51 ∧ gK G b51 = 3 ∧ wpX2_become b51 0 1 G (fun G55 => gK G55 a0 = 10 ∧ ∃ b57, gR G55 a0 12 = some b57 ∧ gK G55 b57 = 3 ∧ wpX2_become b57 0 1 G55 (fun G61 => ∃ m, wpX10_sumLines_21 Q m a0 p1 p2 0 G61))
abbrev rmX10_sumLines : Room := { frames := 3, cells := 0, slots := 0, locals := 86 }
set_option maxRecDepth 100000 in
def wpX10_total (a0 : Nat) (p1 : Int32) (p2 : Int32) (p3 : Int32) (G : Wd) (Q : Int64 → Wd → Prop) : Prop := wpX10_isMeasure p1 G (fun r1 G2 => if r1 = 0 then (Q (-9000000000000000001) G2) else (wpX10_isEither p2 G2 (fun r3 G4 => if r3 = 0 then (Q (-9000000000000000001) G4) else (wpX10_isEither p3 G4 (fun r5 G6 => if r5 = 0 then (Q (-9000000000000000001) G6) else (gK G6 a0 = 10 ∧ wpX10_weighLines a0 p1 G6 (fun r8 G9 => if r8 = 0 then (Q (-9000000000000000005) G9) else (gK G9 a0 = 10 ∧ wpX10_sumLines a0 (-1) 0 G9 (fun G12 => gK G12 a0 = 10 ∧ ∃ b14, gR G12 a0 11 = some b14 ∧ ∃ b16, gR G12 a0 12 = some b16 ∧ wpX10_endOf b14 b16 p2 p3 G12 (fun r18 G19 => Q r18 G19))))))))))
abbrev rmX10_total : Room := { frames := 19, cells := 0, slots := 0, locals := 504 }
set_option maxRecDepth 100000 in
def wpX10_tryAmount (a0 : Nat) (p1 : Int32) (p2 : Int64) (p4 : Int32) (G : Wd) (Q : Int64 → Wd → Prop) : Prop := gK G a0 = 10 ∧ wpX10_sumLines a0 p1 p2 G (fun G3 => gK G3 a0 = 10 ∧ ∃ b5, gR G3 a0 11 = some b5 ∧ gK G3 b5 = 3 ∧ if (gI G3 b5 2) = 0 then (∃ b8, gR G3 a0 12 = some b8 ∧ gK G3 b8 = 3 ∧ if (gI G3 b8 2) = 0 then (∃ b11, gR G3 a0 11 = some b11 ∧ gK G3 b11 = 3 ∧ wpX2_ceiling b11 G3 (fun r14 G15 => if ((p4).toInt64) < r14 then (Q 0 G15) else (gK G15 a0 = 10 ∧ ∃ b17, gR G15 a0 12 = some b17 ∧ gK G15 b17 = 3 ∧ wpX2_floor b17 G15 (fun r20 G21 => if r20 < ((p4).toInt64) then (Q 0 G21) else (Q 1 G21))))) else (Q (-9000000000000000004) G3)) else (Q (-9000000000000000004) G3))
abbrev rmX10_tryAmount : Room := { frames := 4, cells := 0, slots := 0, locals := 113 }
def wpX10_slipOfLine_73 (Q : Int64 → Wd → Prop) (k11 : Nat → Int32 → Int32 → Int32 → Int32 → Int32 → Wd → Prop) (v0 : Nat) (v1 : Int32) (v2 : Int32) (v4 : Int32) (v5 : Int32) (v6 : Int32) (G : Wd) : Prop := ∀ x1 : Int32, x1 = v6 + 1 → k11 v0 v1 v2 v4 v5 x1 G
def wpX10_slipOfLine_11 (Q : Int64 → Wd → Prop) : Nat → Nat → Int32 → Int32 → Int32 → Int32 → Int32 → Wd → Prop
  | 0, _, _, _, _, _, _, _ => False
  | n + 1, v0, v1, v2, v4, v5, v6, G => if v5 < v6 then (Q (-9000000000000000005) G) else (wpX6_canBe v6 v2 G (fun r2 G3 => if r2 = 0 then (wpX10_slipOfLine_73 Q (fun y0 y1 y2 y3 y4 y5 y6 => wpX10_slipOfLine_11 Q n y0 y1 y2 y3 y4 y5 y6) v0 v1 v2 v4 v5 v6 G3) else (wpX6_amended v6 v2 G3 (fun r4 G5 => gK G5 v0 = 10 ∧ wpX10_tryAmount v0 v1 r4 v4 G5 (fun r7 G8 => if r7 = 0 then (wpX10_slipOfLine_73 Q (fun y0 y1 y2 y3 y4 y5 y6 => wpX10_slipOfLine_11 Q n y0 y1 y2 y3 y4 y5 y6) v0 v1 v2 v4 v5 v6 G8) else (if r7 = 1 then (Q ((10 * ((v1).toInt64)) + ((v6).toInt64)) G8) else (Q (-9000000000000000004) G8)))))))
set_option maxRecDepth 100000 in
def wpX10_slipOfLine (a0 : Nat) (p1 : Int32) (p2 : Int32) (p3 : Int32) (p4 : Int32) (G : Wd) (Q : Int64 → Wd → Prop) : Prop := ∀ x9 : Int32, x9 = (2 * p3) → ∀ x10 : Int32, x10 = (x9 - 1) → ∃ m, wpX10_slipOfLine_11 Q m a0 p1 p2 p4 x9 x10 G
abbrev rmX10_slipOfLine : Room := { frames := 5, cells := 0, slots := 0, locals := 137 }
def wpX10_firstSlip_56 (Q : Int64 → Wd → Prop) (k2 : Nat → Int32 → Int32 → Wd → Prop) (k9 : Nat → Int32 → Int32 → Int32 → Wd → Prop) (v0 : Nat) (v1 : Int32) (v2 : Int32) (v3 : Int32) (G : Wd) : Prop := ∀ x1 : Int32, x1 = v3 + 1 → k9 v0 v1 v2 x1 G
def wpX10_firstSlip_9 (Q : Int64 → Wd → Prop) (k2 : Nat → Int32 → Int32 → Wd → Prop) : Nat → Nat → Int32 → Int32 → Int32 → Wd → Prop
  | 0, _, _, _, _, _ => False
  | n + 1, v0, v1, v2, v3, G => gK G v0 = 10 ∧ if (gI G v0 5) ≤ v3 then (∀ x3 : Int32, x3 = v2 + 1 → k2 v0 v1 x3 G) else (∃ b4, gR G v0 4 = some b4 ∧ gK G b4 = 26 ∧ vp_in v3 (gN G b4) ∧ ∀ r8 : Option Nat, r8 = gR G b4 (v3).toNatClampNeg → (match r8 with | none => (wpX10_firstSlip_56 Q k2 (fun y0 y1 y2 y3 y4 => wpX10_firstSlip_9 Q k2 n y0 y1 y2 y3 y4) v0 v1 v2 v3 G) | some b9 => (gK G b9 = 6 ∧ wpX10_slipOfLine v0 v3 (gI G b9 5) v2 v1 G (fun r11 G12 => if r11 = (-9000000000000000005) then (wpX10_firstSlip_56 Q k2 (fun y0 y1 y2 y3 y4 => wpX10_firstSlip_9 Q k2 n y0 y1 y2 y3 y4) v0 v1 v2 v3 G12) else (Q r11 G12)))))
def wpX10_firstSlip_2 (Q : Int64 → Wd → Prop) : Nat → Nat → Int32 → Int32 → Wd → Prop
  | 0, _, _, _, _ => False
  | n + 1, v0, v1, v2, G => if 2 < v2 then (Q (-9000000000000000005) G) else (∃ m, wpX10_firstSlip_9 Q (fun y0 y1 y2 y3 => wpX10_firstSlip_2 Q n y0 y1 y2 y3) m v0 v1 v2 0 G)
set_option maxRecDepth 100000 in
def wpX10_firstSlip (a0 : Nat) (p1 : Int32) (G : Wd) (Q : Int64 → Wd → Prop) : Prop := ∃ m, wpX10_firstSlip_2 Q m a0 p1 1 G
abbrev rmX10_firstSlip : Room := { frames := 6, cells := 0, slots := 0, locals := 165 }
set_option maxRecDepth 100000 in
def wpX10_slip (a0 : Nat) (p1 : Int32) (p2 : Int32) (G : Wd) (Q : Int64 → Wd → Prop) : Prop := wpX10_isMeasure p1 G (fun r1 G2 => if r1 = 0 then (Q (-9000000000000000001) G2) else (if p2 < (-1000000000) then (Q (-9000000000000000001) G2) else (if p2 ≤ 1000000000 then (gK G2 a0 = 10 ∧ wpX10_weighLines a0 p1 G2 (fun r4 G5 => if r4 = 0 then (Q (-9000000000000000005) G5) else (gK G5 a0 = 10 ∧ wpX10_tryAmount a0 (-1) 0 p2 G5 (fun r7 G8 => if r7 = 1 then (Q 0 G8) else (if r7 = (-9000000000000000004) then (Q (-9000000000000000004) G8) else (gK G8 a0 = 10 ∧ wpX10_firstSlip a0 p2 G8 (fun r10 G11 => Q r10 G11))))))) else (Q (-9000000000000000001) G2))))
abbrev rmX10_slip : Room := { frames := 19, cells := 0, slots := 0, locals := 504 }
def wpX10_droppedOnes_33 (Q : Int32 → Wd → Prop) (k4 : Nat → Int32 → Int32 → Wd → Prop) (v0 : Nat) (v1 : Int32) (v2 : Int32) (G : Wd) : Prop := ∀ x1 : Int32, x1 = v2 + 1 → k4 v0 v1 x1 G
def wpX10_droppedOnes_4 (Q : Int32 → Wd → Prop) : Nat → Nat → Int32 → Int32 → Wd → Prop
  | 0, _, _, _, _ => False
  | n + 1, v0, v1, v2, G => gK G v0 = 10 ∧ if (gI G v0 2) ≤ v2 then (Q v1 G) else (∃ b3, gR G v0 1 = some b3 ∧ gK G b3 = 25 ∧ vp_in v2 (gN G b3) ∧ ∀ r7 : Option Nat, r7 = gR G b3 (v2).toNatClampNeg → (match r7 with | none => (wpX10_droppedOnes_33 Q (fun y0 y1 y2 y3 => wpX10_droppedOnes_4 Q n y0 y1 y2 y3) v0 v1 v2 G) | some b8 => (gK G b8 = 5 ∧ if (gI G b8 13) = 0 then (wpX10_droppedOnes_33 Q (fun y0 y1 y2 y3 => wpX10_droppedOnes_4 Q n y0 y1 y2 y3) v0 v1 v2 G) else (∀ x10 : Int32, x10 = v1 + 1 → wpX10_droppedOnes_33 Q (fun y0 y1 y2 y3 => wpX10_droppedOnes_4 Q n y0 y1 y2 y3) v0 x10 v2 G))))
set_option maxRecDepth 100000 in
def wpX10_droppedOnes (a0 : Nat) (G : Wd) (Q : Int32 → Wd → Prop) : Prop := ∃ m, wpX10_droppedOnes_4 Q m a0 0 0 G
abbrev rmX10_droppedOnes : Room := { frames := 0, cells := 0, slots := 0, locals := 0 }
def wpX10_customsThere_30 (Q : Int32 → Wd → Prop) (k4 : Nat → Int32 → Int32 → Wd → Prop) (v0 : Nat) (v1 : Int32) (v2 : Int32) (G : Wd) : Prop := ∀ x1 : Int32, x1 = v2 + 1 → k4 v0 v1 x1 G
def wpX10_customsThere_4 (Q : Int32 → Wd → Prop) : Nat → Nat → Int32 → Int32 → Wd → Prop
  | 0, _, _, _, _ => False
  | n + 1, v0, v1, v2, G => if 4 ≤ v2 then (Q v1 G) else (gK G v0 = 10 ∧ ∃ b3, gR G v0 3 = some b3 ∧ gK G b3 = 23 ∧ vp_in v2 (gN G b3) ∧ ∃ b7, gR G b3 (v2).toNatClampNeg = some b7 ∧ gK G b7 = 2 ∧ if (gI G b7 2) = 0 then (∀ x10 : Int32, x10 = v1 + 1 → wpX10_customsThere_30 Q (fun y0 y1 y2 y3 => wpX10_customsThere_4 Q n y0 y1 y2 y3) v0 x10 v2 G) else (wpX10_customsThere_30 Q (fun y0 y1 y2 y3 => wpX10_customsThere_4 Q n y0 y1 y2 y3) v0 v1 v2 G))
set_option maxRecDepth 100000 in
def wpX10_customsThere (a0 : Nat) (G : Wd) (Q : Int32 → Wd → Prop) : Prop := ∃ m, wpX10_customsThere_4 Q m a0 0 0 G
abbrev rmX10_customsThere : Room := { frames := 0, cells := 0, slots := 0, locals := 0 }
def wpX10_measuresNamed_39 (Q : Int32 → Wd → Prop) (k4 : Nat → Int32 → Int32 → Wd → Prop) (v0 : Nat) (v1 : Int32) (v2 : Int32) (G : Wd) : Prop := ∀ x1 : Int32, x1 = v2 + 1 → k4 v0 v1 x1 G
def wpX10_measuresNamed_4 (Q : Int32 → Wd → Prop) : Nat → Nat → Int32 → Int32 → Wd → Prop
  | 0, _, _, _, _ => False
  | n + 1, v0, v1, v2, G => gK G v0 = 10 ∧ if (gI G v0 2) ≤ v2 then (wpJ6_bitCount_0f7a4 v1 G (fun r3 G4 => Q r3 G4)) else (∃ b5, gR G v0 1 = some b5 ∧ gK G b5 = 25 ∧ vp_in v2 (gN G b5) ∧ ∀ r9 : Option Nat, r9 = gR G b5 (v2).toNatClampNeg → (match r9 with | none => (wpX10_measuresNamed_39 Q (fun y0 y1 y2 y3 => wpX10_measuresNamed_4 Q n y0 y1 y2 y3) v0 v1 v2 G) | some b10 => (gK G b10 = 5 ∧ ∀ x12 : Int32, x12 = (v1 ||| ((1 <<< ((gI G b10 2) &&& 31)) ||| (1 <<< ((gI G b10 3) &&& 31)))) → wpX10_measuresNamed_39 Q (fun y0 y1 y2 y3 => wpX10_measuresNamed_4 Q n y0 y1 y2 y3) v0 x12 v2 G)))
set_option maxRecDepth 100000 in
def wpX10_measuresNamed (a0 : Nat) (G : Wd) (Q : Int32 → Wd → Prop) : Prop := ∃ m, wpX10_measuresNamed_4 Q m a0 0 0 G
abbrev rmX10_measuresNamed : Room := { frames := 1, cells := 0, slots := 0, locals := 20 }
set_option maxRecDepth 100000 in
def wpX10_count (a0 : Nat) (p1 : Int32) (G : Wd) (Q : Int64 → Wd → Prop) : Prop := if p1 = 0 then (gK G a0 = 10 ∧ Q ((gI G a0 2).toInt64) G) else (if p1 = 1 then (gK G a0 = 10 ∧ wpX10_droppedOnes a0 G (fun r3 G4 => Q ((r3).toInt64) G4)) else (if p1 = 2 then (gK G a0 = 10 ∧ wpX10_customsThere a0 G (fun r6 G7 => Q ((r6).toInt64) G7)) else (if p1 = 3 then (gK G a0 = 10 ∧ Q ((gI G a0 5).toInt64) G) else (if p1 = 4 then (gK G a0 = 10 ∧ wpX10_measuresNamed a0 G (fun r10 G11 => Q ((r10).toInt64) G11)) else (Q (-9000000000000000001) G)))))
abbrev rmX10_count : Room := { frames := 2, cells := 0, slots := 0, locals := 43 }
set_option maxRecDepth 100000 in
theorem sX10_custom {l : Launch} {D : Dx} {a0 : Nat} {p1 : Int32} {p2 : Int32} {G : Wd} {Q : Int64 → Wd → Prop} (hw : wpX10_custom a0 p1 p2 G Q) : Met l yX10_custom (wM yX10_custom cX10_custom 4 (some .long)) rmX10_custom (PM D [.ref a0, .int p1, .int p2] G) (QMl D Q) 0 0 (Ab D) := by
  refine v_met (by decide) (Nat.le_of_ble_eq_true rfl) (fun X hl hR F => ?_)
  subst hl
  have F : Fx X D cX10_custom 4 RX10 (some .long) "custom" := F
  refine v_cast (L' := [(0, .ref a0), (1, .int p1), (2, .int p2)]) rfl rfl ?_
  unfold wpX10_custom at hw
  refine v_aload_n F dX10_custom_0 rfl 0 rfl ?_
  refine v_iload_n F dX10_custom_1 rfl 1 rfl ?_
  obtain ⟨kd1, hw⟩ := hw
  refine v_callq (r_V F lk_X10_234 kd1 (sX10_findCustom hw) (mkRm hR rfl rfl rfl rfl rfl rfl) rfl rfl (Nat.le_of_ble_eq_true rfl) dX10_custom_2) (fun r2 G3 hw => ?_)
  refine v_qstore_n (L' := [(3, va_rf r2), (0, .ref a0), (1, .int p1), (2, .int p2)]) F dX10_custom_5 rfl (by decide) rfl ?_
  refine v_qload_n F dX10_custom_6 rfl 0 rfl ?_
  refine v_ifnull (tgt := 15) F dX10_custom_7 (by decide) (fun hr => ?_) (fun b4 hr => ?_)
  · subst hr
    dsimp only at hw
    refine v_ldc2 (v := (-9000000000000000001)) F wd_337 dX10_custom_15 ?_
    refine v_widen (c' := 0) (s' := 0) (by decide) (by decide) ?_
    exact v_lret F hw dX10_custom_18
  · subst hr
    dsimp only at hw
    refine v_iload_n F dX10_custom_10 rfl 3 rfl ?_
    refine v_iconst (v := 5) F dX10_custom_11 (by decide) ?_
    refine v_icmp_le (tgt := 19) F dX10_custom_12 (by decide) (fun h => ?_) (fun h => ?_)
    · rw [if_pos h] at hw
      refine v_iload_n F dX10_custom_19 rfl 3 rfl ?_
      refine v_if_ge (tgt := 27) F dX10_custom_20 (by decide) (fun h => ?_) (fun h => ?_)
      · rw [if_pos h] at hw
        refine v_aload_n F dX10_custom_27 rfl 0 rfl ?_
        refine v_iload_n F dX10_custom_28 rfl 3 rfl ?_
        obtain ⟨kd5, hw⟩ := hw
        refine v_callv (r_V F lk_X10_240 kd5 (sX1_begin hw) (mkRm hR rfl rfl rfl rfl rfl rfl) rfl rfl (Nat.le_of_ble_eq_true rfl) dX10_custom_29) (fun G7 hw => ?_)
        refine v_iload_n F dX10_custom_32 rfl 3 rfl ?_
        refine v_i2l F dX10_custom_33 ?_
        refine v_widen (c' := 0) (s' := 0) (by decide) (by decide) ?_
        exact v_lret F hw dX10_custom_34
      · rw [if_neg h] at hw
        refine v_ldc2 (v := (-9000000000000000014)) F wd_693 dX10_custom_23 ?_
        refine v_widen (c' := 0) (s' := 0) (by decide) (by decide) ?_
        exact v_lret F hw dX10_custom_26
    · rw [if_neg h] at hw
      refine v_ldc2 (v := (-9000000000000000001)) F wd_337 dX10_custom_15 ?_
      refine v_widen (c' := 0) (s' := 0) (by decide) (by decide) ?_
      exact v_lret F hw dX10_custom_18
set_option maxRecDepth 100000 in
theorem sX10_step {l : Launch} {D : Dx} {a0 : Nat} {p1 : Int32} {p2 : Int32} {p3 : Int32} {G : Wd} {Q : Int64 → Wd → Prop} (hw : wpX10_step a0 p1 p2 p3 G Q) : Met l yX10_step (wM yX10_step cX10_step 6 (some .long)) rmX10_step (PM D [.ref a0, .int p1, .int p2, .int p3] G) (QMl D Q) 0 0 (Ab D) := by
  refine v_met (by decide) (Nat.le_of_ble_eq_true rfl) (fun X hl hR F => ?_)
  subst hl
  have F : Fx X D cX10_step 6 RX10 (some .long) "step" := F
  refine v_cast (L' := [(0, .ref a0), (1, .int p1), (2, .int p2), (3, .int p3)]) rfl rfl ?_
  unfold wpX10_step at hw
  refine v_aload_n F dX10_step_0 rfl 0 rfl ?_
  refine v_iload_n F dX10_step_1 rfl 1 rfl ?_
  obtain ⟨kd1, hw⟩ := hw
  refine v_callq (r_V F lk_X10_234 kd1 (sX10_findCustom hw) (mkRm hR rfl rfl rfl rfl rfl rfl) rfl rfl (Nat.le_of_ble_eq_true rfl) dX10_step_2) (fun r2 G3 hw => ?_)
  refine v_qstore (L' := [(4, va_rf r2), (0, .ref a0), (1, .int p1), (2, .int p2), (3, .int p3)]) F dX10_step_5 (by decide) rfl ?_
  refine v_qload F dX10_step_7 0 rfl ?_
  refine v_ifnonnull (tgt := 16) F dX10_step_9 (by decide) (fun b4 hr => ?_) (fun hr => ?_)
  · subst hr
    dsimp only at hw
    refine v_aload F dX10_step_16 0 rfl ?_
    obtain ⟨kd5, hw⟩ := hw
    refine v_get F fl_X10_242 kd5 rfl dX10_step_18 ?_
    refine v_if_eq (tgt := 28) F dX10_step_21 (by decide) (fun h => ?_) (fun h => ?_)
    · rw [if_pos h] at hw
      refine v_iload_n F dX10_step_28 rfl 3 rfl ?_
      refine v_if_lt (tgt := 41) F dX10_step_29 (by decide) (fun h => ?_) (fun h => ?_)
      · rw [if_pos h] at hw
        refine v_ldc2 (v := (-9000000000000000013)) F wd_703 dX10_step_41 ?_
        refine v_widen (c' := 0) (s' := 0) (by decide) (by decide) ?_
        exact v_lret F hw dX10_step_44
      · rw [if_neg h] at hw
        refine v_iload_n F dX10_step_32 rfl 3 rfl ?_
        refine v_aload F dX10_step_33 0 rfl ?_
        refine v_get F fl_X10_247 kd5 rfl dX10_step_35 ?_
        refine v_icmp_lt (tgt := 45) F dX10_step_38 (by decide) (fun h => ?_) (fun h => ?_)
        · rw [if_pos h] at hw
          refine v_iload_n F dX10_step_45 rfl 4 rfl ?_
          refine v_iconst (v := 2) F dX10_step_46 (by decide) ?_
          refine v_icmp_lt (tgt := 57) F dX10_step_47 (by decide) (fun h => ?_) (fun h => ?_)
          · rw [if_pos h] at hw
            refine v_ldc2 (v := (-9000000000000000001)) F wd_337 dX10_step_57 ?_
            refine v_widen (c' := 0) (s' := 0) (by decide) (by decide) ?_
            exact v_lret F hw dX10_step_60
          · rw [if_neg h] at hw
            refine v_iload_n F dX10_step_50 rfl 4 rfl ?_
            refine v_sipush (v := 1000) F dX10_step_51 (by decide) ?_
            refine v_icmp_le (tgt := 61) F dX10_step_54 (by decide) (fun h => ?_) (fun h => ?_)
            · rw [if_pos h] at hw
              refine v_aload F dX10_step_61 0 rfl ?_
              obtain ⟨b6, hr7, hw⟩ := hw
              refine v_getSG F fl_X10_252 (fun _ => rfl) kd5 hr7 dX10_step_63 ?_
              refine v_iload_n F dX10_step_66 rfl 3 rfl ?_
              obtain ⟨kd8, hw⟩ := hw
              obtain ⟨hi9, hw⟩ := hw
              refine v_ialdE F rfl kd8 hi9 dX10_step_67 ?_
              refine v_topi (fun x10 hx10 => ?_)
              have hw := hw x10 hx10
              refine v_istore (L' := [(5, .int x10), (4, .ref b4), (0, .ref a0), (1, .int p1), (2, .int p2), (3, .int p3)]) F dX10_step_68 (by decide) rfl ?_
              refine v_aload F dX10_step_70 1 rfl ?_
              obtain ⟨b11, hr12, hw⟩ := hw
              refine v_getSG F fl_X10_252 (fun _ => rfl) kd5 hr12 dX10_step_72 ?_
              refine v_iload_n F dX10_step_75 rfl 4 rfl ?_
              refine v_iload_n F dX10_step_76 rfl 5 rfl ?_
              obtain ⟨kd13, hw⟩ := hw
              obtain ⟨hi14, hw⟩ := hw
              refine v_iastE F rfl kd13 hi14 dX10_step_77 (fun G15 hG15 => ?_)
              have hw := hw G15 hG15
              refine v_iload F dX10_step_78 0 rfl ?_
              refine v_i2l F dX10_step_80 ?_
              refine v_widen (c' := 0) (s' := 0) (by decide) (by decide) ?_
              exact v_lret F hw dX10_step_81
            · rw [if_neg h] at hw
              refine v_ldc2 (v := (-9000000000000000001)) F wd_337 dX10_step_57 ?_
              refine v_widen (c' := 0) (s' := 0) (by decide) (by decide) ?_
              exact v_lret F hw dX10_step_60
        · rw [if_neg h] at hw
          refine v_ldc2 (v := (-9000000000000000013)) F wd_703 dX10_step_41 ?_
          refine v_widen (c' := 0) (s' := 0) (by decide) (by decide) ?_
          exact v_lret F hw dX10_step_44
    · rw [if_neg h] at hw
      refine v_ldc2 (v := (-9000000000000000011)) F wd_702 dX10_step_24 ?_
      refine v_widen (c' := 0) (s' := 0) (by decide) (by decide) ?_
      exact v_lret F hw dX10_step_27
  · subst hr
    dsimp only at hw
    refine v_ldc2 (v := (-9000000000000000001)) F wd_337 dX10_step_12 ?_
    refine v_widen (c' := 0) (s' := 0) (by decide) (by decide) ?_
    exact v_lret F hw dX10_step_15
set_option maxRecDepth 100000 in
theorem sbX10_copy_77 {X : Cx} {D : Dx} (hR : X.2.2.2.1 = rmX10_copy) (F : Fx X D cX10_copy 7 RX10 (some .long) "copy") {Q : Int64 → Wd → Prop} : ∀ (n : Nat) (v3 : Int32) (v4 : Nat) (v5 : Nat) (v6 : Int32) (G : Wd), wpX10_copy_77 Q  n v3 v4 v5 v6 G → V X D 7 (ZM X D (QMl D Q) 0 0) G 0 0 77 [(3, .int v3), (4, .ref v4), (5, .ref v5), (6, .int v6)] [] := by
  intro n
  induction n with
  | zero => intro v3 v4 v5 v6 G hw; exact hw.elim
  | succ n ih =>
    intro v3 v4 v5 v6 G hw
    simp only [wpX10_copy_77] at hw
    refine v_iload F dX10_copy_77 3 rfl ?_
    refine v_iload_n F dX10_copy_79 rfl 0 rfl ?_
    refine v_icmp_ge (tgt := 105) F dX10_copy_80 (by decide) (fun h => ?_) (fun h => ?_)
    · rw [if_pos h] at hw
      refine v_iload_n F dX10_copy_105 rfl 0 rfl ?_
      refine v_i2l F dX10_copy_106 ?_
      exact v_lret F hw dX10_copy_107
    · rw [if_neg h] at hw
      refine v_aload F dX10_copy_83 2 rfl ?_
      obtain ⟨kd1, hw⟩ := hw
      obtain ⟨b2, hr3, hw⟩ := hw
      refine v_getSG F fl_X10_252 (fun _ => rfl) kd1 hr3 dX10_copy_85 ?_
      refine v_iload F dX10_copy_88 3 rfl ?_
      refine v_aload F dX10_copy_90 1 rfl ?_
      obtain ⟨kd4, hw⟩ := hw
      obtain ⟨b5, hr6, hw⟩ := hw
      refine v_getSG F fl_X10_252 (fun _ => rfl) kd4 hr6 dX10_copy_92 ?_
      refine v_iload F dX10_copy_95 3 rfl ?_
      obtain ⟨kd7, hw⟩ := hw
      obtain ⟨hi8, hw⟩ := hw
      refine v_ialdE F rfl kd7 hi8 dX10_copy_97 ?_
      obtain ⟨kd9, hw⟩ := hw
      obtain ⟨hi10, hw⟩ := hw
      refine v_iastE F rfl kd9 hi10 dX10_copy_98 (fun G11 hG11 => ?_)
      have hw := hw G11 hG11
      refine v_iincN (c := 1) F dX10_copy_99 3 rfl (by decide) (by decide) (fun x12 hx12 => ?_)
      refine v_cast (L' := [(6, .int x12), (3, .int v3), (4, .ref v4), (5, .ref v5)]) rfl rfl ?_
      have hw := hw x12 hx12
      refine v_goto (tgt := 77) F dX10_copy_102 (by decide) ?_
      exact v_loc [1, 2, 3, 0] rfl (ih _ _ _ _ _ hw)
set_option maxRecDepth 100000 in
theorem sX10_copy {l : Launch} {D : Dx} {a0 : Nat} {p1 : Int32} {p2 : Int32} {p3 : Int32} {G : Wd} {Q : Int64 → Wd → Prop} (hw : wpX10_copy a0 p1 p2 p3 G Q) : Met l yX10_copy (wM yX10_copy cX10_copy 7 (some .long)) rmX10_copy (PM D [.ref a0, .int p1, .int p2, .int p3] G) (QMl D Q) 0 0 (Ab D) := by
  refine v_met (by decide) (Nat.le_of_ble_eq_true rfl) (fun X hl hR F => ?_)
  subst hl
  have F : Fx X D cX10_copy 7 RX10 (some .long) "copy" := F
  refine v_cast (L' := [(0, .ref a0), (1, .int p1), (2, .int p2), (3, .int p3)]) rfl rfl ?_
  unfold wpX10_copy at hw
  refine v_aload_n F dX10_copy_0 rfl 0 rfl ?_
  refine v_iload_n F dX10_copy_1 rfl 1 rfl ?_
  obtain ⟨kd13, hw⟩ := hw
  refine v_callq (r_V F lk_X10_234 kd13 (sX10_findCustom hw) (mkRm hR rfl rfl rfl rfl rfl rfl) rfl rfl (Nat.le_of_ble_eq_true rfl) dX10_copy_2) (fun r14 G15 hw => ?_)
  refine v_qstore (L' := [(4, va_rf r14), (0, .ref a0), (1, .int p1), (2, .int p2), (3, .int p3)]) F dX10_copy_5 (by decide) rfl ?_
  refine v_aload_n F dX10_copy_7 rfl 1 rfl ?_
  refine v_iload_n F dX10_copy_8 rfl 3 rfl ?_
  obtain ⟨kd16, hw⟩ := hw
  refine v_callq (r_V F lk_X10_234 kd16 (sX10_findCustom hw) (mkRm hR rfl rfl rfl rfl rfl rfl) rfl rfl (Nat.le_of_ble_eq_true rfl) dX10_copy_9) (fun r17 G18 hw => ?_)
  refine v_qstore (L' := [(5, va_rf r17), (4, va_rf r14), (0, .ref a0), (1, .int p1), (2, .int p2), (3, .int p3)]) F dX10_copy_12 (by decide) (by simp [vrf_cat]) ?_
  refine v_qload F dX10_copy_14 1 rfl ?_
  refine v_ifnull (tgt := 24) F dX10_copy_16 (by decide) (fun hr => ?_) (fun b19 hr => ?_)
  · subst hr
    dsimp only at hw
    refine v_ldc2 (v := (-9000000000000000001)) F wd_337 dX10_copy_24 ?_
    refine v_widen (c' := 0) (s' := 0) (by decide) (by decide) ?_
    exact v_lret F hw dX10_copy_27
  · subst hr
    dsimp only at hw
    refine v_qload F dX10_copy_19 0 rfl ?_
    refine v_ifnonnull (tgt := 28) F dX10_copy_21 (by decide) (fun b20 hr => ?_) (fun hr => ?_)
    · subst hr
      dsimp only at hw
      refine v_aload F dX10_copy_28 1 rfl ?_
      obtain ⟨kd21, hw⟩ := hw
      refine v_get F fl_X10_242 kd21 rfl dX10_copy_30 ?_
      refine v_if_ne (tgt := 44) F dX10_copy_33 (by decide) (fun h => ?_) (fun h => ?_)
      · rw [if_neg h] at hw
        refine v_ldc2 (v := (-9000000000000000011)) F wd_702 dX10_copy_44 ?_
        refine v_widen (c' := 0) (s' := 0) (by decide) (by decide) ?_
        exact v_lret F hw dX10_copy_47
      · rw [if_pos h] at hw
        refine v_aload F dX10_copy_36 0 rfl ?_
        obtain ⟨kd22, hw⟩ := hw
        refine v_get F fl_X10_242 kd22 rfl dX10_copy_38 ?_
        refine v_if_eq (tgt := 48) F dX10_copy_41 (by decide) (fun h => ?_) (fun h => ?_)
        · rw [if_pos h] at hw
          refine v_iload_n F dX10_copy_48 rfl 5 rfl ?_
          refine v_if_lt (tgt := 70) F dX10_copy_49 (by decide) (fun h => ?_) (fun h => ?_)
          · rw [if_pos h] at hw
            refine v_ldc2 (v := (-9000000000000000013)) F wd_703 dX10_copy_70 ?_
            refine v_widen (c' := 0) (s' := 0) (by decide) (by decide) ?_
            exact v_lret F hw dX10_copy_73
          · rw [if_neg h] at hw
            refine v_iload_n F dX10_copy_52 rfl 5 rfl ?_
            refine v_aload F dX10_copy_53 1 rfl ?_
            refine v_get F fl_X10_247 kd21 rfl dX10_copy_55 ?_
            refine v_icmp_gt (tgt := 70) F dX10_copy_58 (by decide) (fun h => ?_) (fun h => ?_)
            · rw [if_pos h] at hw
              refine v_ldc2 (v := (-9000000000000000013)) F wd_703 dX10_copy_70 ?_
              refine v_widen (c' := 0) (s' := 0) (by decide) (by decide) ?_
              exact v_lret F hw dX10_copy_73
            · rw [if_neg h] at hw
              refine v_iload_n F dX10_copy_61 rfl 5 rfl ?_
              refine v_aload F dX10_copy_62 0 rfl ?_
              refine v_get F fl_X10_247 kd22 rfl dX10_copy_64 ?_
              refine v_icmp_le (tgt := 74) F dX10_copy_67 (by decide) (fun h => ?_) (fun h => ?_)
              · rw [if_pos h] at hw
                refine v_iconst (v := 0) F dX10_copy_74 (by decide) ?_
                refine v_istore (L' := [(6, .int 0), (5, .ref b20), (4, .ref b19), (0, .ref a0), (1, .int p1), (2, .int p2), (3, .int p3)]) F dX10_copy_75 (by decide) rfl ?_
                obtain ⟨m, hw⟩ := hw
                exact v_loc [6, 2, 1, 0] rfl (sbX10_copy_77 hR F  m _ _ _ _ _ hw)
              · rw [if_neg h] at hw
                refine v_ldc2 (v := (-9000000000000000013)) F wd_703 dX10_copy_70 ?_
                refine v_widen (c' := 0) (s' := 0) (by decide) (by decide) ?_
                exact v_lret F hw dX10_copy_73
        · rw [if_neg h] at hw
          refine v_ldc2 (v := (-9000000000000000011)) F wd_702 dX10_copy_44 ?_
          refine v_widen (c' := 0) (s' := 0) (by decide) (by decide) ?_
          exact v_lret F hw dX10_copy_47
    · subst hr
      dsimp only at hw
      refine v_ldc2 (v := (-9000000000000000001)) F wd_337 dX10_copy_24 ?_
      refine v_widen (c' := 0) (s' := 0) (by decide) (by decide) ?_
      exact v_lret F hw dX10_copy_27
set_option maxRecDepth 100000 in
theorem sX10_part {l : Launch} {D : Dx} {a0 : Nat} {p1 : Int32} {p2 : Int64} {p4 : Int32} {G : Wd} {Q : Int64 → Wd → Prop} (hw : wpX10_part a0 p1 p2 p4 G Q) : Met l yX10_part (wM yX10_part cX10_part 6 (some .long)) rmX10_part (PM D [.ref a0, .int p1, .long p2, .int p4] G) (QMl D Q) 0 0 (Ab D) := by
  refine v_met (by decide) (Nat.le_of_ble_eq_true rfl) (fun X hl hR F => ?_)
  subst hl
  have F : Fx X D cX10_part 6 RX10 (some .long) "part" := F
  refine v_cast (L' := [(0, .ref a0), (1, .int p1), (2, .long p2), (4, .int p4)]) rfl rfl ?_
  unfold wpX10_part at hw
  refine v_aload_n F dX10_part_0 rfl 0 rfl ?_
  refine v_iload_n F dX10_part_1 rfl 1 rfl ?_
  obtain ⟨kd1, hw⟩ := hw
  refine v_callq (r_V F lk_X10_234 kd1 (sX10_findCustom hw) (mkRm hR rfl rfl rfl rfl rfl rfl) rfl rfl (Nat.le_of_ble_eq_true rfl) dX10_part_2) (fun r2 G3 hw => ?_)
  refine v_qstore (L' := [(5, va_rf r2), (0, .ref a0), (1, .int p1), (2, .long p2), (4, .int p4)]) F dX10_part_5 (by decide) rfl ?_
  refine v_qload F dX10_part_7 0 rfl ?_
  refine v_ifnull (tgt := 28) F dX10_part_9 (by decide) (fun hr => ?_) (fun b4 hr => ?_)
  · subst hr
    dsimp only at hw
    refine v_ldc2 (v := (-9000000000000000001)) F wd_337 dX10_part_28 ?_
    refine v_widen (c' := 0) (s' := 0) (by decide) (by decide) ?_
    exact v_lret F hw dX10_part_31
  · subst hr
    dsimp only at hw
    refine v_lload_n F dX10_part_12 rfl 3 rfl ?_
    refine v_ldc2 (v := (-1000000000000000)) F wd_712 dX10_part_13 ?_
    refine v_lcmp F dX10_part_16 ?_
    refine v_lif_lt (tgt := 28) F dX10_part_17 (by decide) (fun h => ?_) (fun h => ?_)
    · rw [if_pos h] at hw
      refine v_ldc2 (v := (-9000000000000000001)) F wd_337 dX10_part_28 ?_
      refine v_widen (c' := 0) (s' := 0) (by decide) (by decide) ?_
      exact v_lret F hw dX10_part_31
    · rw [if_neg h] at hw
      refine v_lload_n F dX10_part_20 rfl 3 rfl ?_
      refine v_ldc2 (v := 1000000000000000) F wd_713 dX10_part_21 ?_
      refine v_lcmp F dX10_part_24 ?_
      refine v_lif_le (tgt := 32) F dX10_part_25 (by decide) (fun h => ?_) (fun h => ?_)
      · rw [if_neg h] at hw
        refine v_aload F dX10_part_32 0 rfl ?_
        obtain ⟨kd5, hw⟩ := hw
        refine v_get F fl_X10_242 kd5 rfl dX10_part_34 ?_
        refine v_if_eq (tgt := 44) F dX10_part_37 (by decide) (fun h => ?_) (fun h => ?_)
        · rw [if_pos h] at hw
          refine v_iload F dX10_part_44 4 rfl ?_
          refine v_if_lt (tgt := 59) F dX10_part_46 (by decide) (fun h => ?_) (fun h => ?_)
          · rw [if_pos h] at hw
            refine v_ldc2 (v := (-9000000000000000013)) F wd_703 dX10_part_59 ?_
            refine v_widen (c' := 0) (s' := 0) (by decide) (by decide) ?_
            exact v_lret F hw dX10_part_62
          · rw [if_neg h] at hw
            refine v_iload F dX10_part_49 4 rfl ?_
            refine v_aload F dX10_part_51 0 rfl ?_
            refine v_get F fl_X10_247 kd5 rfl dX10_part_53 ?_
            refine v_icmp_le (tgt := 63) F dX10_part_56 (by decide) (fun h => ?_) (fun h => ?_)
            · rw [if_pos h] at hw
              refine v_lload_n F dX10_part_63 rfl 3 rfl ?_
              refine v_lconst (v := 0) F dX10_part_64 rfl ?_
              refine v_lcmp F dX10_part_65 ?_
              refine v_lif_ge (tgt := 82) F dX10_part_66 (by decide) (fun h => ?_) (fun h => ?_)
              · rw [if_neg h] at hw
                refine v_aload F dX10_part_82 0 rfl ?_
                refine v_lload_n F dX10_part_84 rfl 3 rfl ?_
                refine v_iload F dX10_part_85 4 rfl ?_
                refine v_calll (r_V F lk_X10_259 kd5 (sX1_partOf hw) (mkRm hR rfl rfl rfl rfl rfl rfl) rfl rfl (Nat.le_of_ble_eq_true rfl) dX10_part_87) (fun r6 G7 hw => ?_)
                refine v_widen (c' := 0) (s' := 0) (by decide) (by decide) ?_
                exact v_lret F hw dX10_part_90
              · rw [if_pos h] at hw
                refine v_aload F dX10_part_69 0 rfl ?_
                refine v_lload_n F dX10_part_71 rfl 3 rfl ?_
                refine v_lneg F dX10_part_72 ?_
                refine v_iload F dX10_part_73 4 rfl ?_
                refine v_calll (r_V F lk_X10_259 kd5 (sX1_partOf hw) (mkRm hR rfl rfl rfl rfl rfl rfl) rfl rfl (Nat.le_of_ble_eq_true rfl) dX10_part_75) (fun r8 G9 hw => ?_)
                refine v_lneg F dX10_part_78 ?_
                refine v_goto (tgt := 90) F dX10_part_79 (by decide) ?_
                refine v_widen (c' := 0) (s' := 0) (by decide) (by decide) ?_
                exact v_lret F hw dX10_part_90
            · rw [if_neg h] at hw
              refine v_ldc2 (v := (-9000000000000000013)) F wd_703 dX10_part_59 ?_
              refine v_widen (c' := 0) (s' := 0) (by decide) (by decide) ?_
              exact v_lret F hw dX10_part_62
        · rw [if_neg h] at hw
          refine v_ldc2 (v := (-9000000000000000011)) F wd_702 dX10_part_40 ?_
          refine v_widen (c' := 0) (s' := 0) (by decide) (by decide) ?_
          exact v_lret F hw dX10_part_43
      · rw [if_pos h] at hw
        refine v_ldc2 (v := (-9000000000000000001)) F wd_337 dX10_part_28 ?_
        refine v_widen (c' := 0) (s' := 0) (by decide) (by decide) ?_
        exact v_lret F hw dX10_part_31
set_option maxRecDepth 100000 in
theorem sX10_whole {l : Launch} {D : Dx} {a0 : Nat} {p1 : Int32} {p2 : Int64} {G : Wd} {Q : Int64 → Wd → Prop} (hw : wpX10_whole a0 p1 p2 G Q) : Met l yX10_whole (wM yX10_whole cX10_whole 5 (some .long)) rmX10_whole (PM D [.ref a0, .int p1, .long p2] G) (QMl D Q) 0 0 (Ab D) := by
  refine v_met (by decide) (Nat.le_of_ble_eq_true rfl) (fun X hl hR F => ?_)
  subst hl
  have F : Fx X D cX10_whole 5 RX10 (some .long) "whole" := F
  refine v_cast (L' := [(0, .ref a0), (1, .int p1), (2, .long p2)]) rfl rfl ?_
  unfold wpX10_whole at hw
  refine v_aload_n F dX10_whole_0 rfl 0 rfl ?_
  refine v_iload_n F dX10_whole_1 rfl 1 rfl ?_
  obtain ⟨kd1, hw⟩ := hw
  refine v_callq (r_V F lk_X10_234 kd1 (sX10_findCustom hw) (mkRm hR rfl rfl rfl rfl rfl rfl) rfl rfl (Nat.le_of_ble_eq_true rfl) dX10_whole_2) (fun r2 G3 hw => ?_)
  refine v_qstore (L' := [(4, va_rf r2), (0, .ref a0), (1, .int p1), (2, .long p2)]) F dX10_whole_5 (by decide) rfl ?_
  refine v_qload F dX10_whole_7 0 rfl ?_
  refine v_ifnull (tgt := 26) F dX10_whole_9 (by decide) (fun hr => ?_) (fun b4 hr => ?_)
  · subst hr
    dsimp only at hw
    refine v_ldc2 (v := (-9000000000000000001)) F wd_337 dX10_whole_26 ?_
    refine v_widen (c' := 0) (s' := 0) (by decide) (by decide) ?_
    exact v_lret F hw dX10_whole_29
  · subst hr
    dsimp only at hw
    refine v_lload_n F dX10_whole_12 rfl 3 rfl ?_
    refine v_lconst (v := 0) F dX10_whole_13 rfl ?_
    refine v_lcmp F dX10_whole_14 ?_
    refine v_lif_lt (tgt := 26) F dX10_whole_15 (by decide) (fun h => ?_) (fun h => ?_)
    · rw [if_pos h] at hw
      refine v_ldc2 (v := (-9000000000000000001)) F wd_337 dX10_whole_26 ?_
      refine v_widen (c' := 0) (s' := 0) (by decide) (by decide) ?_
      exact v_lret F hw dX10_whole_29
    · rw [if_neg h] at hw
      refine v_lload_n F dX10_whole_18 rfl 3 rfl ?_
      refine v_ldc2 (v := 1000000000000000000) F wd_729 dX10_whole_19 ?_
      refine v_lcmp F dX10_whole_22 ?_
      refine v_lif_lt (tgt := 30) F dX10_whole_23 (by decide) (fun h => ?_) (fun h => ?_)
      · rw [if_pos h] at hw
        refine v_aload F dX10_whole_30 0 rfl ?_
        obtain ⟨kd5, hw⟩ := hw
        refine v_get F fl_X10_242 kd5 rfl dX10_whole_32 ?_
        refine v_if_eq (tgt := 44) F dX10_whole_35 (by decide) (fun h => ?_) (fun h => ?_)
        · rw [if_pos h] at hw
          refine v_aload F dX10_whole_44 0 rfl ?_
          refine v_lload_n F dX10_whole_46 rfl 3 rfl ?_
          refine v_calll (r_V F lk_X10_265 kd5 (sX1_putTogether hw) (mkRm hR rfl rfl rfl rfl rfl rfl) rfl rfl (Nat.le_of_ble_eq_true rfl) dX10_whole_47) (fun r6 G7 hw => ?_)
          refine v_widen (c' := 0) (s' := 0) (by decide) (by decide) ?_
          exact v_lret F hw dX10_whole_50
        · rw [if_neg h] at hw
          refine v_ldc2 (v := (-9000000000000000011)) F wd_702 dX10_whole_38 ?_
          refine v_goto (tgt := 50) F dX10_whole_41 (by decide) ?_
          refine v_widen (c' := 0) (s' := 0) (by decide) (by decide) ?_
          exact v_lret F hw dX10_whole_50
      · rw [if_neg h] at hw
        refine v_ldc2 (v := (-9000000000000000001)) F wd_337 dX10_whole_26 ?_
        refine v_widen (c' := 0) (s' := 0) (by decide) (by decide) ?_
        exact v_lret F hw dX10_whole_29
set_option maxRecDepth 100000 in
theorem sX10_isAmount {l : Launch} {D : Dx} {p0 : Int32} {G : Wd} {Q : Int32 → Wd → Prop} (hw : wpX10_isAmount p0 G Q) : Met l yX10_isAmount (wM yX10_isAmount cX10_isAmount 1 (some .boolean)) rmX10_isAmount (PM D [.int p0] G) (QMi D Q) 0 0 (Ab D) := by
  refine v_met (by decide) (Nat.le_of_ble_eq_true rfl) (fun X hl hR F => ?_)
  subst hl
  have F : Fx X D cX10_isAmount 1 RX10 (some .boolean) "isAmount" := F
  refine v_cast (L' := [(0, .int p0)]) rfl rfl ?_
  unfold wpX10_isAmount at hw
  refine v_iload_n F dX10_isAmount_0 rfl 0 rfl ?_
  refine v_ldcw (v := (-1000000)) F wd_742 dX10_isAmount_1 ?_
  refine v_icmp_lt (tgt := 18) F dX10_isAmount_4 (by decide) (fun h => ?_) (fun h => ?_)
  · rw [if_pos h] at hw
    refine v_iconst (v := 0) F dX10_isAmount_18 (by decide) ?_
    exact v_zret F (Or.inl rfl) hw dX10_isAmount_19
  · rw [if_neg h] at hw
    refine v_iload_n F dX10_isAmount_7 rfl 0 rfl ?_
    refine v_ldcw (v := 1000000) F wd_743 dX10_isAmount_8 ?_
    refine v_icmp_gt (tgt := 18) F dX10_isAmount_11 (by decide) (fun h => ?_) (fun h => ?_)
    · rw [if_pos h] at hw
      refine v_iconst (v := 0) F dX10_isAmount_18 (by decide) ?_
      exact v_zret F (Or.inl rfl) hw dX10_isAmount_19
    · rw [if_neg h] at hw
      refine v_iconst (v := 1) F dX10_isAmount_14 (by decide) ?_
      refine v_goto (tgt := 19) F dX10_isAmount_15 (by decide) ?_
      exact v_zret F (Or.inr rfl) hw dX10_isAmount_19
set_option maxRecDepth 100000 in
theorem sX10_isMeasure {l : Launch} {D : Dx} {p0 : Int32} {G : Wd} {Q : Int32 → Wd → Prop} (hw : wpX10_isMeasure p0 G Q) : Met l yX10_isMeasure (wM yX10_isMeasure cX10_isMeasure 1 (some .boolean)) rmX10_isMeasure (PM D [.int p0] G) (QMi D Q) 0 0 (Ab D) := by
  refine v_met (by decide) (Nat.le_of_ble_eq_true rfl) (fun X hl hR F => ?_)
  subst hl
  have F : Fx X D cX10_isMeasure 1 RX10 (some .boolean) "isMeasure" := F
  refine v_cast (L' := [(0, .int p0)]) rfl rfl ?_
  unfold wpX10_isMeasure at hw
  refine v_iload_n F dX10_isMeasure_0 rfl 0 rfl ?_
  refine v_if_lt (tgt := 14) F dX10_isMeasure_1 (by decide) (fun h => ?_) (fun h => ?_)
  · rw [if_pos h] at hw
    refine v_iconst (v := 0) F dX10_isMeasure_14 (by decide) ?_
    exact v_zret F (Or.inl rfl) hw dX10_isMeasure_15
  · rw [if_neg h] at hw
    refine v_iload_n F dX10_isMeasure_4 rfl 0 rfl ?_
    refine v_bipush (v := 10) F dX10_isMeasure_5 (by decide) ?_
    refine v_icmp_ge (tgt := 14) F dX10_isMeasure_7 (by decide) (fun h => ?_) (fun h => ?_)
    · rw [if_pos h] at hw
      refine v_iconst (v := 0) F dX10_isMeasure_14 (by decide) ?_
      exact v_zret F (Or.inl rfl) hw dX10_isMeasure_15
    · rw [if_neg h] at hw
      refine v_iconst (v := 1) F dX10_isMeasure_10 (by decide) ?_
      refine v_goto (tgt := 15) F dX10_isMeasure_11 (by decide) ?_
      exact v_zret F (Or.inr rfl) hw dX10_isMeasure_15
set_option maxRecDepth 100000 in
theorem sX10_line {l : Launch} {D : Dx} {a0 : Nat} {p1 : Int32} {p2 : Int32} {p3 : Int32} {p4 : Int32} {G : Wd} {Q : Int64 → Wd → Prop} (hw : wpX10_line a0 p1 p2 p3 p4 G Q) : Met l yX10_line (wM yX10_line cX10_line 5 (some .long)) rmX10_line (PM D [.ref a0, .int p1, .int p2, .int p3, .int p4] G) (QMl D Q) 3 12 (Ab D) := by
  refine v_met (by decide) (Nat.le_of_ble_eq_true rfl) (fun X hl hR F => ?_)
  subst hl
  have F : Fx X D cX10_line 5 RX10 (some .long) "line" := F
  refine v_cast (L' := [(0, .ref a0), (1, .int p1), (2, .int p2), (3, .int p3), (4, .int p4)]) rfl rfl ?_
  unfold wpX10_line at hw
  refine v_iload_n F dX10_line_0 rfl 1 rfl ?_
  refine v_calli (r_S F ls_X10_269 (sX10_isAmount hw) (mkRm hR rfl rfl rfl rfl rfl rfl) rfl rfl (Nat.le_of_ble_eq_true rfl) dX10_line_1) (fun r1 G2 hw => ?_)
  refine v_if_eq (tgt := 29) F dX10_line_4 (by decide) (fun h => ?_) (fun h => ?_)
  · rw [if_pos h] at hw
    refine v_ldc2 (v := (-9000000000000000001)) F wd_337 dX10_line_29 ?_
    refine v_widen (c' := 3) (s' := 12) (by decide) (by decide) ?_
    exact v_lret F hw dX10_line_32
  · rw [if_neg h] at hw
    refine v_iload_n F dX10_line_7 rfl 2 rfl ?_
    refine v_calli (r_S F ls_X10_272 (sX10_isMeasure hw) (mkRm hR rfl rfl rfl rfl rfl rfl) rfl rfl (Nat.le_of_ble_eq_true rfl) dX10_line_8) (fun r3 G4 hw => ?_)
    refine v_if_eq (tgt := 29) F dX10_line_11 (by decide) (fun h => ?_) (fun h => ?_)
    · rw [if_pos h] at hw
      refine v_ldc2 (v := (-9000000000000000001)) F wd_337 dX10_line_29 ?_
      refine v_widen (c' := 3) (s' := 12) (by decide) (by decide) ?_
      exact v_lret F hw dX10_line_32
    · rw [if_neg h] at hw
      refine v_iload_n F dX10_line_14 rfl 3 rfl ?_
      refine v_calli (r_S F ls_X10_82 (sX10_isPlace hw) (mkRm hR rfl rfl rfl rfl rfl rfl) rfl rfl (Nat.le_of_ble_eq_true rfl) dX10_line_15) (fun r5 G6 hw => ?_)
      refine v_if_eq (tgt := 29) F dX10_line_18 (by decide) (fun h => ?_) (fun h => ?_)
      · rw [if_pos h] at hw
        refine v_ldc2 (v := (-9000000000000000001)) F wd_337 dX10_line_29 ?_
        refine v_widen (c' := 3) (s' := 12) (by decide) (by decide) ?_
        exact v_lret F hw dX10_line_32
      · rw [if_neg h] at hw
        refine v_iload F dX10_line_21 4 rfl ?_
        refine v_calli (r_S F ls_X10_112 (sX10_isDay hw) (mkRm hR rfl rfl rfl rfl rfl rfl) rfl rfl (Nat.le_of_ble_eq_true rfl) dX10_line_23) (fun r7 G8 hw => ?_)
        refine v_if_ne (tgt := 33) F dX10_line_26 (by decide) (fun h => ?_) (fun h => ?_)
        · rw [if_neg h] at hw
          refine v_aload_n F dX10_line_33 rfl 0 rfl ?_
          obtain ⟨kd9, hw⟩ := hw
          refine v_get F fl_X10_275 kd9 rfl dX10_line_34 ?_
          refine v_bipush (v := 20) F dX10_line_37 (by decide) ?_
          refine v_icmp_lt (tgt := 46) F dX10_line_39 (by decide) (fun h => ?_) (fun h => ?_)
          · rw [if_pos h] at hw
            refine v_aload_n F dX10_line_46 rfl 0 rfl ?_
            obtain ⟨b10, hr11, hw⟩ := hw
            refine v_getS F fl_X10_27 (fun _ => rfl) kd9 hr11 dX10_line_47 ?_
            refine v_aload_n F dX10_line_50 rfl 0 rfl ?_
            refine v_get F fl_X10_275 kd9 rfl dX10_line_51 ?_
            refine v_new (ci := 5) F rfl rfl wd_92 wd_747 wd_79 (by rw [hR]; exact Nat.le_of_ble_eq_true rfl) (by rw [hR]; exact Nat.le_of_ble_eq_true rfl) dX10_line_54 ?_
            generalize hz13 : gZ G8 = z13
            refine v_nmG (fun G12 hG12 => ?_)
            have hw := hw z13 G12 hz13.symm hG12
            refine v_dup F dX10_line_57 rfl ?_
            refine v_iload_n F dX10_line_58 rfl 1 rfl ?_
            refine v_iload_n F dX10_line_59 rfl 2 rfl ?_
            refine v_iload_n F dX10_line_60 rfl 3 rfl ?_
            refine v_iload F dX10_line_61 4 rfl ?_
            refine v_callv (r_I F li_X10_278 (sX6_init hw) (mkRm hR rfl rfl rfl rfl rfl rfl) rfl rfl (Nat.le_of_ble_eq_true rfl) dX10_line_63) (fun G15 hw => ?_)
            obtain ⟨kd16, hw⟩ := hw
            obtain ⟨kd19, hw⟩ := hw
            obtain ⟨hi17, hw⟩ := hw
            refine v_aastE (t := 6) (ci := 5) F rfl rfl rfl kd16 kd19 hi17 dX10_line_66 (fun G18 hG18 => ?_)
            have hw := hw G18 hG18
            refine v_aload_n F dX10_line_67 rfl 0 rfl ?_
            refine v_dup F dX10_line_68 rfl ?_
            obtain ⟨kd20, hw⟩ := hw
            refine v_get F fl_X10_275 kd20 rfl dX10_line_69 ?_
            refine v_dup_x1 F dX10_line_72 rfl rfl ?_
            refine v_iconst (v := 1) F dX10_line_73 (by decide) ?_
            refine v_iadd F dX10_line_74 ?_
            refine v_putI F fl_X10_275 (fun h => absurd h (by decide)) rfl kd20 dX10_line_75 ?_
            refine v_nmG (fun G21 hG21 => ?_)
            have hw := hw G21 hG21
            refine v_i2l F dX10_line_78 ?_
            refine v_widen (c' := 3) (s' := 12) (by decide) (by decide) ?_
            exact v_lret F hw dX10_line_79
          · rw [if_neg h] at hw
            refine v_ldc2 (v := (-9000000000000000003)) F wd_362 dX10_line_42 ?_
            refine v_widen (c' := 3) (s' := 12) (by decide) (by decide) ?_
            exact v_lret F hw dX10_line_45
        · rw [if_pos h] at hw
          refine v_ldc2 (v := (-9000000000000000001)) F wd_337 dX10_line_29 ?_
          refine v_widen (c' := 3) (s' := 12) (by decide) (by decide) ?_
          exact v_lret F hw dX10_line_32
set_option maxRecDepth 100000 in
theorem sX10_findLine {l : Launch} {D : Dx} {a0 : Nat} {p1 : Int32} {G : Wd} {Q : Option Nat → Wd → Prop} (hw : wpX10_findLine a0 p1 G Q) : Met l yX10_findLine (wM yX10_findLine cX10_findLine 2 (some (.object "OldReckoner$Line"))) rmX10_findLine (PM D [.ref a0, .int p1] G) (QMq D Q) 0 0 (Ab D) := by
  refine v_met (by decide) (Nat.le_of_ble_eq_true rfl) (fun X hl hR F => ?_)
  subst hl
  have F : Fx X D cX10_findLine 2 RX10 (some (.object "OldReckoner$Line")) "findLine" := F
  refine v_cast (L' := [(0, .ref a0), (1, .int p1)]) rfl rfl ?_
  unfold wpX10_findLine at hw
  refine v_iload_n F dX10_findLine_0 rfl 1 rfl ?_
  refine v_if_lt (tgt := 21) F dX10_findLine_1 (by decide) (fun h => ?_) (fun h => ?_)
  · rw [if_pos h] at hw
    refine v_null F dX10_findLine_21 ?_
    exact v_qret F hw dX10_findLine_22
  · rw [if_neg h] at hw
    refine v_iload_n F dX10_findLine_4 rfl 1 rfl ?_
    refine v_aload_n F dX10_findLine_5 rfl 0 rfl ?_
    obtain ⟨kd1, hw⟩ := hw
    refine v_get F fl_X10_275 kd1 rfl dX10_findLine_6 ?_
    refine v_icmp_ge (tgt := 21) F dX10_findLine_9 (by decide) (fun h => ?_) (fun h => ?_)
    · rw [if_pos h] at hw
      refine v_null F dX10_findLine_21 ?_
      exact v_qret F hw dX10_findLine_22
    · rw [if_neg h] at hw
      refine v_aload_n F dX10_findLine_12 rfl 0 rfl ?_
      obtain ⟨b2, hr3, hw⟩ := hw
      refine v_getS F fl_X10_27 (fun _ => rfl) kd1 hr3 dX10_findLine_13 ?_
      refine v_iload_n F dX10_findLine_16 rfl 1 rfl ?_
      obtain ⟨kd4, hw⟩ := hw
      obtain ⟨hi5, hw⟩ := hw
      refine v_aaldE (t := 6) F rfl rfl kd4 hi5 dX10_findLine_17 (fun r6 hr6 => ?_)
      have hw := hw r6 hr6
      clear hr6
      refine v_goto (tgt := 22) F dX10_findLine_18 (by decide) ?_
      exact v_qret F hw dX10_findLine_22
set_option maxRecDepth 100000 in
theorem sX10_amend {l : Launch} {D : Dx} {a0 : Nat} {p1 : Int32} {p2 : Int32} {G : Wd} {Q : Int64 → Wd → Prop} (hw : wpX10_amend a0 p1 p2 G Q) : Met l yX10_amend (wM yX10_amend cX10_amend 5 (some .long)) rmX10_amend (PM D [.ref a0, .int p1, .int p2] G) (QMl D Q) 0 0 (Ab D) := by
  refine v_met (by decide) (Nat.le_of_ble_eq_true rfl) (fun X hl hR F => ?_)
  subst hl
  have F : Fx X D cX10_amend 5 RX10 (some .long) "amend" := F
  refine v_cast (L' := [(0, .ref a0), (1, .int p1), (2, .int p2)]) rfl rfl ?_
  unfold wpX10_amend at hw
  refine v_aload_n F dX10_amend_0 rfl 0 rfl ?_
  refine v_iload_n F dX10_amend_1 rfl 1 rfl ?_
  obtain ⟨kd1, hw⟩ := hw
  refine v_callq (r_V F lk_X10_281 kd1 (sX10_findLine hw) (mkRm hR rfl rfl rfl rfl rfl rfl) rfl rfl (Nat.le_of_ble_eq_true rfl) dX10_amend_2) (fun r2 G3 hw => ?_)
  refine v_qstore_n (L' := [(3, va_rf r2), (0, .ref a0), (1, .int p1), (2, .int p2)]) F dX10_amend_5 rfl (by decide) rfl ?_
  refine v_qload_n F dX10_amend_6 rfl 0 rfl ?_
  refine v_ifnull (tgt := 17) F dX10_amend_7 (by decide) (fun hr => ?_) (fun b4 hr => ?_)
  · subst hr
    dsimp only at hw
    refine v_ldc2 (v := (-9000000000000000001)) F wd_337 dX10_amend_17 ?_
    refine v_widen (c' := 0) (s' := 0) (by decide) (by decide) ?_
    exact v_lret F hw dX10_amend_20
  · subst hr
    dsimp only at hw
    refine v_iload_n F dX10_amend_10 rfl 3 rfl ?_
    refine v_calli (r_S F ls_X10_269 (sX10_isAmount hw) (mkRm hR rfl rfl rfl rfl rfl rfl) rfl rfl (Nat.le_of_ble_eq_true rfl) dX10_amend_11) (fun r5 G6 hw => ?_)
    refine v_if_ne (tgt := 21) F dX10_amend_14 (by decide) (fun h => ?_) (fun h => ?_)
    · rw [if_neg h] at hw
      refine v_aload_n F dX10_amend_21 rfl 0 rfl ?_
      obtain ⟨kd7, hw⟩ := hw
      refine v_get F fl_X10_285 kd7 rfl dX10_amend_22 ?_
      refine v_topi (fun x8 hx8 => ?_)
      have hw := hw x8 hx8
      refine v_istore (L' := [(4, .int x8), (3, .ref b4), (0, .ref a0), (1, .int p1), (2, .int p2)]) F dX10_amend_25 (by decide) rfl ?_
      refine v_aload_n F dX10_amend_27 rfl 1 rfl ?_
      refine v_iload_n F dX10_amend_28 rfl 4 rfl ?_
      refine v_putI F fl_X10_285 (fun h => absurd h (by decide)) rfl kd7 dX10_amend_29 ?_
      refine v_nmG (fun G9 hG9 => ?_)
      have hw := hw G9 hG9
      refine v_iload F dX10_amend_32 0 rfl ?_
      refine v_i2l F dX10_amend_34 ?_
      refine v_widen (c' := 0) (s' := 0) (by decide) (by decide) ?_
      exact v_lret F hw dX10_amend_35
    · rw [if_pos h] at hw
      refine v_ldc2 (v := (-9000000000000000001)) F wd_337 dX10_amend_17 ?_
      refine v_widen (c' := 0) (s' := 0) (by decide) (by decide) ?_
      exact v_lret F hw dX10_amend_20
set_option maxRecDepth 100000 in
theorem sbX10_clear_7 {X : Cx} {D : Dx} (hR : X.2.2.2.1 = rmX10_clear) (F : Fx X D cX10_clear 3 RX10 (some .long) "clear") {Q : Int64 → Wd → Prop} : ∀ (n : Nat) (v0 : Nat) (v1 : Int32) (v2 : Int32) (G : Wd), wpX10_clear_7 Q  n v0 v1 v2 G → V X D 3 (ZM X D (QMl D Q) 0 0) G 0 0 7 [(0, .ref v0), (1, .int v1), (2, .int v2)] [] := by
  intro n
  induction n with
  | zero => intro v0 v1 v2 G hw; exact hw.elim
  | succ n ih =>
    intro v0 v1 v2 G hw
    simp only [wpX10_clear_7] at hw
    refine v_iload_n F dX10_clear_7 rfl 2 rfl ?_
    refine v_iload_n F dX10_clear_8 rfl 1 rfl ?_
    refine v_icmp_ge (tgt := 25) F dX10_clear_9 (by decide) (fun h => ?_) (fun h => ?_)
    · rw [if_pos h] at hw
      refine v_aload_n F dX10_clear_25 rfl 0 rfl ?_
      refine v_iconst (v := 0) F dX10_clear_26 (by decide) ?_
      obtain ⟨kd1, hw⟩ := hw
      refine v_putI F fl_X10_275 (fun h => absurd h (by decide)) rfl kd1 dX10_clear_27 ?_
      refine v_nmG (fun G2 hG2 => ?_)
      have hw := hw G2 hG2
      refine v_iload_n F dX10_clear_30 rfl 1 rfl ?_
      refine v_i2l F dX10_clear_31 ?_
      exact v_lret F hw dX10_clear_32
    · rw [if_neg h] at hw
      refine v_aload_n F dX10_clear_12 rfl 0 rfl ?_
      obtain ⟨kd3, hw⟩ := hw
      obtain ⟨b4, hr5, hw⟩ := hw
      refine v_getS F fl_X10_27 (fun _ => rfl) kd3 hr5 dX10_clear_13 ?_
      refine v_iload_n F dX10_clear_16 rfl 2 rfl ?_
      refine v_null F dX10_clear_17 ?_
      obtain ⟨kd6, hw⟩ := hw
      obtain ⟨hi7, hw⟩ := hw
      refine v_aastNE (t := 6) F rfl rfl kd6 hi7 dX10_clear_18 (fun G8 hG8 => ?_)
      have hw := hw G8 hG8
      refine v_iincN (c := 1) F dX10_clear_19 2 rfl (by decide) (by decide) (fun x9 hx9 => ?_)
      refine v_cast (L' := [(2, .int x9), (0, .ref v0), (1, .int v1)]) rfl rfl ?_
      have hw := hw x9 hx9
      refine v_goto (tgt := 7) F dX10_clear_22 (by decide) ?_
      exact v_loc [1, 2, 0] rfl (ih _ _ _ _ hw)
set_option maxRecDepth 100000 in
theorem sX10_clear {l : Launch} {D : Dx} {a0 : Nat} {G : Wd} {Q : Int64 → Wd → Prop} (hw : wpX10_clear a0 G Q) : Met l yX10_clear (wM yX10_clear cX10_clear 3 (some .long)) rmX10_clear (PM D [.ref a0] G) (QMl D Q) 0 0 (Ab D) := by
  refine v_met (by decide) (Nat.le_of_ble_eq_true rfl) (fun X hl hR F => ?_)
  subst hl
  have F : Fx X D cX10_clear 3 RX10 (some .long) "clear" := F
  refine v_cast (L' := [(0, .ref a0)]) rfl rfl ?_
  unfold wpX10_clear at hw
  refine v_aload_n F dX10_clear_0 rfl 0 rfl ?_
  obtain ⟨kd10, hw⟩ := hw
  refine v_get F fl_X10_275 kd10 rfl dX10_clear_1 ?_
  refine v_topi (fun x11 hx11 => ?_)
  have hw := hw x11 hx11
  refine v_istore_n (L' := [(1, .int x11), (0, .ref a0)]) F dX10_clear_4 rfl (by decide) rfl ?_
  refine v_iconst (v := 0) F dX10_clear_5 (by decide) ?_
  refine v_istore_n (L' := [(2, .int 0), (1, .int x11), (0, .ref a0)]) F dX10_clear_6 rfl (by decide) rfl ?_
  obtain ⟨m, hw⟩ := hw
  exact v_loc [2, 1, 0] rfl (sbX10_clear_7 hR F  m _ _ _ _ hw)
set_option maxRecDepth 100000 in
theorem sbX10_weighLines_88 {X : Cx} {D : Dx} (hR : X.2.2.2.1 = rmX10_weighLines) (F : Fx X D cX10_weighLines 4 RX10 (some .boolean) "weighLines") {Q : Int32 → Wd → Prop} {k2 : Nat → Int32 → Int32 → Wd → Prop} (hk2 : ∀ v0 v1 v2 G, k2 v0 v1 v2 G → V X D 4 (ZM X D (QMi D Q) 0 0) G 0 0 2 [(0, .ref v0), (1, .int v1), (2, .int v2)] []) {v0 : Nat} {v1 : Int32} {v2 : Int32} {G : Wd} (hw : wpX10_weighLines_88 Q k2 v0 v1 v2 G) : V X D 4 (ZM X D (QMi D Q) 0 0) G 0 0 88 [(0, .ref v0), (1, .int v1), (2, .int v2)] [] := by
  unfold wpX10_weighLines_88 at hw
  refine v_iincN (c := 1) F dX10_weighLines_88 2 rfl (by decide) (by decide) (fun x1 hx1 => ?_)
  refine v_cast (L' := [(2, .int x1), (0, .ref v0), (1, .int v1)]) rfl rfl ?_
  have hw := hw x1 hx1
  refine v_goto (tgt := 2) F dX10_weighLines_91 (by decide) ?_
  exact v_loc [1, 2, 0] rfl (hk2 _ _ _ _ hw)
set_option maxRecDepth 100000 in
theorem sbX10_weighLines_2 {X : Cx} {D : Dx} (hR : X.2.2.2.1 = rmX10_weighLines) (F : Fx X D cX10_weighLines 4 RX10 (some .boolean) "weighLines") {Q : Int32 → Wd → Prop} : ∀ (n : Nat) (v0 : Nat) (v1 : Int32) (v2 : Int32) (G : Wd), wpX10_weighLines_2 Q  n v0 v1 v2 G → V X D 4 (ZM X D (QMi D Q) 0 0) G 0 0 2 [(0, .ref v0), (1, .int v1), (2, .int v2)] [] := by
  intro n
  induction n with
  | zero => intro v0 v1 v2 G hw; exact hw.elim
  | succ n ih =>
    intro v0 v1 v2 G hw
    simp only [wpX10_weighLines_2] at hw
    refine v_iload_n F dX10_weighLines_2 rfl 2 rfl ?_
    refine v_aload_n F dX10_weighLines_3 rfl 0 rfl ?_
    obtain ⟨kd2, hw⟩ := hw
    refine v_get F fl_X10_275 kd2 rfl dX10_weighLines_4 ?_
    refine v_icmp_ge (tgt := 94) F dX10_weighLines_7 (by decide) (fun h => ?_) (fun h => ?_)
    · rw [if_pos h] at hw
      refine v_iconst (v := 1) F dX10_weighLines_94 (by decide) ?_
      exact v_zret F (Or.inr rfl) hw dX10_weighLines_95
    · rw [if_neg h] at hw
      refine v_aload_n F dX10_weighLines_10 rfl 0 rfl ?_
      obtain ⟨b3, hr4, hw⟩ := hw
      refine v_getS F fl_X10_27 (fun _ => rfl) kd2 hr4 dX10_weighLines_11 ?_
      refine v_iload_n F dX10_weighLines_14 rfl 2 rfl ?_
      obtain ⟨kd5, hw⟩ := hw
      obtain ⟨hi6, hw⟩ := hw
      refine v_aaldE (t := 6) F rfl rfl kd5 hi6 dX10_weighLines_15 (fun r7 hr7 => ?_)
      have hw := hw r7 hr7
      clear hr7
      refine v_qstore_n (L' := [(3, va_rf r7), (0, .ref v0), (1, .int v1), (2, .int v2)]) F dX10_weighLines_16 rfl (by decide) rfl ?_
      refine v_qload_n F dX10_weighLines_17 rfl 0 rfl ?_
      refine v_ifnull (tgt := 88) F dX10_weighLines_18 (by decide) (fun hr => ?_) (fun b8 hr => ?_)
      · subst hr
        dsimp only at hw
        exact v_loc [1, 2, 3] rfl (sbX10_weighLines_88 hR F ih hw)
      · subst hr
        dsimp only at hw
        refine v_aload_n F dX10_weighLines_21 rfl 1 rfl ?_
        refine v_aload_n F dX10_weighLines_22 rfl 0 rfl ?_
        obtain ⟨kd9, hw⟩ := hw
        refine v_getG F fl_X10_344 kd9 rfl dX10_weighLines_23 ?_
        refine v_sipush (v := 10000) F dX10_weighLines_26 (by decide) ?_
        refine v_imul F dX10_weighLines_29 ?_
        refine v_aload_n F dX10_weighLines_30 rfl 0 rfl ?_
        refine v_getG F fl_X10_345 kd9 rfl dX10_weighLines_31 ?_
        refine v_iadd F dX10_weighLines_34 ?_
        refine v_callv (r_V F lk_X10_177 kd2 (sX10_gather hw) (mkRm hR rfl rfl rfl rfl rfl rfl) rfl rfl (Nat.le_of_ble_eq_true rfl) dX10_weighLines_35) (fun G11 hw => ?_)
        refine v_aload_n F dX10_weighLines_38 rfl 1 rfl ?_
        obtain ⟨kd12, hw⟩ := hw
        obtain ⟨b13, hr14, hw⟩ := hw
        refine v_getS F fl_X10_34 (fun _ => rfl) kd12 hr14 dX10_weighLines_39 ?_
        refine v_aload_n F dX10_weighLines_42 rfl 0 rfl ?_
        obtain ⟨kd15, hw⟩ := hw
        refine v_getG F fl_X10_348 kd15 rfl dX10_weighLines_43 ?_
        refine v_iload_n F dX10_weighLines_46 rfl 2 rfl ?_
        refine v_iconst (v := 0) F dX10_weighLines_47 (by decide) ?_
        refine v_aload_n F dX10_weighLines_48 rfl 1 rfl ?_
        obtain ⟨b16, hr17, hw⟩ := hw
        refine v_getS F fl_X10_48 (fun _ => rfl) kd12 hr17 dX10_weighLines_49 ?_
        obtain ⟨kd18, hw⟩ := hw
        refine v_calli (r_V F lk_X10_189 kd18 (sX9_pickWay hw) (mkRm hR rfl rfl rfl rfl rfl rfl) rfl rfl (Nat.le_of_ble_eq_true rfl) dX10_weighLines_52) (fun r19 G20 hw => ?_)
        refine v_if_ne (tgt := 60) F dX10_weighLines_55 (by decide) (fun h => ?_) (fun h => ?_)
        · rw [if_neg h] at hw
          refine v_aload_n F dX10_weighLines_60 rfl 0 rfl ?_
          obtain ⟨kd21, hw⟩ := hw
          obtain ⟨b22, hr23, hw⟩ := hw
          refine v_getSG F fl_X10_351 (fun _ => rfl) kd21 hr23 dX10_weighLines_61 ?_
          refine v_aload_n F dX10_weighLines_64 rfl 1 rfl ?_
          obtain ⟨kd24, hw⟩ := hw
          obtain ⟨b25, hr26, hw⟩ := hw
          refine v_getS F fl_X10_34 (fun _ => rfl) kd24 hr26 dX10_weighLines_65 ?_
          obtain ⟨kd27, hw⟩ := hw
          refine v_callq (r_V F lk_X10_201 kd27 (sX9_low hw) (mkRm hR rfl rfl rfl rfl rfl rfl) rfl rfl (Nat.le_of_ble_eq_true rfl) dX10_weighLines_68) (fun r28 G29 hw => ?_)
          obtain ⟨b30, hr, hw⟩ := hw
          subst hr
          obtain ⟨kd31, hw⟩ := hw
          refine v_callv (r_V F lk_X10_352 kd31 (sX2_become_ hw) (mkRm hR rfl rfl rfl rfl rfl rfl) rfl rfl (Nat.le_of_ble_eq_true rfl) dX10_weighLines_71) (fun G33 hw => ?_)
          refine v_aload_n F dX10_weighLines_74 rfl 0 rfl ?_
          obtain ⟨kd34, hw⟩ := hw
          obtain ⟨b35, hr36, hw⟩ := hw
          refine v_getSG F fl_X10_356 (fun _ => rfl) kd34 hr36 dX10_weighLines_75 ?_
          refine v_aload_n F dX10_weighLines_78 rfl 1 rfl ?_
          obtain ⟨kd37, hw⟩ := hw
          obtain ⟨b38, hr39, hw⟩ := hw
          refine v_getS F fl_X10_34 (fun _ => rfl) kd37 hr39 dX10_weighLines_79 ?_
          obtain ⟨kd40, hw⟩ := hw
          refine v_callq (r_V F lk_X10_204 kd40 (sX9_high hw) (mkRm hR rfl rfl rfl rfl rfl rfl) rfl rfl (Nat.le_of_ble_eq_true rfl) dX10_weighLines_82) (fun r41 G42 hw => ?_)
          obtain ⟨b43, hr, hw⟩ := hw
          subst hr
          obtain ⟨kd44, hw⟩ := hw
          refine v_callv (r_V F lk_X10_352 kd44 (sX2_become_ hw) (mkRm hR rfl rfl rfl rfl rfl rfl) rfl rfl (Nat.le_of_ble_eq_true rfl) dX10_weighLines_85) (fun G46 hw => ?_)
          exact v_loc [1, 2, 3] rfl (sbX10_weighLines_88 hR F ih hw)
        · rw [if_pos h] at hw
          refine v_iconst (v := 0) F dX10_weighLines_58 (by decide) ?_
          refine v_widen (c' := 0) (s' := 0) (by decide) (by decide) ?_
          exact v_zret F (Or.inl rfl) hw dX10_weighLines_59
set_option maxRecDepth 100000 in
theorem sX10_weighLines {l : Launch} {D : Dx} {a0 : Nat} {p1 : Int32} {G : Wd} {Q : Int32 → Wd → Prop} (hw : wpX10_weighLines a0 p1 G Q) : Met l yX10_weighLines (wM yX10_weighLines cX10_weighLines 4 (some .boolean)) rmX10_weighLines (PM D [.ref a0, .int p1] G) (QMi D Q) 0 0 (Ab D) := by
  refine v_met (by decide) (Nat.le_of_ble_eq_true rfl) (fun X hl hR F => ?_)
  subst hl
  have F : Fx X D cX10_weighLines 4 RX10 (some .boolean) "weighLines" := F
  refine v_cast (L' := [(0, .ref a0), (1, .int p1)]) rfl rfl ?_
  unfold wpX10_weighLines at hw
  refine v_iconst (v := 0) F dX10_weighLines_0 (by decide) ?_
  refine v_istore_n (L' := [(2, .int 0), (0, .ref a0), (1, .int p1)]) F dX10_weighLines_1 rfl (by decide) rfl ?_
  obtain ⟨m, hw⟩ := hw
  exact v_loc [1, 2, 0] rfl (sbX10_weighLines_2 hR F  m _ _ _ _ hw)
set_option maxRecDepth 100000 in
theorem sbX10_sumLines_144 {X : Cx} {D : Dx} (hR : X.2.2.2.1 = rmX10_sumLines) (F : Fx X D cX10_sumLines 8 RX10 none "sumLines") {Q : Wd → Prop} {k21 : Nat → Int32 → Int64 → Int32 → Wd → Prop} (hk21 : ∀ v0 v1 v2 v4 G, k21 v0 v1 v2 v4 G → V X D 8 (ZM X D (QMv D Q) 0 0) G 0 0 21 [(0, .ref v0), (1, .int v1), (2, .long v2), (4, .int v4)] []) {v0 : Nat} {v1 : Int32} {v2 : Int64} {v4 : Int32} {G : Wd} (hw : wpX10_sumLines_144 Q k21 v0 v1 v2 v4 G) : V X D 8 (ZM X D (QMv D Q) 0 0) G 0 0 144 [(0, .ref v0), (1, .int v1), (2, .long v2), (4, .int v4)] [] := by
  unfold wpX10_sumLines_144 at hw
  refine v_iincN (c := 1) F dX10_sumLines_144 3 rfl (by decide) (by decide) (fun x1 hx1 => ?_)
  refine v_cast (L' := [(4, .int x1), (0, .ref v0), (1, .int v1), (2, .long v2)]) rfl rfl ?_
  have hw := hw x1 hx1
  refine v_goto (tgt := 21) F dX10_sumLines_147 (by decide) ?_
  exact v_loc [1, 2, 3, 0] rfl (hk21 _ _ _ _ _ hw)
set_option maxRecDepth 100000 in
theorem sbX10_sumLines_127 {X : Cx} {D : Dx} (hR : X.2.2.2.1 = rmX10_sumLines) (F : Fx X D cX10_sumLines 8 RX10 none "sumLines") {Q : Wd → Prop} {k21 : Nat → Int32 → Int64 → Int32 → Wd → Prop} (hk21 : ∀ v0 v1 v2 v4 G, k21 v0 v1 v2 v4 G → V X D 8 (ZM X D (QMv D Q) 0 0) G 0 0 21 [(0, .ref v0), (1, .int v1), (2, .long v2), (4, .int v4)] []) {v0 : Nat} {v1 : Int32} {v2 : Int64} {v4 : Int32} {v6 : Int64} {s0 : Nat} {s1 : Nat} {G : Wd} (hw : wpX10_sumLines_127 Q k21 v0 v1 v2 v4 v6 s0 s1 G) : V X D 8 (ZM X D (QMv D Q) 0 0) G 0 0 127 [(0, .ref v0), (1, .int v1), (2, .long v2), (4, .int v4), (6, .long v6)] [.ref s1, .ref s0] := by
  unfold wpX10_sumLines_127 at hw
  refine v_lload F dX10_sumLines_127 4 rfl ?_
  refine v_lconst (v := 1) F dX10_sumLines_129 rfl ?_
  obtain ⟨kd2, hw⟩ := hw
  refine v_callv (r_V F lk_X10_360 kd2 (sX2_becomeProduct hw) (mkRm hR rfl rfl rfl rfl rfl rfl) rfl rfl (Nat.le_of_ble_eq_true rfl) dX10_sumLines_130) (fun G4 hw => ?_)
  refine v_aload_n F dX10_sumLines_133 rfl 0 rfl ?_
  obtain ⟨kd5, hw⟩ := hw
  obtain ⟨b6, hr7, hw⟩ := hw
  refine v_getS F fl_X10_73 (fun _ => rfl) kd5 hr7 dX10_sumLines_134 ?_
  refine v_aload_n F dX10_sumLines_137 rfl 0 rfl ?_
  obtain ⟨b8, hr9, hw⟩ := hw
  refine v_getS F fl_X10_76 (fun _ => rfl) kd5 hr9 dX10_sumLines_138 ?_
  obtain ⟨kd10, hw⟩ := hw
  refine v_callv (r_V F lk_X10_364 kd10 (sX2_add hw) (mkRm hR rfl rfl rfl rfl rfl rfl) rfl rfl (Nat.le_of_ble_eq_true rfl) dX10_sumLines_141) (fun G12 hw => ?_)
  exact v_loc [0, 1, 2, 3] rfl (sbX10_sumLines_144 hR F hk21 hw)
set_option maxRecDepth 100000 in
theorem sbX10_sumLines_86 {X : Cx} {D : Dx} (hR : X.2.2.2.1 = rmX10_sumLines) (F : Fx X D cX10_sumLines 8 RX10 none "sumLines") {Q : Wd → Prop} {k21 : Nat → Int32 → Int64 → Int32 → Wd → Prop} (hk21 : ∀ v0 v1 v2 v4 G, k21 v0 v1 v2 v4 G → V X D 8 (ZM X D (QMv D Q) 0 0) G 0 0 21 [(0, .ref v0), (1, .int v1), (2, .long v2), (4, .int v4)] []) {v0 : Nat} {v1 : Int32} {v2 : Int64} {v4 : Int32} {v5 : Nat} {v6 : Int64} {s0 : Nat} {s1 : Nat} {G : Wd} (hw : wpX10_sumLines_86 Q k21 v0 v1 v2 v4 v5 v6 s0 s1 G) : V X D 8 (ZM X D (QMv D Q) 0 0) G 0 0 86 [(0, .ref v0), (1, .int v1), (2, .long v2), (4, .int v4), (5, .ref v5), (6, .long v6)] [.ref s1, .ref s0] := by
  unfold wpX10_sumLines_86 at hw
  refine v_lload F dX10_sumLines_86 5 rfl ?_
  refine v_lconst (v := 1) F dX10_sumLines_88 rfl ?_
  obtain ⟨kd13, hw⟩ := hw
  refine v_callv (r_V F lk_X10_360 kd13 (sX2_becomeProduct hw) (mkRm hR rfl rfl rfl rfl rfl rfl) rfl rfl (Nat.le_of_ble_eq_true rfl) dX10_sumLines_89) (fun G15 hw => ?_)
  refine v_aload_n F dX10_sumLines_92 rfl 0 rfl ?_
  obtain ⟨kd16, hw⟩ := hw
  obtain ⟨b17, hr18, hw⟩ := hw
  refine v_getS F fl_X10_69 (fun _ => rfl) kd16 hr18 dX10_sumLines_93 ?_
  refine v_aload_n F dX10_sumLines_96 rfl 0 rfl ?_
  obtain ⟨b19, hr20, hw⟩ := hw
  refine v_getS F fl_X10_76 (fun _ => rfl) kd16 hr20 dX10_sumLines_97 ?_
  obtain ⟨kd21, hw⟩ := hw
  refine v_callv (r_V F lk_X10_364 kd21 (sX2_add hw) (mkRm hR rfl rfl rfl rfl rfl rfl) rfl rfl (Nat.le_of_ble_eq_true rfl) dX10_sumLines_100) (fun G23 hw => ?_)
  refine v_aload_n F dX10_sumLines_103 rfl 0 rfl ?_
  obtain ⟨kd24, hw⟩ := hw
  obtain ⟨b25, hr26, hw⟩ := hw
  refine v_getS F fl_X10_76 (fun _ => rfl) kd24 hr26 dX10_sumLines_104 ?_
  refine v_lload F dX10_sumLines_107 5 rfl ?_
  refine v_lconst (v := 0) F dX10_sumLines_109 rfl ?_
  refine v_lcmp F dX10_sumLines_110 ?_
  refine v_lif_ge (tgt := 122) F dX10_sumLines_111 (by decide) (fun h => ?_) (fun h => ?_)
  · rw [if_neg h] at hw
    refine v_aload F dX10_sumLines_122 4 rfl ?_
    obtain ⟨kd27, hw⟩ := hw
    obtain ⟨b28, hr29, hw⟩ := hw
    refine v_getSG F fl_X10_356 (fun _ => rfl) kd27 hr29 dX10_sumLines_124 ?_
    exact v_loc [0, 1, 2, 3, 5] rfl (sbX10_sumLines_127 hR F hk21 hw)
  · rw [if_pos h] at hw
    refine v_aload F dX10_sumLines_114 4 rfl ?_
    obtain ⟨kd30, hw⟩ := hw
    obtain ⟨b31, hr32, hw⟩ := hw
    refine v_getSG F fl_X10_351 (fun _ => rfl) kd30 hr32 dX10_sumLines_116 ?_
    refine v_goto (tgt := 127) F dX10_sumLines_119 (by decide) ?_
    exact v_loc [0, 1, 2, 3, 5] rfl (sbX10_sumLines_127 hR F hk21 hw)
set_option maxRecDepth 100000 in
theorem sbX10_sumLines_60 {X : Cx} {D : Dx} (hR : X.2.2.2.1 = rmX10_sumLines) (F : Fx X D cX10_sumLines 8 RX10 none "sumLines") {Q : Wd → Prop} {k21 : Nat → Int32 → Int64 → Int32 → Wd → Prop} (hk21 : ∀ v0 v1 v2 v4 G, k21 v0 v1 v2 v4 G → V X D 8 (ZM X D (QMv D Q) 0 0) G 0 0 21 [(0, .ref v0), (1, .int v1), (2, .long v2), (4, .int v4)] []) {v0 : Nat} {v1 : Int32} {v2 : Int64} {v4 : Int32} {v5 : Nat} {s0 : Int64} {G : Wd} (hw : wpX10_sumLines_60 Q k21 v0 v1 v2 v4 v5 s0 G) : V X D 8 (ZM X D (QMv D Q) 0 0) G 0 0 60 [(0, .ref v0), (1, .int v1), (2, .long v2), (4, .int v4), (5, .ref v5)] [.long s0] := by
  unfold wpX10_sumLines_60 at hw
  refine v_lstore (L' := [(6, .long s0), (0, .ref v0), (1, .int v1), (2, .long v2), (4, .int v4), (5, .ref v5)]) F dX10_sumLines_60 (by decide) rfl ?_
  refine v_aload_n F dX10_sumLines_62 rfl 1 rfl ?_
  obtain ⟨kd33, hw⟩ := hw
  obtain ⟨b34, hr35, hw⟩ := hw
  refine v_getS F fl_X10_76 (fun _ => rfl) kd33 hr35 dX10_sumLines_63 ?_
  refine v_lload F dX10_sumLines_66 0 rfl ?_
  refine v_lconst (v := 0) F dX10_sumLines_68 rfl ?_
  refine v_lcmp F dX10_sumLines_69 ?_
  refine v_lif_ge (tgt := 81) F dX10_sumLines_70 (by decide) (fun h => ?_) (fun h => ?_)
  · rw [if_neg h] at hw
    refine v_aload F dX10_sumLines_81 5 rfl ?_
    obtain ⟨kd36, hw⟩ := hw
    obtain ⟨b37, hr38, hw⟩ := hw
    refine v_getSG F fl_X10_351 (fun _ => rfl) kd36 hr38 dX10_sumLines_83 ?_
    exact v_loc [1, 2, 3, 4, 5, 0] rfl (sbX10_sumLines_86 hR F hk21 hw)
  · rw [if_pos h] at hw
    refine v_aload F dX10_sumLines_73 5 rfl ?_
    obtain ⟨kd39, hw⟩ := hw
    obtain ⟨b40, hr41, hw⟩ := hw
    refine v_getSG F fl_X10_356 (fun _ => rfl) kd39 hr41 dX10_sumLines_75 ?_
    refine v_goto (tgt := 86) F dX10_sumLines_78 (by decide) ?_
    exact v_loc [1, 2, 3, 4, 5, 0] rfl (sbX10_sumLines_86 hR F hk21 hw)
set_option maxRecDepth 100000 in
theorem sbX10_sumLines_21 {X : Cx} {D : Dx} (hR : X.2.2.2.1 = rmX10_sumLines) (F : Fx X D cX10_sumLines 8 RX10 none "sumLines") {Q : Wd → Prop} : ∀ (n : Nat) (v0 : Nat) (v1 : Int32) (v2 : Int64) (v4 : Int32) (G : Wd), wpX10_sumLines_21 Q  n v0 v1 v2 v4 G → V X D 8 (ZM X D (QMv D Q) 0 0) G 0 0 21 [(0, .ref v0), (1, .int v1), (2, .long v2), (4, .int v4)] [] := by
  intro n
  induction n with
  | zero => intro v0 v1 v2 v4 G hw; exact hw.elim
  | succ n ih =>
    intro v0 v1 v2 v4 G hw
    simp only [wpX10_sumLines_21] at hw
    refine v_iload F dX10_sumLines_21 3 rfl ?_
    refine v_aload_n F dX10_sumLines_23 rfl 0 rfl ?_
    obtain ⟨kd42, hw⟩ := hw
    refine v_get F fl_X10_275 kd42 rfl dX10_sumLines_24 ?_
    refine v_icmp_ge (tgt := 150) F dX10_sumLines_27 (by decide) (fun h => ?_) (fun h => ?_)
    · rw [if_pos h] at hw
      exact v_vret F hw dX10_sumLines_150
    · rw [if_neg h] at hw
      refine v_aload_n F dX10_sumLines_30 rfl 0 rfl ?_
      obtain ⟨b43, hr44, hw⟩ := hw
      refine v_getS F fl_X10_27 (fun _ => rfl) kd42 hr44 dX10_sumLines_31 ?_
      refine v_iload F dX10_sumLines_34 3 rfl ?_
      obtain ⟨kd45, hw⟩ := hw
      obtain ⟨hi46, hw⟩ := hw
      refine v_aaldE (t := 6) F rfl rfl kd45 hi46 dX10_sumLines_36 (fun r47 hr47 => ?_)
      have hw := hw r47 hr47
      clear hr47
      refine v_qstore (L' := [(5, va_rf r47), (0, .ref v0), (1, .int v1), (2, .long v2), (4, .int v4)]) F dX10_sumLines_37 (by decide) rfl ?_
      refine v_qload F dX10_sumLines_39 0 rfl ?_
      refine v_ifnull (tgt := 144) F dX10_sumLines_41 (by decide) (fun hr => ?_) (fun b48 hr => ?_)
      · subst hr
        dsimp only at hw
        exact v_loc [1, 2, 3, 4] rfl (sbX10_sumLines_144 hR F ih hw)
      · subst hr
        dsimp only at hw
        refine v_iload F dX10_sumLines_44 4 rfl ?_
        refine v_iload_n F dX10_sumLines_46 rfl 2 rfl ?_
        refine v_icmp_ne (tgt := 54) F dX10_sumLines_47 (by decide) (fun h => ?_) (fun h => ?_)
        · rw [if_neg h] at hw
          refine v_aload F dX10_sumLines_54 0 rfl ?_
          obtain ⟨kd49, hw⟩ := hw
          refine v_get F fl_X10_285 kd49 rfl dX10_sumLines_56 ?_
          refine v_i2l F dX10_sumLines_59 ?_
          exact v_loc [1, 2, 3, 4, 0] rfl (sbX10_sumLines_60 hR F ih hw)
        · rw [if_pos h] at hw
          refine v_lload_n F dX10_sumLines_50 rfl 3 rfl ?_
          refine v_goto (tgt := 60) F dX10_sumLines_51 (by decide) ?_
          exact v_loc [1, 2, 3, 4, 0] rfl (sbX10_sumLines_60 hR F ih hw)
set_option maxRecDepth 100000 in
theorem sX10_sumLines {l : Launch} {D : Dx} {a0 : Nat} {p1 : Int32} {p2 : Int64} {G : Wd} {Q : Wd → Prop} (hw : wpX10_sumLines a0 p1 p2 G Q) : Met l yX10_sumLines (wM yX10_sumLines cX10_sumLines 8 none) rmX10_sumLines (PM D [.ref a0, .int p1, .long p2] G) (QMv D Q) 0 0 (Ab D) := by
  refine v_met (by decide) (Nat.le_of_ble_eq_true rfl) (fun X hl hR F => ?_)
  subst hl
  have F : Fx X D cX10_sumLines 8 RX10 none "sumLines" := F
  refine v_cast (L' := [(0, .ref a0), (1, .int p1), (2, .long p2)]) rfl rfl ?_
  unfold wpX10_sumLines at hw
  refine v_aload_n F dX10_sumLines_0 rfl 0 rfl ?_
  obtain ⟨kd50, hw⟩ := hw
  obtain ⟨b51, hr52, hw⟩ := hw
  refine v_getS F fl_X10_69 (fun _ => rfl) kd50 hr52 dX10_sumLines_1 ?_
  refine v_lconst (v := 0) F dX10_sumLines_4 rfl ?_
  refine v_lconst (v := 1) F dX10_sumLines_5 rfl ?_
  obtain ⟨kd53, hw⟩ := hw
  refine v_callv (r_V F lk_X10_357 kd53 (sX2_become hw) (mkRm hR rfl rfl rfl rfl rfl rfl) rfl rfl (Nat.le_of_ble_eq_true rfl) dX10_sumLines_6) (fun G55 hw => ?_)
  refine v_aload_n F dX10_sumLines_9 rfl 0 rfl ?_
  obtain ⟨kd56, hw⟩ := hw
  obtain ⟨b57, hr58, hw⟩ := hw
  refine v_getS F fl_X10_73 (fun _ => rfl) kd56 hr58 dX10_sumLines_10 ?_
  refine v_lconst (v := 0) F dX10_sumLines_13 rfl ?_
  refine v_lconst (v := 1) F dX10_sumLines_14 rfl ?_
  obtain ⟨kd59, hw⟩ := hw
  refine v_callv (r_V F lk_X10_357 kd59 (sX2_become hw) (mkRm hR rfl rfl rfl rfl rfl rfl) rfl rfl (Nat.le_of_ble_eq_true rfl) dX10_sumLines_15) (fun G61 hw => ?_)
  refine v_iconst (v := 0) F dX10_sumLines_18 (by decide) ?_
  refine v_istore (L' := [(4, .int 0), (0, .ref a0), (1, .int p1), (2, .long p2)]) F dX10_sumLines_19 (by decide) rfl ?_
  obtain ⟨m, hw⟩ := hw
  exact v_loc [1, 2, 3, 0] rfl (sbX10_sumLines_21 hR F  m _ _ _ _ _ hw)
set_option maxRecDepth 100000 in
theorem sX10_total {l : Launch} {D : Dx} {a0 : Nat} {p1 : Int32} {p2 : Int32} {p3 : Int32} {G : Wd} {Q : Int64 → Wd → Prop} (hw : wpX10_total a0 p1 p2 p3 G Q) : Met l yX10_total (wM yX10_total cX10_total 4 (some .long)) rmX10_total (PM D [.ref a0, .int p1, .int p2, .int p3] G) (QMl D Q) 0 0 (Ab D) := by
  refine v_met (by decide) (Nat.le_of_ble_eq_true rfl) (fun X hl hR F => ?_)
  subst hl
  have F : Fx X D cX10_total 4 RX10 (some .long) "total" := F
  refine v_cast (L' := [(0, .ref a0), (1, .int p1), (2, .int p2), (3, .int p3)]) rfl rfl ?_
  unfold wpX10_total at hw
  refine v_iload_n F dX10_total_0 rfl 1 rfl ?_
  refine v_calli (r_S F ls_X10_272 (sX10_isMeasure hw) (mkRm hR rfl rfl rfl rfl rfl rfl) rfl rfl (Nat.le_of_ble_eq_true rfl) dX10_total_1) (fun r1 G2 hw => ?_)
  refine v_if_eq (tgt := 21) F dX10_total_4 (by decide) (fun h => ?_) (fun h => ?_)
  · rw [if_pos h] at hw
    refine v_ldc2 (v := (-9000000000000000001)) F wd_337 dX10_total_21 ?_
    refine v_widen (c' := 0) (s' := 0) (by decide) (by decide) ?_
    exact v_lret F hw dX10_total_24
  · rw [if_neg h] at hw
    refine v_iload_n F dX10_total_7 rfl 2 rfl ?_
    refine v_calli (r_S F ls_X10_157 (sX10_isEither hw) (mkRm hR rfl rfl rfl rfl rfl rfl) rfl rfl (Nat.le_of_ble_eq_true rfl) dX10_total_8) (fun r3 G4 hw => ?_)
    refine v_if_eq (tgt := 21) F dX10_total_11 (by decide) (fun h => ?_) (fun h => ?_)
    · rw [if_pos h] at hw
      refine v_ldc2 (v := (-9000000000000000001)) F wd_337 dX10_total_21 ?_
      refine v_widen (c' := 0) (s' := 0) (by decide) (by decide) ?_
      exact v_lret F hw dX10_total_24
    · rw [if_neg h] at hw
      refine v_iload_n F dX10_total_14 rfl 3 rfl ?_
      refine v_calli (r_S F ls_X10_157 (sX10_isEither hw) (mkRm hR rfl rfl rfl rfl rfl rfl) rfl rfl (Nat.le_of_ble_eq_true rfl) dX10_total_15) (fun r5 G6 hw => ?_)
      refine v_if_ne (tgt := 25) F dX10_total_18 (by decide) (fun h => ?_) (fun h => ?_)
      · rw [if_neg h] at hw
        refine v_aload_n F dX10_total_25 rfl 0 rfl ?_
        refine v_iload_n F dX10_total_26 rfl 1 rfl ?_
        obtain ⟨kd7, hw⟩ := hw
        refine v_calli (r_V F lk_X10_288 kd7 (sX10_weighLines hw) (mkRm hR rfl rfl rfl rfl rfl rfl) rfl rfl (Nat.le_of_ble_eq_true rfl) dX10_total_27) (fun r8 G9 hw => ?_)
        refine v_if_ne (tgt := 37) F dX10_total_30 (by decide) (fun h => ?_) (fun h => ?_)
        · rw [if_neg h] at hw
          refine v_aload_n F dX10_total_37 rfl 0 rfl ?_
          refine v_iconst (v := (-1)) F dX10_total_38 (by decide) ?_
          refine v_lconst (v := 0) F dX10_total_39 rfl ?_
          obtain ⟨kd10, hw⟩ := hw
          refine v_callv (r_V F lk_X10_291 kd10 (sX10_sumLines hw) (mkRm hR rfl rfl rfl rfl rfl rfl) rfl rfl (Nat.le_of_ble_eq_true rfl) dX10_total_40) (fun G12 hw => ?_)
          refine v_aload_n F dX10_total_43 rfl 0 rfl ?_
          obtain ⟨kd13, hw⟩ := hw
          obtain ⟨b14, hr15, hw⟩ := hw
          refine v_getS F fl_X10_69 (fun _ => rfl) kd13 hr15 dX10_total_44 ?_
          refine v_aload_n F dX10_total_47 rfl 0 rfl ?_
          obtain ⟨b16, hr17, hw⟩ := hw
          refine v_getS F fl_X10_73 (fun _ => rfl) kd13 hr17 dX10_total_48 ?_
          refine v_iload_n F dX10_total_51 rfl 2 rfl ?_
          refine v_iload_n F dX10_total_52 rfl 3 rfl ?_
          refine v_calll (r_S F ls_X10_166 (sX10_endOf hw) (mkRm hR rfl rfl rfl rfl rfl rfl) rfl rfl (Nat.le_of_ble_eq_true rfl) dX10_total_53) (fun r18 G19 hw => ?_)
          refine v_widen (c' := 0) (s' := 0) (by decide) (by decide) ?_
          exact v_lret F hw dX10_total_56
        · rw [if_pos h] at hw
          refine v_ldc2 (v := (-9000000000000000005)) F wd_611 dX10_total_33 ?_
          refine v_widen (c' := 0) (s' := 0) (by decide) (by decide) ?_
          exact v_lret F hw dX10_total_36
      · rw [if_pos h] at hw
        refine v_ldc2 (v := (-9000000000000000001)) F wd_337 dX10_total_21 ?_
        refine v_widen (c' := 0) (s' := 0) (by decide) (by decide) ?_
        exact v_lret F hw dX10_total_24
set_option maxRecDepth 100000 in
theorem sX10_tryAmount {l : Launch} {D : Dx} {a0 : Nat} {p1 : Int32} {p2 : Int64} {p4 : Int32} {G : Wd} {Q : Int64 → Wd → Prop} (hw : wpX10_tryAmount a0 p1 p2 p4 G Q) : Met l yX10_tryAmount (wM yX10_tryAmount cX10_tryAmount 5 (some .long)) rmX10_tryAmount (PM D [.ref a0, .int p1, .long p2, .int p4] G) (QMl D Q) 0 0 (Ab D) := by
  refine v_met (by decide) (Nat.le_of_ble_eq_true rfl) (fun X hl hR F => ?_)
  subst hl
  have F : Fx X D cX10_tryAmount 5 RX10 (some .long) "tryAmount" := F
  refine v_cast (L' := [(0, .ref a0), (1, .int p1), (2, .long p2), (4, .int p4)]) rfl rfl ?_
  unfold wpX10_tryAmount at hw
  refine v_aload_n F dX10_tryAmount_0 rfl 0 rfl ?_
  refine v_iload_n F dX10_tryAmount_1 rfl 1 rfl ?_
  refine v_lload_n F dX10_tryAmount_2 rfl 2 rfl ?_
  obtain ⟨kd1, hw⟩ := hw
  refine v_callv (r_V F lk_X10_291 kd1 (sX10_sumLines hw) (mkRm hR rfl rfl rfl rfl rfl rfl) rfl rfl (Nat.le_of_ble_eq_true rfl) dX10_tryAmount_3) (fun G3 hw => ?_)
  refine v_aload_n F dX10_tryAmount_6 rfl 0 rfl ?_
  obtain ⟨kd4, hw⟩ := hw
  obtain ⟨b5, hr6, hw⟩ := hw
  refine v_getS F fl_X10_69 (fun _ => rfl) kd4 hr6 dX10_tryAmount_7 ?_
  obtain ⟨kd7, hw⟩ := hw
  refine v_get F fl_X10_324 kd7 rfl dX10_tryAmount_10 ?_
  refine v_if_ne (tgt := 26) F dX10_tryAmount_13 (by decide) (fun h => ?_) (fun h => ?_)
  · rw [if_neg h] at hw
    refine v_ldc2 (v := (-9000000000000000004)) F wd_486 dX10_tryAmount_26 ?_
    refine v_widen (c' := 0) (s' := 0) (by decide) (by decide) ?_
    exact v_lret F hw dX10_tryAmount_29
  · rw [if_pos h] at hw
    refine v_aload_n F dX10_tryAmount_16 rfl 0 rfl ?_
    obtain ⟨b8, hr9, hw⟩ := hw
    refine v_getS F fl_X10_73 (fun _ => rfl) kd4 hr9 dX10_tryAmount_17 ?_
    obtain ⟨kd10, hw⟩ := hw
    refine v_get F fl_X10_324 kd10 rfl dX10_tryAmount_20 ?_
    refine v_if_eq (tgt := 30) F dX10_tryAmount_23 (by decide) (fun h => ?_) (fun h => ?_)
    · rw [if_pos h] at hw
      refine v_aload_n F dX10_tryAmount_30 rfl 0 rfl ?_
      obtain ⟨b11, hr12, hw⟩ := hw
      refine v_getS F fl_X10_69 (fun _ => rfl) kd4 hr12 dX10_tryAmount_31 ?_
      obtain ⟨kd13, hw⟩ := hw
      refine v_calll (r_V F lk_X10_367 kd13 (sX2_ceiling hw) (mkRm hR rfl rfl rfl rfl rfl rfl) rfl rfl (Nat.le_of_ble_eq_true rfl) dX10_tryAmount_34) (fun r14 G15 hw => ?_)
      refine v_iload F dX10_tryAmount_37 3 rfl ?_
      refine v_i2l F dX10_tryAmount_39 ?_
      refine v_lcmp F dX10_tryAmount_40 ?_
      refine v_lif_gt (tgt := 62) F dX10_tryAmount_41 (by decide) (fun h => ?_) (fun h => ?_)
      · rw [if_pos h] at hw
        refine v_lconst (v := 0) F dX10_tryAmount_62 rfl ?_
        refine v_widen (c' := 0) (s' := 0) (by decide) (by decide) ?_
        exact v_lret F hw dX10_tryAmount_63
      · rw [if_neg h] at hw
        refine v_iload F dX10_tryAmount_44 3 rfl ?_
        refine v_i2l F dX10_tryAmount_46 ?_
        refine v_aload_n F dX10_tryAmount_47 rfl 0 rfl ?_
        obtain ⟨kd16, hw⟩ := hw
        obtain ⟨b17, hr18, hw⟩ := hw
        refine v_getS F fl_X10_73 (fun _ => rfl) kd16 hr18 dX10_tryAmount_48 ?_
        obtain ⟨kd19, hw⟩ := hw
        refine v_calll (r_V F lk_X10_370 kd19 (sX2_floor hw) (mkRm hR rfl rfl rfl rfl rfl rfl) rfl rfl (Nat.le_of_ble_eq_true rfl) dX10_tryAmount_51) (fun r20 G21 hw => ?_)
        refine v_lcmp F dX10_tryAmount_54 ?_
        refine v_lif_gt (tgt := 62) F dX10_tryAmount_55 (by decide) (fun h => ?_) (fun h => ?_)
        · rw [if_pos h] at hw
          refine v_lconst (v := 0) F dX10_tryAmount_62 rfl ?_
          refine v_widen (c' := 0) (s' := 0) (by decide) (by decide) ?_
          exact v_lret F hw dX10_tryAmount_63
        · rw [if_neg h] at hw
          refine v_lconst (v := 1) F dX10_tryAmount_58 rfl ?_
          refine v_goto (tgt := 63) F dX10_tryAmount_59 (by decide) ?_
          refine v_widen (c' := 0) (s' := 0) (by decide) (by decide) ?_
          exact v_lret F hw dX10_tryAmount_63
    · rw [if_neg h] at hw
      refine v_ldc2 (v := (-9000000000000000004)) F wd_486 dX10_tryAmount_26 ?_
      refine v_widen (c' := 0) (s' := 0) (by decide) (by decide) ?_
      exact v_lret F hw dX10_tryAmount_29
set_option maxRecDepth 100000 in
theorem sbX10_slipOfLine_73 {X : Cx} {D : Dx} (hR : X.2.2.2.1 = rmX10_slipOfLine) (F : Fx X D cX10_slipOfLine 9 RX10 (some .long) "slipOfLine") {Q : Int64 → Wd → Prop} {k11 : Nat → Int32 → Int32 → Int32 → Int32 → Int32 → Wd → Prop} (hk11 : ∀ v0 v1 v2 v4 v5 v6 G, k11 v0 v1 v2 v4 v5 v6 G → V X D 9 (ZM X D (QMl D Q) 0 0) G 0 0 11 [(0, .ref v0), (1, .int v1), (2, .int v2), (4, .int v4), (5, .int v5), (6, .int v6)] []) {v0 : Nat} {v1 : Int32} {v2 : Int32} {v4 : Int32} {v5 : Int32} {v6 : Int32} {G : Wd} (hw : wpX10_slipOfLine_73 Q k11 v0 v1 v2 v4 v5 v6 G) : V X D 9 (ZM X D (QMl D Q) 0 0) G 0 0 73 [(0, .ref v0), (1, .int v1), (2, .int v2), (4, .int v4), (5, .int v5), (6, .int v6)] [] := by
  unfold wpX10_slipOfLine_73 at hw
  refine v_iincN (c := 1) F dX10_slipOfLine_73 5 rfl (by decide) (by decide) (fun x1 hx1 => ?_)
  refine v_cast (L' := [(6, .int x1), (0, .ref v0), (1, .int v1), (2, .int v2), (4, .int v4), (5, .int v5)]) rfl rfl ?_
  have hw := hw x1 hx1
  refine v_goto (tgt := 11) F dX10_slipOfLine_76 (by decide) ?_
  exact v_loc [1, 2, 3, 4, 5, 0] rfl (hk11 _ _ _ _ _ _ _ hw)
set_option maxRecDepth 100000 in
theorem sbX10_slipOfLine_11 {X : Cx} {D : Dx} (hR : X.2.2.2.1 = rmX10_slipOfLine) (F : Fx X D cX10_slipOfLine 9 RX10 (some .long) "slipOfLine") {Q : Int64 → Wd → Prop} : ∀ (n : Nat) (v0 : Nat) (v1 : Int32) (v2 : Int32) (v4 : Int32) (v5 : Int32) (v6 : Int32) (G : Wd), wpX10_slipOfLine_11 Q  n v0 v1 v2 v4 v5 v6 G → V X D 9 (ZM X D (QMl D Q) 0 0) G 0 0 11 [(0, .ref v0), (1, .int v1), (2, .int v2), (4, .int v4), (5, .int v5), (6, .int v6)] [] := by
  intro n
  induction n with
  | zero => intro v0 v1 v2 v4 v5 v6 G hw; exact hw.elim
  | succ n ih =>
    intro v0 v1 v2 v4 v5 v6 G hw
    simp only [wpX10_slipOfLine_11] at hw
    refine v_iload F dX10_slipOfLine_11 5 rfl ?_
    refine v_iload F dX10_slipOfLine_13 4 rfl ?_
    refine v_icmp_gt (tgt := 79) F dX10_slipOfLine_15 (by decide) (fun h => ?_) (fun h => ?_)
    · rw [if_pos h] at hw
      refine v_ldc2 (v := (-9000000000000000005)) F wd_611 dX10_slipOfLine_79 ?_
      exact v_lret F hw dX10_slipOfLine_82
    · rw [if_neg h] at hw
      refine v_iload F dX10_slipOfLine_18 5 rfl ?_
      refine v_iload_n F dX10_slipOfLine_20 rfl 2 rfl ?_
      refine v_calli (r_S F ls_X10_377 (sX6_canBe hw) (mkRm hR rfl rfl rfl rfl rfl rfl) rfl rfl (Nat.le_of_ble_eq_true rfl) dX10_slipOfLine_21) (fun r2 G3 hw => ?_)
      refine v_if_eq (tgt := 73) F dX10_slipOfLine_24 (by decide) (fun h => ?_) (fun h => ?_)
      · rw [if_pos h] at hw
        exact v_loc [0, 1, 2, 3, 4, 5] rfl (sbX10_slipOfLine_73 hR F ih hw)
      · rw [if_neg h] at hw
        refine v_aload_n F dX10_slipOfLine_27 rfl 0 rfl ?_
        refine v_iload_n F dX10_slipOfLine_28 rfl 1 rfl ?_
        refine v_iload F dX10_slipOfLine_29 5 rfl ?_
        refine v_iload_n F dX10_slipOfLine_31 rfl 2 rfl ?_
        refine v_calll (r_S F ls_X10_380 (sX6_amended hw) (mkRm hR rfl rfl rfl rfl rfl rfl) rfl rfl (Nat.le_of_ble_eq_true rfl) dX10_slipOfLine_32) (fun r4 G5 hw => ?_)
        refine v_iload F dX10_slipOfLine_35 3 rfl ?_
        obtain ⟨kd6, hw⟩ := hw
        refine v_calll (r_V F lk_X10_297 kd6 (sX10_tryAmount hw) (mkRm hR rfl rfl rfl rfl rfl rfl) rfl rfl (Nat.le_of_ble_eq_true rfl) dX10_slipOfLine_37) (fun r7 G8 hw => ?_)
        refine v_lstore (L' := [(7, .long r7), (0, .ref v0), (1, .int v1), (2, .int v2), (4, .int v4), (5, .int v5), (6, .int v6)]) F dX10_slipOfLine_40 (by decide) rfl ?_
        refine v_lload F dX10_slipOfLine_42 0 rfl ?_
        refine v_lconst (v := 0) F dX10_slipOfLine_44 rfl ?_
        refine v_lcmp F dX10_slipOfLine_45 ?_
        refine v_lif_eq (tgt := 73) F dX10_slipOfLine_46 (by decide) (fun h => ?_) (fun h => ?_)
        · rw [if_pos h] at hw
          exact v_loc [1, 2, 3, 4, 5, 6] rfl (sbX10_slipOfLine_73 hR F ih hw)
        · rw [if_neg h] at hw
          refine v_lload F dX10_slipOfLine_49 0 rfl ?_
          refine v_lconst (v := 1) F dX10_slipOfLine_51 rfl ?_
          refine v_lcmp F dX10_slipOfLine_52 ?_
          refine v_lif_ne (tgt := 69) F dX10_slipOfLine_53 (by decide) (fun h => ?_) (fun h => ?_)
          · rw [if_neg h] at hw
            refine v_ldc2 (v := (-9000000000000000004)) F wd_486 dX10_slipOfLine_69 ?_
            refine v_widen (c' := 0) (s' := 0) (by decide) (by decide) ?_
            exact v_lret F hw dX10_slipOfLine_72
          · rw [if_pos h] at hw
            refine v_ldc2 (v := 10) F wd_849 dX10_slipOfLine_56 ?_
            refine v_iload_n F dX10_slipOfLine_59 rfl 2 rfl ?_
            refine v_i2l F dX10_slipOfLine_60 ?_
            refine v_lmul F dX10_slipOfLine_61 ?_
            refine v_iload F dX10_slipOfLine_62 6 rfl ?_
            refine v_i2l F dX10_slipOfLine_64 ?_
            refine v_ladd F dX10_slipOfLine_65 ?_
            refine v_goto (tgt := 72) F dX10_slipOfLine_66 (by decide) ?_
            refine v_widen (c' := 0) (s' := 0) (by decide) (by decide) ?_
            exact v_lret F hw dX10_slipOfLine_72
set_option maxRecDepth 100000 in
theorem sX10_slipOfLine {l : Launch} {D : Dx} {a0 : Nat} {p1 : Int32} {p2 : Int32} {p3 : Int32} {p4 : Int32} {G : Wd} {Q : Int64 → Wd → Prop} (hw : wpX10_slipOfLine a0 p1 p2 p3 p4 G Q) : Met l yX10_slipOfLine (wM yX10_slipOfLine cX10_slipOfLine 9 (some .long)) rmX10_slipOfLine (PM D [.ref a0, .int p1, .int p2, .int p3, .int p4] G) (QMl D Q) 0 0 (Ab D) := by
  refine v_met (by decide) (Nat.le_of_ble_eq_true rfl) (fun X hl hR F => ?_)
  subst hl
  have F : Fx X D cX10_slipOfLine 9 RX10 (some .long) "slipOfLine" := F
  refine v_cast (L' := [(0, .ref a0), (1, .int p1), (2, .int p2), (3, .int p3), (4, .int p4)]) rfl rfl ?_
  unfold wpX10_slipOfLine at hw
  refine v_iconst (v := 2) F dX10_slipOfLine_0 (by decide) ?_
  refine v_iload_n F dX10_slipOfLine_1 rfl 3 rfl ?_
  refine v_imul F dX10_slipOfLine_2 ?_
  refine v_topi (fun x9 hx9 => ?_)
  have hw := hw x9 hx9
  refine v_istore (L' := [(5, .int x9), (0, .ref a0), (1, .int p1), (2, .int p2), (3, .int p3), (4, .int p4)]) F dX10_slipOfLine_3 (by decide) rfl ?_
  refine v_iload F dX10_slipOfLine_5 0 rfl ?_
  refine v_iconst (v := 1) F dX10_slipOfLine_7 (by decide) ?_
  refine v_isub F dX10_slipOfLine_8 ?_
  refine v_topi (fun x10 hx10 => ?_)
  have hw := hw x10 hx10
  refine v_istore (L' := [(6, .int x10), (5, .int x9), (0, .ref a0), (1, .int p1), (2, .int p2), (3, .int p3), (4, .int p4)]) F dX10_slipOfLine_9 (by decide) rfl ?_
  obtain ⟨m, hw⟩ := hw
  exact v_loc [2, 3, 4, 6, 1, 0] rfl (sbX10_slipOfLine_11 hR F  m _ _ _ _ _ _ _ hw)
set_option maxRecDepth 100000 in
theorem sbX10_firstSlip_56 {X : Cx} {D : Dx} (hR : X.2.2.2.1 = rmX10_firstSlip) (F : Fx X D cX10_firstSlip 7 RX10 (some .long) "firstSlip") {Q : Int64 → Wd → Prop} {k2 : Nat → Int32 → Int32 → Wd → Prop} {k9 : Nat → Int32 → Int32 → Int32 → Wd → Prop} (hk2 : ∀ v0 v1 v2 G, k2 v0 v1 v2 G → V X D 7 (ZM X D (QMl D Q) 0 0) G 0 0 2 [(0, .ref v0), (1, .int v1), (2, .int v2)] []) (hk9 : ∀ v0 v1 v2 v3 G, k9 v0 v1 v2 v3 G → V X D 7 (ZM X D (QMl D Q) 0 0) G 0 0 9 [(0, .ref v0), (1, .int v1), (2, .int v2), (3, .int v3)] []) {v0 : Nat} {v1 : Int32} {v2 : Int32} {v3 : Int32} {G : Wd} (hw : wpX10_firstSlip_56 Q k2 k9 v0 v1 v2 v3 G) : V X D 7 (ZM X D (QMl D Q) 0 0) G 0 0 56 [(0, .ref v0), (1, .int v1), (2, .int v2), (3, .int v3)] [] := by
  unfold wpX10_firstSlip_56 at hw
  refine v_iincN (c := 1) F dX10_firstSlip_56 3 rfl (by decide) (by decide) (fun x1 hx1 => ?_)
  refine v_cast (L' := [(3, .int x1), (0, .ref v0), (1, .int v1), (2, .int v2)]) rfl rfl ?_
  have hw := hw x1 hx1
  refine v_goto (tgt := 9) F dX10_firstSlip_59 (by decide) ?_
  exact v_loc [1, 2, 3, 0] rfl (hk9 _ _ _ _ _ hw)
set_option maxRecDepth 100000 in
theorem sbX10_firstSlip_9 {X : Cx} {D : Dx} (hR : X.2.2.2.1 = rmX10_firstSlip) (F : Fx X D cX10_firstSlip 7 RX10 (some .long) "firstSlip") {Q : Int64 → Wd → Prop} {k2 : Nat → Int32 → Int32 → Wd → Prop} (hk2 : ∀ v0 v1 v2 G, k2 v0 v1 v2 G → V X D 7 (ZM X D (QMl D Q) 0 0) G 0 0 2 [(0, .ref v0), (1, .int v1), (2, .int v2)] []) : ∀ (n : Nat) (v0 : Nat) (v1 : Int32) (v2 : Int32) (v3 : Int32) (G : Wd), wpX10_firstSlip_9 Q k2 n v0 v1 v2 v3 G → V X D 7 (ZM X D (QMl D Q) 0 0) G 0 0 9 [(0, .ref v0), (1, .int v1), (2, .int v2), (3, .int v3)] [] := by
  intro n
  induction n with
  | zero => intro v0 v1 v2 v3 G hw; exact hw.elim
  | succ n ih =>
    intro v0 v1 v2 v3 G hw
    simp only [wpX10_firstSlip_9] at hw
    refine v_iload_n F dX10_firstSlip_9 rfl 3 rfl ?_
    refine v_aload_n F dX10_firstSlip_10 rfl 0 rfl ?_
    obtain ⟨kd2, hw⟩ := hw
    refine v_get F fl_X10_275 kd2 rfl dX10_firstSlip_11 ?_
    refine v_icmp_ge (tgt := 62) F dX10_firstSlip_14 (by decide) (fun h => ?_) (fun h => ?_)
    · rw [if_pos h] at hw
      refine v_iincN (c := 1) F dX10_firstSlip_62 2 rfl (by decide) (by decide) (fun x3 hx3 => ?_)
      refine v_cast (L' := [(2, .int x3), (0, .ref v0), (1, .int v1), (3, .int v3)]) rfl rfl ?_
      have hw := hw x3 hx3
      refine v_goto (tgt := 2) F dX10_firstSlip_65 (by decide) ?_
      exact v_loc [1, 2, 0] rfl (hk2 _ _ _ _ hw)
    · rw [if_neg h] at hw
      refine v_aload_n F dX10_firstSlip_17 rfl 0 rfl ?_
      obtain ⟨b4, hr5, hw⟩ := hw
      refine v_getS F fl_X10_27 (fun _ => rfl) kd2 hr5 dX10_firstSlip_18 ?_
      refine v_iload_n F dX10_firstSlip_21 rfl 3 rfl ?_
      obtain ⟨kd6, hw⟩ := hw
      obtain ⟨hi7, hw⟩ := hw
      refine v_aaldE (t := 6) F rfl rfl kd6 hi7 dX10_firstSlip_22 (fun r8 hr8 => ?_)
      have hw := hw r8 hr8
      clear hr8
      refine v_qstore (L' := [(4, va_rf r8), (0, .ref v0), (1, .int v1), (2, .int v2), (3, .int v3)]) F dX10_firstSlip_23 (by decide) rfl ?_
      refine v_qload F dX10_firstSlip_25 0 rfl ?_
      refine v_ifnull (tgt := 56) F dX10_firstSlip_27 (by decide) (fun hr => ?_) (fun b9 hr => ?_)
      · subst hr
        dsimp only at hw
        exact v_loc [1, 2, 3, 4] rfl (sbX10_firstSlip_56 hR F hk2 ih hw)
      · subst hr
        dsimp only at hw
        refine v_aload_n F dX10_firstSlip_30 rfl 1 rfl ?_
        refine v_iload_n F dX10_firstSlip_31 rfl 4 rfl ?_
        refine v_aload F dX10_firstSlip_32 0 rfl ?_
        obtain ⟨kd10, hw⟩ := hw
        refine v_get F fl_X10_285 kd10 rfl dX10_firstSlip_34 ?_
        refine v_iload_n F dX10_firstSlip_37 rfl 3 rfl ?_
        refine v_iload_n F dX10_firstSlip_38 rfl 2 rfl ?_
        refine v_calll (r_V F lk_X10_373 kd2 (sX10_slipOfLine hw) (mkRm hR rfl rfl rfl rfl rfl rfl) rfl rfl (Nat.le_of_ble_eq_true rfl) dX10_firstSlip_39) (fun r11 G12 hw => ?_)
        refine v_lstore (L' := [(5, .long r11), (4, .ref b9), (0, .ref v0), (1, .int v1), (2, .int v2), (3, .int v3)]) F dX10_firstSlip_42 (by decide) rfl ?_
        refine v_lload F dX10_firstSlip_44 0 rfl ?_
        refine v_ldc2 (v := (-9000000000000000005)) F wd_611 dX10_firstSlip_46 ?_
        refine v_lcmp F dX10_firstSlip_49 ?_
        refine v_lif_eq (tgt := 56) F dX10_firstSlip_50 (by decide) (fun h => ?_) (fun h => ?_)
        · rw [if_pos h] at hw
          exact v_loc [2, 3, 4, 5] rfl (sbX10_firstSlip_56 hR F hk2 ih hw)
        · rw [if_neg h] at hw
          refine v_lload F dX10_firstSlip_53 0 rfl ?_
          refine v_widen (c' := 0) (s' := 0) (by decide) (by decide) ?_
          exact v_lret F hw dX10_firstSlip_55
set_option maxRecDepth 100000 in
theorem sbX10_firstSlip_2 {X : Cx} {D : Dx} (hR : X.2.2.2.1 = rmX10_firstSlip) (F : Fx X D cX10_firstSlip 7 RX10 (some .long) "firstSlip") {Q : Int64 → Wd → Prop} : ∀ (n : Nat) (v0 : Nat) (v1 : Int32) (v2 : Int32) (G : Wd), wpX10_firstSlip_2 Q  n v0 v1 v2 G → V X D 7 (ZM X D (QMl D Q) 0 0) G 0 0 2 [(0, .ref v0), (1, .int v1), (2, .int v2)] [] := by
  intro n
  induction n with
  | zero => intro v0 v1 v2 G hw; exact hw.elim
  | succ n ih =>
    intro v0 v1 v2 G hw
    simp only [wpX10_firstSlip_2] at hw
    refine v_iload_n F dX10_firstSlip_2 rfl 2 rfl ?_
    refine v_iconst (v := 2) F dX10_firstSlip_3 (by decide) ?_
    refine v_icmp_gt (tgt := 68) F dX10_firstSlip_4 (by decide) (fun h => ?_) (fun h => ?_)
    · rw [if_pos h] at hw
      refine v_ldc2 (v := (-9000000000000000005)) F wd_611 dX10_firstSlip_68 ?_
      exact v_lret F hw dX10_firstSlip_71
    · rw [if_neg h] at hw
      refine v_iconst (v := 0) F dX10_firstSlip_7 (by decide) ?_
      refine v_istore_n (L' := [(3, .int 0), (0, .ref v0), (1, .int v1), (2, .int v2)]) F dX10_firstSlip_8 rfl (by decide) rfl ?_
      obtain ⟨m, hw⟩ := hw
      exact v_loc [1, 2, 3, 0] rfl (sbX10_firstSlip_9 hR F ih m _ _ _ _ _ hw)
set_option maxRecDepth 100000 in
theorem sX10_firstSlip {l : Launch} {D : Dx} {a0 : Nat} {p1 : Int32} {G : Wd} {Q : Int64 → Wd → Prop} (hw : wpX10_firstSlip a0 p1 G Q) : Met l yX10_firstSlip (wM yX10_firstSlip cX10_firstSlip 7 (some .long)) rmX10_firstSlip (PM D [.ref a0, .int p1] G) (QMl D Q) 0 0 (Ab D) := by
  refine v_met (by decide) (Nat.le_of_ble_eq_true rfl) (fun X hl hR F => ?_)
  subst hl
  have F : Fx X D cX10_firstSlip 7 RX10 (some .long) "firstSlip" := F
  refine v_cast (L' := [(0, .ref a0), (1, .int p1)]) rfl rfl ?_
  unfold wpX10_firstSlip at hw
  refine v_iconst (v := 1) F dX10_firstSlip_0 (by decide) ?_
  refine v_istore_n (L' := [(2, .int 1), (0, .ref a0), (1, .int p1)]) F dX10_firstSlip_1 rfl (by decide) rfl ?_
  obtain ⟨m, hw⟩ := hw
  exact v_loc [1, 2, 0] rfl (sbX10_firstSlip_2 hR F  m _ _ _ _ hw)
set_option maxRecDepth 100000 in
theorem sX10_slip {l : Launch} {D : Dx} {a0 : Nat} {p1 : Int32} {p2 : Int32} {G : Wd} {Q : Int64 → Wd → Prop} (hw : wpX10_slip a0 p1 p2 G Q) : Met l yX10_slip (wM yX10_slip cX10_slip 5 (some .long)) rmX10_slip (PM D [.ref a0, .int p1, .int p2] G) (QMl D Q) 0 0 (Ab D) := by
  refine v_met (by decide) (Nat.le_of_ble_eq_true rfl) (fun X hl hR F => ?_)
  subst hl
  have F : Fx X D cX10_slip 5 RX10 (some .long) "slip" := F
  refine v_cast (L' := [(0, .ref a0), (1, .int p1), (2, .int p2)]) rfl rfl ?_
  unfold wpX10_slip at hw
  refine v_iload_n F dX10_slip_0 rfl 1 rfl ?_
  refine v_calli (r_S F ls_X10_272 (sX10_isMeasure hw) (mkRm hR rfl rfl rfl rfl rfl rfl) rfl rfl (Nat.le_of_ble_eq_true rfl) dX10_slip_1) (fun r1 G2 hw => ?_)
  refine v_if_eq (tgt := 21) F dX10_slip_4 (by decide) (fun h => ?_) (fun h => ?_)
  · rw [if_pos h] at hw
    refine v_ldc2 (v := (-9000000000000000001)) F wd_337 dX10_slip_21 ?_
    refine v_widen (c' := 0) (s' := 0) (by decide) (by decide) ?_
    exact v_lret F hw dX10_slip_24
  · rw [if_neg h] at hw
    refine v_iload_n F dX10_slip_7 rfl 2 rfl ?_
    refine v_ldcw (v := (-1000000000)) F wd_815 dX10_slip_8 ?_
    refine v_icmp_lt (tgt := 21) F dX10_slip_11 (by decide) (fun h => ?_) (fun h => ?_)
    · rw [if_pos h] at hw
      refine v_ldc2 (v := (-9000000000000000001)) F wd_337 dX10_slip_21 ?_
      refine v_widen (c' := 0) (s' := 0) (by decide) (by decide) ?_
      exact v_lret F hw dX10_slip_24
    · rw [if_neg h] at hw
      refine v_iload_n F dX10_slip_14 rfl 2 rfl ?_
      refine v_ldcw (v := 1000000000) F wd_816 dX10_slip_15 ?_
      refine v_icmp_le (tgt := 25) F dX10_slip_18 (by decide) (fun h => ?_) (fun h => ?_)
      · rw [if_pos h] at hw
        refine v_aload_n F dX10_slip_25 rfl 0 rfl ?_
        refine v_iload_n F dX10_slip_26 rfl 1 rfl ?_
        obtain ⟨kd3, hw⟩ := hw
        refine v_calli (r_V F lk_X10_288 kd3 (sX10_weighLines hw) (mkRm hR rfl rfl rfl rfl rfl rfl) rfl rfl (Nat.le_of_ble_eq_true rfl) dX10_slip_27) (fun r4 G5 hw => ?_)
        refine v_if_ne (tgt := 37) F dX10_slip_30 (by decide) (fun h => ?_) (fun h => ?_)
        · rw [if_neg h] at hw
          refine v_aload_n F dX10_slip_37 rfl 0 rfl ?_
          refine v_iconst (v := (-1)) F dX10_slip_38 (by decide) ?_
          refine v_lconst (v := 0) F dX10_slip_39 rfl ?_
          refine v_iload_n F dX10_slip_40 rfl 2 rfl ?_
          obtain ⟨kd6, hw⟩ := hw
          refine v_calll (r_V F lk_X10_297 kd6 (sX10_tryAmount hw) (mkRm hR rfl rfl rfl rfl rfl rfl) rfl rfl (Nat.le_of_ble_eq_true rfl) dX10_slip_41) (fun r7 G8 hw => ?_)
          refine v_lstore_n (L' := [(3, .long r7), (0, .ref a0), (1, .int p1), (2, .int p2)]) F dX10_slip_44 rfl (by decide) rfl ?_
          refine v_lload_n F dX10_slip_45 rfl 0 rfl ?_
          refine v_lconst (v := 1) F dX10_slip_46 rfl ?_
          refine v_lcmp F dX10_slip_47 ?_
          refine v_lif_ne (tgt := 53) F dX10_slip_48 (by decide) (fun h => ?_) (fun h => ?_)
          · rw [if_neg h] at hw
            refine v_lload_n F dX10_slip_53 rfl 0 rfl ?_
            refine v_ldc2 (v := (-9000000000000000004)) F wd_486 dX10_slip_54 ?_
            refine v_lcmp F dX10_slip_57 ?_
            refine v_lif_ne (tgt := 67) F dX10_slip_58 (by decide) (fun h => ?_) (fun h => ?_)
            · rw [if_neg h] at hw
              refine v_aload_n F dX10_slip_67 rfl 1 rfl ?_
              refine v_iload_n F dX10_slip_68 rfl 3 rfl ?_
              obtain ⟨kd9, hw⟩ := hw
              refine v_calll (r_V F lk_X10_301 kd9 (sX10_firstSlip hw) (mkRm hR rfl rfl rfl rfl rfl rfl) rfl rfl (Nat.le_of_ble_eq_true rfl) dX10_slip_69) (fun r10 G11 hw => ?_)
              refine v_widen (c' := 0) (s' := 0) (by decide) (by decide) ?_
              exact v_lret F hw dX10_slip_72
            · rw [if_pos h] at hw
              refine v_ldc2 (v := (-9000000000000000004)) F wd_486 dX10_slip_61 ?_
              refine v_goto (tgt := 72) F dX10_slip_64 (by decide) ?_
              refine v_widen (c' := 0) (s' := 0) (by decide) (by decide) ?_
              exact v_lret F hw dX10_slip_72
          · rw [if_pos h] at hw
            refine v_lconst (v := 0) F dX10_slip_51 rfl ?_
            refine v_widen (c' := 0) (s' := 0) (by decide) (by decide) ?_
            exact v_lret F hw dX10_slip_52
        · rw [if_pos h] at hw
          refine v_ldc2 (v := (-9000000000000000005)) F wd_611 dX10_slip_33 ?_
          refine v_widen (c' := 0) (s' := 0) (by decide) (by decide) ?_
          exact v_lret F hw dX10_slip_36
      · rw [if_neg h] at hw
        refine v_ldc2 (v := (-9000000000000000001)) F wd_337 dX10_slip_21 ?_
        refine v_widen (c' := 0) (s' := 0) (by decide) (by decide) ?_
        exact v_lret F hw dX10_slip_24
set_option maxRecDepth 100000 in
theorem sbX10_droppedOnes_33 {X : Cx} {D : Dx} (hR : X.2.2.2.1 = rmX10_droppedOnes) (F : Fx X D cX10_droppedOnes 4 RX10 (some .int) "droppedOnes") {Q : Int32 → Wd → Prop} {k4 : Nat → Int32 → Int32 → Wd → Prop} (hk4 : ∀ v0 v1 v2 G, k4 v0 v1 v2 G → V X D 4 (ZM X D (QMi D Q) 0 0) G 0 0 4 [(0, .ref v0), (1, .int v1), (2, .int v2)] []) {v0 : Nat} {v1 : Int32} {v2 : Int32} {G : Wd} (hw : wpX10_droppedOnes_33 Q k4 v0 v1 v2 G) : V X D 4 (ZM X D (QMi D Q) 0 0) G 0 0 33 [(0, .ref v0), (1, .int v1), (2, .int v2)] [] := by
  unfold wpX10_droppedOnes_33 at hw
  refine v_iincN (c := 1) F dX10_droppedOnes_33 2 rfl (by decide) (by decide) (fun x1 hx1 => ?_)
  refine v_cast (L' := [(2, .int x1), (0, .ref v0), (1, .int v1)]) rfl rfl ?_
  have hw := hw x1 hx1
  refine v_goto (tgt := 4) F dX10_droppedOnes_36 (by decide) ?_
  exact v_loc [1, 2, 0] rfl (hk4 _ _ _ _ hw)
set_option maxRecDepth 100000 in
theorem sbX10_droppedOnes_4 {X : Cx} {D : Dx} (hR : X.2.2.2.1 = rmX10_droppedOnes) (F : Fx X D cX10_droppedOnes 4 RX10 (some .int) "droppedOnes") {Q : Int32 → Wd → Prop} : ∀ (n : Nat) (v0 : Nat) (v1 : Int32) (v2 : Int32) (G : Wd), wpX10_droppedOnes_4 Q  n v0 v1 v2 G → V X D 4 (ZM X D (QMi D Q) 0 0) G 0 0 4 [(0, .ref v0), (1, .int v1), (2, .int v2)] [] := by
  intro n
  induction n with
  | zero => intro v0 v1 v2 G hw; exact hw.elim
  | succ n ih =>
    intro v0 v1 v2 G hw
    simp only [wpX10_droppedOnes_4] at hw
    refine v_iload_n F dX10_droppedOnes_4 rfl 2 rfl ?_
    refine v_aload_n F dX10_droppedOnes_5 rfl 0 rfl ?_
    obtain ⟨kd2, hw⟩ := hw
    refine v_get F fl_X10_99 kd2 rfl dX10_droppedOnes_6 ?_
    refine v_icmp_ge (tgt := 39) F dX10_droppedOnes_9 (by decide) (fun h => ?_) (fun h => ?_)
    · rw [if_pos h] at hw
      refine v_iload_n F dX10_droppedOnes_39 rfl 1 rfl ?_
      exact v_iret F hw dX10_droppedOnes_40
    · rw [if_neg h] at hw
      refine v_aload_n F dX10_droppedOnes_12 rfl 0 rfl ?_
      obtain ⟨b3, hr4, hw⟩ := hw
      refine v_getS F fl_X10_15 (fun _ => rfl) kd2 hr4 dX10_droppedOnes_13 ?_
      refine v_iload_n F dX10_droppedOnes_16 rfl 2 rfl ?_
      obtain ⟨kd5, hw⟩ := hw
      obtain ⟨hi6, hw⟩ := hw
      refine v_aaldE (t := 5) F rfl rfl kd5 hi6 dX10_droppedOnes_17 (fun r7 hr7 => ?_)
      have hw := hw r7 hr7
      clear hr7
      refine v_qstore_n (L' := [(3, va_rf r7), (0, .ref v0), (1, .int v1), (2, .int v2)]) F dX10_droppedOnes_18 rfl (by decide) rfl ?_
      refine v_qload_n F dX10_droppedOnes_19 rfl 0 rfl ?_
      refine v_ifnull (tgt := 33) F dX10_droppedOnes_20 (by decide) (fun hr => ?_) (fun b8 hr => ?_)
      · subst hr
        dsimp only at hw
        exact v_loc [1, 2, 3] rfl (sbX10_droppedOnes_33 hR F ih hw)
      · subst hr
        dsimp only at hw
        refine v_aload_n F dX10_droppedOnes_23 rfl 0 rfl ?_
        obtain ⟨kd9, hw⟩ := hw
        refine v_get F fl_X10_138 kd9 rfl dX10_droppedOnes_24 ?_
        refine v_if_eq (tgt := 33) F dX10_droppedOnes_27 (by decide) (fun h => ?_) (fun h => ?_)
        · rw [if_pos h] at hw
          exact v_loc [1, 2, 3] rfl (sbX10_droppedOnes_33 hR F ih hw)
        · rw [if_neg h] at hw
          refine v_iincN (c := 1) F dX10_droppedOnes_30 2 rfl (by decide) (by decide) (fun x10 hx10 => ?_)
          refine v_cast (L' := [(1, .int x10), (3, .ref b8), (0, .ref v0), (2, .int v2)]) rfl rfl ?_
          have hw := hw x10 hx10
          exact v_loc [2, 0, 3] rfl (sbX10_droppedOnes_33 hR F ih hw)
set_option maxRecDepth 100000 in
theorem sX10_droppedOnes {l : Launch} {D : Dx} {a0 : Nat} {G : Wd} {Q : Int32 → Wd → Prop} (hw : wpX10_droppedOnes a0 G Q) : Met l yX10_droppedOnes (wM yX10_droppedOnes cX10_droppedOnes 4 (some .int)) rmX10_droppedOnes (PM D [.ref a0] G) (QMi D Q) 0 0 (Ab D) := by
  refine v_met (by decide) (Nat.le_of_ble_eq_true rfl) (fun X hl hR F => ?_)
  subst hl
  have F : Fx X D cX10_droppedOnes 4 RX10 (some .int) "droppedOnes" := F
  refine v_cast (L' := [(0, .ref a0)]) rfl rfl ?_
  unfold wpX10_droppedOnes at hw
  refine v_iconst (v := 0) F dX10_droppedOnes_0 (by decide) ?_
  refine v_istore_n (L' := [(1, .int 0), (0, .ref a0)]) F dX10_droppedOnes_1 rfl (by decide) rfl ?_
  refine v_iconst (v := 0) F dX10_droppedOnes_2 (by decide) ?_
  refine v_istore_n (L' := [(2, .int 0), (1, .int 0), (0, .ref a0)]) F dX10_droppedOnes_3 rfl (by decide) rfl ?_
  obtain ⟨m, hw⟩ := hw
  exact v_loc [2, 1, 0] rfl (sbX10_droppedOnes_4 hR F  m _ _ _ _ hw)
set_option maxRecDepth 100000 in
theorem sbX10_customsThere_30 {X : Cx} {D : Dx} (hR : X.2.2.2.1 = rmX10_customsThere) (F : Fx X D cX10_customsThere 4 RX10 (some .int) "customsThere") {Q : Int32 → Wd → Prop} {k4 : Nat → Int32 → Int32 → Wd → Prop} (hk4 : ∀ v0 v1 v2 G, k4 v0 v1 v2 G → V X D 4 (ZM X D (QMi D Q) 0 0) G 0 0 4 [(0, .ref v0), (1, .int v1), (2, .int v2)] []) {v0 : Nat} {v1 : Int32} {v2 : Int32} {G : Wd} (hw : wpX10_customsThere_30 Q k4 v0 v1 v2 G) : V X D 4 (ZM X D (QMi D Q) 0 0) G 0 0 30 [(0, .ref v0), (1, .int v1), (2, .int v2)] [] := by
  unfold wpX10_customsThere_30 at hw
  refine v_iincN (c := 1) F dX10_customsThere_30 2 rfl (by decide) (by decide) (fun x1 hx1 => ?_)
  refine v_cast (L' := [(2, .int x1), (0, .ref v0), (1, .int v1)]) rfl rfl ?_
  have hw := hw x1 hx1
  refine v_goto (tgt := 4) F dX10_customsThere_33 (by decide) ?_
  exact v_loc [1, 2, 0] rfl (hk4 _ _ _ _ hw)
set_option maxRecDepth 100000 in
theorem sbX10_customsThere_4 {X : Cx} {D : Dx} (hR : X.2.2.2.1 = rmX10_customsThere) (F : Fx X D cX10_customsThere 4 RX10 (some .int) "customsThere") {Q : Int32 → Wd → Prop} : ∀ (n : Nat) (v0 : Nat) (v1 : Int32) (v2 : Int32) (G : Wd), wpX10_customsThere_4 Q  n v0 v1 v2 G → V X D 4 (ZM X D (QMi D Q) 0 0) G 0 0 4 [(0, .ref v0), (1, .int v1), (2, .int v2)] [] := by
  intro n
  induction n with
  | zero => intro v0 v1 v2 G hw; exact hw.elim
  | succ n ih =>
    intro v0 v1 v2 G hw
    simp only [wpX10_customsThere_4] at hw
    refine v_iload_n F dX10_customsThere_4 rfl 2 rfl ?_
    refine v_iconst (v := 4) F dX10_customsThere_5 (by decide) ?_
    refine v_icmp_ge (tgt := 36) F dX10_customsThere_6 (by decide) (fun h => ?_) (fun h => ?_)
    · rw [if_pos h] at hw
      refine v_iload_n F dX10_customsThere_36 rfl 1 rfl ?_
      exact v_iret F hw dX10_customsThere_37
    · rw [if_neg h] at hw
      refine v_aload_n F dX10_customsThere_9 rfl 0 rfl ?_
      obtain ⟨kd2, hw⟩ := hw
      obtain ⟨b3, hr4, hw⟩ := hw
      refine v_getS F fl_X10_21 (fun _ => rfl) kd2 hr4 dX10_customsThere_10 ?_
      refine v_iload_n F dX10_customsThere_13 rfl 2 rfl ?_
      obtain ⟨kd5, hw⟩ := hw
      obtain ⟨hi6, hw⟩ := hw
      obtain ⟨b7, hr8, hw⟩ := hw
      refine v_aaldS (t := 3) F rfl rfl kd5 hi6 hr8 dX10_customsThere_14 ?_
      refine v_astore_n (L' := [(3, .ref b7), (0, .ref v0), (1, .int v1), (2, .int v2)]) F dX10_customsThere_15 rfl (by decide) rfl ?_
      refine v_aload_n F dX10_customsThere_16 rfl 0 rfl ?_
      refine v_ifnull (r := some b7) (tgt := 30) F dX10_customsThere_17 (by decide) (fun h => nomatch h) (fun _ _ => ?_)
      refine v_aload_n F dX10_customsThere_20 rfl 0 rfl ?_
      obtain ⟨kd9, hw⟩ := hw
      refine v_get F fl_X10_242 kd9 rfl dX10_customsThere_21 ?_
      refine v_if_ne (tgt := 30) F dX10_customsThere_24 (by decide) (fun h => ?_) (fun h => ?_)
      · rw [if_neg h] at hw
        exact v_loc [1, 2, 3] rfl (sbX10_customsThere_30 hR F ih hw)
      · rw [if_pos h] at hw
        refine v_iincN (c := 1) F dX10_customsThere_27 2 rfl (by decide) (by decide) (fun x10 hx10 => ?_)
        refine v_cast (L' := [(1, .int x10), (3, .ref b7), (0, .ref v0), (2, .int v2)]) rfl rfl ?_
        have hw := hw x10 hx10
        exact v_loc [2, 0, 3] rfl (sbX10_customsThere_30 hR F ih hw)
set_option maxRecDepth 100000 in
theorem sX10_customsThere {l : Launch} {D : Dx} {a0 : Nat} {G : Wd} {Q : Int32 → Wd → Prop} (hw : wpX10_customsThere a0 G Q) : Met l yX10_customsThere (wM yX10_customsThere cX10_customsThere 4 (some .int)) rmX10_customsThere (PM D [.ref a0] G) (QMi D Q) 0 0 (Ab D) := by
  refine v_met (by decide) (Nat.le_of_ble_eq_true rfl) (fun X hl hR F => ?_)
  subst hl
  have F : Fx X D cX10_customsThere 4 RX10 (some .int) "customsThere" := F
  refine v_cast (L' := [(0, .ref a0)]) rfl rfl ?_
  unfold wpX10_customsThere at hw
  refine v_iconst (v := 0) F dX10_customsThere_0 (by decide) ?_
  refine v_istore_n (L' := [(1, .int 0), (0, .ref a0)]) F dX10_customsThere_1 rfl (by decide) rfl ?_
  refine v_iconst (v := 0) F dX10_customsThere_2 (by decide) ?_
  refine v_istore_n (L' := [(2, .int 0), (1, .int 0), (0, .ref a0)]) F dX10_customsThere_3 rfl (by decide) rfl ?_
  obtain ⟨m, hw⟩ := hw
  exact v_loc [2, 1, 0] rfl (sbX10_customsThere_4 hR F  m _ _ _ _ hw)
set_option maxRecDepth 100000 in
theorem sbX10_measuresNamed_39 {X : Cx} {D : Dx} (hR : X.2.2.2.1 = rmX10_measuresNamed) (F : Fx X D cX10_measuresNamed 4 RX10 (some .int) "measuresNamed") {Q : Int32 → Wd → Prop} {k4 : Nat → Int32 → Int32 → Wd → Prop} (hk4 : ∀ v0 v1 v2 G, k4 v0 v1 v2 G → V X D 4 (ZM X D (QMi D Q) 0 0) G 0 0 4 [(0, .ref v0), (1, .int v1), (2, .int v2)] []) {v0 : Nat} {v1 : Int32} {v2 : Int32} {G : Wd} (hw : wpX10_measuresNamed_39 Q k4 v0 v1 v2 G) : V X D 4 (ZM X D (QMi D Q) 0 0) G 0 0 39 [(0, .ref v0), (1, .int v1), (2, .int v2)] [] := by
  unfold wpX10_measuresNamed_39 at hw
  refine v_iincN (c := 1) F dX10_measuresNamed_39 2 rfl (by decide) (by decide) (fun x1 hx1 => ?_)
  refine v_cast (L' := [(2, .int x1), (0, .ref v0), (1, .int v1)]) rfl rfl ?_
  have hw := hw x1 hx1
  refine v_goto (tgt := 4) F dX10_measuresNamed_42 (by decide) ?_
  exact v_loc [1, 2, 0] rfl (hk4 _ _ _ _ hw)
set_option maxRecDepth 100000 in
theorem sbX10_measuresNamed_4 {X : Cx} {D : Dx} (hR : X.2.2.2.1 = rmX10_measuresNamed) (F : Fx X D cX10_measuresNamed 4 RX10 (some .int) "measuresNamed") {Q : Int32 → Wd → Prop} : ∀ (n : Nat) (v0 : Nat) (v1 : Int32) (v2 : Int32) (G : Wd), wpX10_measuresNamed_4 Q  n v0 v1 v2 G → V X D 4 (ZM X D (QMi D Q) 0 0) G 0 0 4 [(0, .ref v0), (1, .int v1), (2, .int v2)] [] := by
  intro n
  induction n with
  | zero => intro v0 v1 v2 G hw; exact hw.elim
  | succ n ih =>
    intro v0 v1 v2 G hw
    simp only [wpX10_measuresNamed_4] at hw
    refine v_iload_n F dX10_measuresNamed_4 rfl 2 rfl ?_
    refine v_aload_n F dX10_measuresNamed_5 rfl 0 rfl ?_
    obtain ⟨kd2, hw⟩ := hw
    refine v_get F fl_X10_99 kd2 rfl dX10_measuresNamed_6 ?_
    refine v_icmp_ge (tgt := 45) F dX10_measuresNamed_9 (by decide) (fun h => ?_) (fun h => ?_)
    · rw [if_pos h] at hw
      refine v_iload_n F dX10_measuresNamed_45 rfl 1 rfl ?_
      refine v_calli (r_S F ls_X10_339 (sJ6_bitCount_0f7a4 hw) (mkRm hR rfl rfl rfl rfl rfl rfl) rfl rfl (Nat.le_of_ble_eq_true rfl) dX10_measuresNamed_46) (fun r3 G4 hw => ?_)
      refine v_widen (c' := 0) (s' := 0) (by decide) (by decide) ?_
      exact v_iret F hw dX10_measuresNamed_49
    · rw [if_neg h] at hw
      refine v_aload_n F dX10_measuresNamed_12 rfl 0 rfl ?_
      obtain ⟨b5, hr6, hw⟩ := hw
      refine v_getS F fl_X10_15 (fun _ => rfl) kd2 hr6 dX10_measuresNamed_13 ?_
      refine v_iload_n F dX10_measuresNamed_16 rfl 2 rfl ?_
      obtain ⟨kd7, hw⟩ := hw
      obtain ⟨hi8, hw⟩ := hw
      refine v_aaldE (t := 5) F rfl rfl kd7 hi8 dX10_measuresNamed_17 (fun r9 hr9 => ?_)
      have hw := hw r9 hr9
      clear hr9
      refine v_qstore_n (L' := [(3, va_rf r9), (0, .ref v0), (1, .int v1), (2, .int v2)]) F dX10_measuresNamed_18 rfl (by decide) rfl ?_
      refine v_qload_n F dX10_measuresNamed_19 rfl 0 rfl ?_
      refine v_ifnull (tgt := 39) F dX10_measuresNamed_20 (by decide) (fun hr => ?_) (fun b10 hr => ?_)
      · subst hr
        dsimp only at hw
        exact v_loc [1, 2, 3] rfl (sbX10_measuresNamed_39 hR F ih hw)
      · subst hr
        dsimp only at hw
        refine v_iload_n F dX10_measuresNamed_23 rfl 2 rfl ?_
        refine v_iconst (v := 1) F dX10_measuresNamed_24 (by decide) ?_
        refine v_aload_n F dX10_measuresNamed_25 rfl 0 rfl ?_
        obtain ⟨kd11, hw⟩ := hw
        refine v_getG F fl_X10_145 kd11 rfl dX10_measuresNamed_26 ?_
        refine v_ishl F dX10_measuresNamed_29 ?_
        refine v_iconst (v := 1) F dX10_measuresNamed_30 (by decide) ?_
        refine v_aload_n F dX10_measuresNamed_31 rfl 0 rfl ?_
        refine v_getG F fl_X10_148 kd11 rfl dX10_measuresNamed_32 ?_
        refine v_ishl F dX10_measuresNamed_35 ?_
        refine v_ior F dX10_measuresNamed_36 ?_
        refine v_ior F dX10_measuresNamed_37 ?_
        refine v_topi (fun x12 hx12 => ?_)
        have hw := hw x12 hx12
        refine v_istore_n (L' := [(1, .int x12), (3, .ref b10), (0, .ref v0), (2, .int v2)]) F dX10_measuresNamed_38 rfl (by decide) rfl ?_
        exact v_loc [2, 0, 3] rfl (sbX10_measuresNamed_39 hR F ih hw)
set_option maxRecDepth 100000 in
theorem sX10_measuresNamed {l : Launch} {D : Dx} {a0 : Nat} {G : Wd} {Q : Int32 → Wd → Prop} (hw : wpX10_measuresNamed a0 G Q) : Met l yX10_measuresNamed (wM yX10_measuresNamed cX10_measuresNamed 4 (some .int)) rmX10_measuresNamed (PM D [.ref a0] G) (QMi D Q) 0 0 (Ab D) := by
  refine v_met (by decide) (Nat.le_of_ble_eq_true rfl) (fun X hl hR F => ?_)
  subst hl
  have F : Fx X D cX10_measuresNamed 4 RX10 (some .int) "measuresNamed" := F
  refine v_cast (L' := [(0, .ref a0)]) rfl rfl ?_
  unfold wpX10_measuresNamed at hw
  refine v_iconst (v := 0) F dX10_measuresNamed_0 (by decide) ?_
  refine v_istore_n (L' := [(1, .int 0), (0, .ref a0)]) F dX10_measuresNamed_1 rfl (by decide) rfl ?_
  refine v_iconst (v := 0) F dX10_measuresNamed_2 (by decide) ?_
  refine v_istore_n (L' := [(2, .int 0), (1, .int 0), (0, .ref a0)]) F dX10_measuresNamed_3 rfl (by decide) rfl ?_
  obtain ⟨m, hw⟩ := hw
  exact v_loc [2, 1, 0] rfl (sbX10_measuresNamed_4 hR F  m _ _ _ _ hw)
set_option maxRecDepth 100000 in
theorem sX10_count {l : Launch} {D : Dx} {a0 : Nat} {p1 : Int32} {G : Wd} {Q : Int64 → Wd → Prop} (hw : wpX10_count a0 p1 G Q) : Met l yX10_count (wM yX10_count cX10_count 2 (some .long)) rmX10_count (PM D [.ref a0, .int p1] G) (QMl D Q) 0 0 (Ab D) := by
  refine v_met (by decide) (Nat.le_of_ble_eq_true rfl) (fun X hl hR F => ?_)
  subst hl
  have F : Fx X D cX10_count 2 RX10 (some .long) "count" := F
  refine v_cast (L' := [(0, .ref a0), (1, .int p1)]) rfl rfl ?_
  unfold wpX10_count at hw
  refine v_iload_n F dX10_count_0 rfl 1 rfl ?_
  by_cases hc0 : p1 = 0
  · rw [if_pos hc0] at hw
    refine v_tableInE (c := 0) (tgt := 36) F hc0 dX10_count_1 (by decide) (by decide) rfl (by decide) ?_
    refine v_aload_n F dX10_count_36 rfl 0 rfl ?_
    obtain ⟨kd1, hw⟩ := hw
    refine v_get F fl_X10_99 kd1 rfl dX10_count_37 ?_
    refine v_i2l F dX10_count_40 ?_
    exact v_lret F hw dX10_count_41
  rw [if_neg hc0] at hw
  by_cases hc1 : p1 = 1
  · rw [if_pos hc1] at hw
    refine v_tableInE (c := 1) (tgt := 42) F hc1 dX10_count_1 (by decide) (by decide) rfl (by decide) ?_
    refine v_aload_n F dX10_count_42 rfl 0 rfl ?_
    obtain ⟨kd2, hw⟩ := hw
    refine v_calli (r_V F lk_X10_304 kd2 (sX10_droppedOnes hw) (mkRm hR rfl rfl rfl rfl rfl rfl) rfl rfl (Nat.le_of_ble_eq_true rfl) dX10_count_43) (fun r3 G4 hw => ?_)
    refine v_i2l F dX10_count_46 ?_
    refine v_widen (c' := 0) (s' := 0) (by decide) (by decide) ?_
    exact v_lret F hw dX10_count_47
  rw [if_neg hc1] at hw
  by_cases hc2 : p1 = 2
  · rw [if_pos hc2] at hw
    refine v_tableInE (c := 2) (tgt := 48) F hc2 dX10_count_1 (by decide) (by decide) rfl (by decide) ?_
    refine v_aload_n F dX10_count_48 rfl 0 rfl ?_
    obtain ⟨kd5, hw⟩ := hw
    refine v_calli (r_V F lk_X10_308 kd5 (sX10_customsThere hw) (mkRm hR rfl rfl rfl rfl rfl rfl) rfl rfl (Nat.le_of_ble_eq_true rfl) dX10_count_49) (fun r6 G7 hw => ?_)
    refine v_i2l F dX10_count_52 ?_
    refine v_widen (c' := 0) (s' := 0) (by decide) (by decide) ?_
    exact v_lret F hw dX10_count_53
  rw [if_neg hc2] at hw
  by_cases hc3 : p1 = 3
  · rw [if_pos hc3] at hw
    refine v_tableInE (c := 3) (tgt := 54) F hc3 dX10_count_1 (by decide) (by decide) rfl (by decide) ?_
    refine v_aload_n F dX10_count_54 rfl 0 rfl ?_
    obtain ⟨kd8, hw⟩ := hw
    refine v_get F fl_X10_275 kd8 rfl dX10_count_55 ?_
    refine v_i2l F dX10_count_58 ?_
    exact v_lret F hw dX10_count_59
  rw [if_neg hc3] at hw
  by_cases hc4 : p1 = 4
  · rw [if_pos hc4] at hw
    refine v_tableInE (c := 4) (tgt := 60) F hc4 dX10_count_1 (by decide) (by decide) rfl (by decide) ?_
    refine v_aload_n F dX10_count_60 rfl 0 rfl ?_
    obtain ⟨kd9, hw⟩ := hw
    refine v_calli (r_V F lk_X10_311 kd9 (sX10_measuresNamed hw) (mkRm hR rfl rfl rfl rfl rfl rfl) rfl rfl (Nat.le_of_ble_eq_true rfl) dX10_count_61) (fun r10 G11 hw => ?_)
    refine v_i2l F dX10_count_64 ?_
    refine v_widen (c' := 0) (s' := 0) (by decide) (by decide) ?_
    exact v_lret F hw dX10_count_65
  rw [if_neg hc4] at hw
  refine v_tableOut (tgt := 66) F dX10_count_1 (sw_out 5 (by decide) (fun k hk => ?_)) (by decide) ?_
  · match k, hk with
    | 0, _ => exact hc0
    | 1, _ => exact hc1
    | 2, _ => exact hc2
    | 3, _ => exact hc3
    | 4, _ => exact hc4
    | k + 5, hk => exact absurd hk (by omega)
  · refine v_ldc2 (v := (-9000000000000000001)) F wd_337 dX10_count_66 ?_
    exact v_lret F hw dX10_count_69
