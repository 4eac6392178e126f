set_option maxRecDepth 100000 in
def wpX11_step (a0 : Nat) (p1 : Int32) (p2 : Int32) (p3 : Int32) (G : Wd) (Q : Int64 → Wd → Prop) : Prop := wpX11_isCustom p1 G (fun r1 G2 => if r1 = 0 then (Q (-9000000000000000001) G2) else (gK G2 a0 = 11 ∧ ∃ b4, gR G2 a0 13 = some b4 ∧ gK G2 b4 = 20 ∧ vp_in p1 (gN G2 b4) ∧ if 0 ≤ (gI G2 b4 (p1).toNatClampNeg) then (∃ b8, gR G2 a0 13 = some b8 ∧ gK G2 b8 = 20 ∧ vp_in p1 (gN G2 b8) ∧ wpX11_isIn ((p2).toInt64) 0 ((((gI G2 b8 (p1).toNatClampNeg) - 1)).toInt64) G2 (fun r12 G13 => if r12 = 0 then (Q (-9000000000000000013) G13) else (wpX11_isIn ((p3).toInt64) 2 1000 G13 (fun r14 G15 => if r14 = 0 then (Q (-9000000000000000001) G15) else (gK G15 a0 = 11 ∧ ∃ b17, gR G15 a0 14 = some b17 ∧ gK G15 b17 = 20 ∧ vp_in ((5 * p1) + p2) (gN G15 b17) ∧ ∀ x21 : Int64, x21 = (gI G15 b17 (((5 * p1) + p2)).toNatClampNeg).toInt64 → ∃ b22, gR G15 a0 14 = some b22 ∧ gK G15 b22 = 20 ∧ vp_in ((5 * p1) + p2) (gN G15 b22) ∧ ∀ G26 : Wd, G26 = uI G15 b22 (((5 * p1) + p2)).toNatClampNeg p3 → Q x21 G26))))) else (Q (-9000000000000000011) G2)))
abbrev rmX11_step : Room := { frames := 2, cells := 0, slots := 0, locals := 45 }
def wpX11_copy_71 (Q : Int64 → Wd → Prop) : Nat → Nat → Int32 → Int32 → Int32 → Int32 → Wd → Prop
  | 0, _, _, _, _, _, _ => False
  | n + 1, v0, v1, v2, v3, v4, G => if v3 ≤ v4 then (Q ((v3).toInt64) G) else (gK G v0 = 11 ∧ ∃ b2, gR G v0 14 = some b2 ∧ ∃ b4, gR G v0 14 = some b4 ∧ gK G b4 = 20 ∧ vp_in ((5 * v1) + v4) (gN G b4) ∧ gK G b2 = 20 ∧ vp_in ((5 * v2) + v4) (gN G b2) ∧ ∀ G10 : Wd, G10 = uI G b2 (((5 * v2) + v4)).toNatClampNeg (gI G b4 (((5 * v1) + v4)).toNatClampNeg) → ∀ x11 : Int32, x11 = v4 + 1 → wpX11_copy_71 Q n v0 v1 v2 v3 x11 G10)
set_option maxRecDepth 100000 in
def wpX11_copy (a0 : Nat) (p1 : Int32) (p2 : Int32) (p3 : Int32) (G : Wd) (Q : Int64 → Wd → Prop) : Prop := wpX11_isCustom p1 G (fun r12 G13 => if r12 = 0 then (Q (-9000000000000000001) G13) else (wpX11_isCustom p2 G13 (fun r14 G15 => if r14 = 0 then (Q (-9000000000000000001) G15) else (gK G15 a0 = 11 ∧ ∃ b17, gR G15 a0 13 = some b17 ∧ gK G15 b17 = 20 ∧ vp_in p1 (gN G15 b17) ∧ if (gI G15 b17 (p1).toNatClampNeg) < 0 then (Q (-9000000000000000011) G15) else (∃ b21, gR G15 a0 13 = some b21 ∧ gK G15 b21 = 20 ∧ vp_in p2 (gN G15 b21) ∧ if 0 ≤ (gI G15 b21 (p2).toNatClampNeg) then (if p3 < 0 then (Q (-9000000000000000013) G15) else (∃ b25, gR G15 a0 13 = some b25 ∧ gK G15 b25 = 20 ∧ vp_in p1 (gN G15 b25) ∧ if (gI G15 b25 (p1).toNatClampNeg) < p3 then (Q (-9000000000000000013) G15) else (∃ b29, gR G15 a0 13 = some b29 ∧ gK G15 b29 = 20 ∧ vp_in p2 (gN G15 b29) ∧ if p3 ≤ (gI G15 b29 (p2).toNatClampNeg) then (∃ m, wpX11_copy_71 Q m a0 p1 p2 p3 0 G15) else (Q (-9000000000000000013) G15)))) else (Q (-9000000000000000011) G15))))))
abbrev rmX11_copy : Room := { frames := 2, cells := 0, slots := 0, locals := 45 }
def wpX11_part_139 (Q : Int64 → Wd → Prop) (v2 : Int64) (s0 : Int64) (G : Wd) : Prop := if v2 < 0 then (Q (-s0) G) else (Q s0 G)
def wpX11_part_80 (Q : Int64 → Wd → Prop) : Nat → Nat → Int32 → Int64 → Int32 → Int64 → Int32 → Wd → Prop
  | 0, _, _, _, _, _, _, _ => False
  | n + 1, v0, v1, v2, v4, v5, v7, G => if v7 ≤ v4 then (if v4 ≤ 0 then (wpX11_part_139 Q v2 v5 G) else (gK G v0 = 11 ∧ ∃ b2, gR G v0 14 = some b2 ∧ gK G b2 = 20 ∧ vp_in (((5 * v1) + v4) - 1) (gN G b2) ∧ ¬ ((gI G b2 ((((5 * v1) + v4) - 1)).toNatClampNeg).toInt64) = 0 ∧ wpX11_part_139 Q v2 (v5 % ((gI G b2 ((((5 * v1) + v4) - 1)).toNatClampNeg).toInt64)) G)) else (gK G v0 = 11 ∧ ∃ b8, gR G v0 14 = some b8 ∧ gK G b8 = 20 ∧ vp_in (((5 * v1) + v7) - 1) (gN G b8) ∧ ¬ ((gI G b8 ((((5 * v1) + v7) - 1)).toNatClampNeg).toInt64) = 0 ∧ ∀ x13 : Int64, x13 = (v5 / ((gI G b8 ((((5 * v1) + v7) - 1)).toNatClampNeg).toInt64)) → ∀ x14 : Int32, x14 = v7 + (-1) → wpX11_part_80 Q n v0 v1 v2 v4 x13 x14 G)
def wpX11_part_70 (Q : Int64 → Wd → Prop) (v0 : Nat) (v1 : Int32) (v2 : Int64) (v4 : Int32) (s0 : Int64) (G : Wd) : Prop := gK G v0 = 11 ∧ ∃ b16, gR G v0 13 = some b16 ∧ gK G b16 = 20 ∧ vp_in v1 (gN G b16) ∧ ∀ x20 : Int32, x20 = gI G b16 (v1).toNatClampNeg → ∃ m, wpX11_part_80 Q m v0 v1 v2 v4 s0 x20 G
set_option maxRecDepth 100000 in
def wpX11_part (a0 : Nat) (p1 : Int32) (p2 : Int64) (p4 : Int32) (G : Wd) (Q : Int64 → Wd → Prop) : Prop := wpX11_isCustom p1 G (fun r21 G22 => if r21 = 0 then (Q (-9000000000000000001) G22) else (wpX11_isIn p2 (-1000000000000000) 1000000000000000 G22 (fun r23 G24 => if r23 = 0 then (Q (-9000000000000000001) G24) else (gK G24 a0 = 11 ∧ ∃ b26, gR G24 a0 13 = some b26 ∧ gK G24 b26 = 20 ∧ vp_in p1 (gN G24 b26) ∧ if 0 ≤ (gI G24 b26 (p1).toNatClampNeg) then (∃ b30, gR G24 a0 13 = some b30 ∧ gK G24 b30 = 20 ∧ vp_in p1 (gN G24 b30) ∧ wpX11_isIn ((p4).toInt64) 0 ((gI G24 b30 (p1).toNatClampNeg).toInt64) G24 (fun r34 G35 => if r34 = 0 then (Q (-9000000000000000013) G35) else (if p2 < 0 then (wpX11_part_70 Q a0 p1 p2 p4 (-p2) G35) else (wpX11_part_70 Q a0 p1 p2 p4 p2 G35)))) else (Q (-9000000000000000011) G24)))))
abbrev rmX11_part : Room := { frames := 2, cells := 0, slots := 0, locals := 45 }
def wpX11_whole_107 (Q : Int64 → Wd → Prop) (k55 : Nat → Int32 → Int64 → Int64 → Int64 → Int32 → Wd → Prop) (v0 : Nat) (v1 : Int32) (v4 : Int64) (v8 : Int64) (v10 : Int32) (s0 : Int64) (s1 : Int64) (G : Wd) : Prop := ∀ x1 : Int64, x1 = (s0 * s1) → ∀ x2 : Int32, x2 = v10 + (-1) → k55 v0 v1 v4 x1 v8 x2 G
def wpX11_whole_55 (Q : Int64 → Wd → Prop) : Nat → Nat → Int32 → Int64 → Int64 → Int64 → Int32 → Wd → Prop
  | 0, _, _, _, _, _, _, _ => False
  | n + 1, v0, v1, v4, v6, v8, v10, G => if v10 < 0 then (Q v8 G) else (∀ x3 : Int64, x3 = (v8 + ((v4 % 1000) * v6)) → ∀ x4 : Int64, x4 = (v4 / 1000) → if v10 ≤ 0 then (wpX11_whole_107 Q (fun y0 y1 y2 y3 y4 y5 y6 => wpX11_whole_55 Q n y0 y1 y2 y3 y4 y5 y6) v0 v1 x4 x3 v10 v6 1 G) else (gK G v0 = 11 ∧ ∃ b6, gR G v0 14 = some b6 ∧ gK G b6 = 20 ∧ vp_in (((5 * v1) + v10) - 1) (gN G b6) ∧ wpX11_whole_107 Q (fun y0 y1 y2 y3 y4 y5 y6 => wpX11_whole_55 Q n y0 y1 y2 y3 y4 y5 y6) v0 v1 x4 x3 v10 v6 ((gI G b6 ((((5 * v1) + v10) - 1)).toNatClampNeg).toInt64) G))
set_option maxRecDepth 100000 in
def wpX11_whole (a0 : Nat) (p1 : Int32) (p2 : Int64) (G : Wd) (Q : Int64 → Wd → Prop) : Prop := wpX11_isCustom p1 G (fun r10 G11 => if r10 = 0 then (Q (-9000000000000000001) G11) else (if p2 < 0 then (Q (-9000000000000000001) G11) else (if p2 < 1000000000000000000 then (gK G11 a0 = 11 ∧ ∃ b13, gR G11 a0 13 = some b13 ∧ gK G11 b13 = 20 ∧ vp_in p1 (gN G11 b13) ∧ if 0 ≤ (gI G11 b13 (p1).toNatClampNeg) then (∃ b17, gR G11 a0 13 = some b17 ∧ gK G11 b17 = 20 ∧ vp_in p1 (gN G11 b17) ∧ ∀ x21 : Int32, x21 = gI G11 b17 (p1).toNatClampNeg → ∃ m, wpX11_whole_55 Q m a0 p1 p2 1 0 x21 G11) else (Q (-9000000000000000011) G11)) else (Q (-9000000000000000001) G11))))
abbrev rmX11_whole : Room := { frames := 2, cells := 0, slots := 0, locals := 45 }
set_option maxRecDepth 100000 in
def wpX11_line (a0 : Nat) (p1 : Int32) (p2 : Int32) (p3 : Int32) (p4 : Int32) (G : Wd) (Q : Int64 → Wd → Prop) : Prop := wpX11_isIn ((p1).toInt64) (-1000000) 1000000 G (fun r1 G2 => if r1 = 0 then (Q (-9000000000000000001) G2) else (wpX11_isIn ((p2).toInt64) 0 9 G2 (fun r3 G4 => if r3 = 0 then (Q (-9000000000000000001) G4) else (wpX11_isPlace p3 G4 (fun r5 G6 => if r5 = 0 then (Q (-9000000000000000001) G6) else (wpX11_isDay p4 G6 (fun r7 G8 => if r7 = 0 then (Q (-9000000000000000001) G8) else (gK G8 a0 = 11 ∧ if (gI G8 a0 15) = 20 then (Q (-9000000000000000003) G8) else (∃ b10, gR G8 a0 16 = some b10 ∧ gK G8 b10 = 20 ∧ vp_in (gI G8 a0 15) (gN G8 b10) ∧ ∀ G14 : Wd, G14 = uI G8 b10 (gI G8 a0 15).toNatClampNeg p1 → ∃ b16, gR G14 a0 17 = some b16 ∧ gK G14 b16 = 20 ∧ vp_in (gI G14 a0 15) (gN G14 b16) ∧ ∀ G20 : Wd, G20 = uI G14 b16 (gI G14 a0 15).toNatClampNeg p2 → ∃ b22, gR G20 a0 18 = some b22 ∧ gK G20 b22 = 20 ∧ vp_in (gI G20 a0 15) (gN G20 b22) ∧ ∀ G26 : Wd, G26 = uI G20 b22 (gI G20 a0 15).toNatClampNeg p3 → ∃ b28, gR G26 a0 19 = some b28 ∧ gK G26 b28 = 20 ∧ vp_in (gI G26 a0 15) (gN G26 b28) ∧ ∀ G32 : Wd, G32 = uI G26 b28 (gI G26 a0 15).toNatClampNeg p4 → ∀ G34 : Wd, G34 = uI G32 a0 15 ((gI G32 a0 15) + 1) → Q ((((gI G34 a0 15) - 1)).toInt64) G34)))))))))
abbrev rmX11_line : Room := { frames := 2, cells := 0, slots := 0, locals := 45 }
set_option maxRecDepth 100000 in
def wpX11_amend (a0 : Nat) (p1 : Int32) (p2 : Int32) (G : Wd) (Q : Int64 → Wd → Prop) : Prop := gK G a0 = 11 ∧ wpX11_isIn ((p1).toInt64) 0 ((((gI G a0 15) - 1)).toInt64) G (fun r2 G3 => if r2 = 0 then (Q (-9000000000000000001) G3) else (wpX11_isIn ((p2).toInt64) (-1000000) 1000000 G3 (fun r4 G5 => if r4 = 0 then (Q (-9000000000000000001) G5) else (gK G5 a0 = 11 ∧ ∃ b7, gR G5 a0 16 = some b7 ∧ gK G5 b7 = 20 ∧ vp_in p1 (gN G5 b7) ∧ ∀ x11 : Int64, x11 = (gI G5 b7 (p1).toNatClampNeg).toInt64 → ∃ b12, gR G5 a0 16 = some b12 ∧ gK G5 b12 = 20 ∧ vp_in p1 (gN G5 b12) ∧ ∀ G16 : Wd, G16 = uI G5 b12 (p1).toNatClampNeg p2 → Q x11 G16))))
abbrev rmX11_amend : Room := { frames := 1, cells := 0, slots := 0, locals := 25 }
set_option maxRecDepth 100000 in
def wpX11_clear (a0 : Nat) (G : Wd) (Q : Int64 → Wd → Prop) : Prop := gK G a0 = 11 ∧ ∀ x2 : Int64, x2 = (gI G a0 15).toInt64 → ∀ G3 : Wd, G3 = uI G a0 15 0 → Q x2 G3
abbrev rmX11_clear : Room := { frames := 0, cells := 0, slots := 0, locals := 0 }
def wpX11_findEnds_68 (Q : Int64 → Wd → Prop) (k4 : Nat → Int32 → Int32 → Int32 → Wd → Prop) (v0 : Nat) (v1 : Int32) (v3 : Int32) (s0 : Int32) (G : Wd) : Prop := gK G v0 = 11 ∧ ∃ b2, gR G v0 45 = some b2 ∧ gK G b2 = 21 ∧ vp_in (4 * v3) (gN G b2) ∧ ∀ G6 : Wd, G6 = uJ G b2 ((4 * v3)).toNatClampNeg (gJ G v0 37) → ∃ b8, gR G6 v0 45 = some b8 ∧ gK G6 b8 = 21 ∧ vp_in ((4 * v3) + 1) (gN G6 b8) ∧ ∀ G12 : Wd, G12 = uJ G6 b8 (((4 * v3) + 1)).toNatClampNeg (gJ G6 v0 38) → ∃ b14, gR G12 v0 45 = some b14 ∧ gK G12 b14 = 21 ∧ vp_in ((4 * v3) + 2) (gN G12 b14) ∧ ∀ G18 : Wd, G18 = uJ G12 b14 (((4 * v3) + 2)).toNatClampNeg (gJ G12 v0 39) → ∃ b20, gR G18 v0 45 = some b20 ∧ gK G18 b20 = 21 ∧ vp_in ((4 * v3) + 3) (gN G18 b20) ∧ ∀ G24 : Wd, G24 = uJ G18 b20 (((4 * v3) + 3)).toNatClampNeg (gJ G18 v0 40) → ∀ x25 : Int32, x25 = v3 + 1 → k4 v0 v1 s0 x25 G24
def wpX11_findEnds_63 (Q : Int64 → Wd → Prop) (k4 : Nat → Int32 → Int32 → Int32 → Wd → Prop) (v0 : Nat) (v1 : Int32) (v3 : Int32) (G : Wd) : Prop := wpX11_findEnds_68 Q k4 v0 v1 v3 1 G
def wpX11_findEnds_4 (Q : Int64 → Wd → Prop) : Nat → Nat → Int32 → Int32 → Int32 → Wd → Prop
  | 0, _, _, _, _, _ => False
  | n + 1, v0, v1, v2, v3, G => gK G v0 = 11 ∧ if (gI G v0 15) ≤ v3 then (if v2 = 0 then (Q 0 G) else (Q (-9000000000000000004) G)) else (∃ b27, gR G v0 17 = some b27 ∧ gK G b27 = 20 ∧ vp_in v3 (gN G b27) ∧ ∃ b31, gR G v0 18 = some b31 ∧ gK G b31 = 20 ∧ vp_in v3 (gN G b31) ∧ ∃ b35, gR G v0 19 = some b35 ∧ gK G b35 = 20 ∧ vp_in v3 (gN G b35) ∧ wpX11_theWay v0 (gI G b27 (v3).toNatClampNeg) v1 (gI G b31 (v3).toNatClampNeg) (gI G b35 (v3).toNatClampNeg) G (fun r39 G40 => if r39 = (-9000000000000000005) then (Q (-9000000000000000005) G40) else (if v2 = 0 then (if r39 = (-9000000000000000004) then (wpX11_findEnds_63 Q (fun y0 y1 y2 y3 y4 => wpX11_findEnds_4 Q n y0 y1 y2 y3 y4) v0 v1 v3 G40) else (wpX11_findEnds_68 Q (fun y0 y1 y2 y3 y4 => wpX11_findEnds_4 Q n y0 y1 y2 y3 y4) v0 v1 v3 0 G40)) else (wpX11_findEnds_63 Q (fun y0 y1 y2 y3 y4 => wpX11_findEnds_4 Q n y0 y1 y2 y3 y4) v0 v1 v3 G40))))
set_option maxRecDepth 100000 in
def wpX11_findEnds (a0 : Nat) (p1 : Int32) (G : Wd) (Q : Int64 → Wd → Prop) : Prop := ∃ m, wpX11_findEnds_4 Q m a0 p1 0 0 G
abbrev rmX11_findEnds : Room := { frames := 20, cells := 0, slots := 0, locals := 503 }
def wpX11_totalOf_150 (Q : Wd → Prop) (v0 : Nat) (v4 : Int64) (v6 : Int64) (G : Wd) : Prop := gK G v0 = 11 ∧ ∀ G2 : Wd, G2 = uJ G v0 20 v4 → ∀ G4 : Wd, G4 = uJ G2 v0 21 v6 → Q G4
def wpX11_totalOf_132 (Q : Wd → Prop) (k9 : Nat → Int32 → Int32 → Int32 → Int64 → Int64 → Int32 → Wd → Prop) (v0 : Nat) (v1 : Int32) (v2 : Int32) (v3 : Int32) (v8 : Int32) (G : Wd) : Prop := gK G v0 = 11 ∧ ∀ x6 : Int64, x6 = gJ G v0 20 → ∀ x7 : Int64, x7 = gJ G v0 21 → ∀ x8 : Int32, x8 = v8 + 1 → k9 v0 v1 v2 v3 x6 x7 x8 G
def wpX11_totalOf_61 (Q : Wd → Prop) (k9 : Nat → Int32 → Int32 → Int32 → Int64 → Int64 → Int32 → Wd → Prop) (v0 : Nat) (v1 : Int32) (v2 : Int32) (v3 : Int32) (v4 : Int64) (v6 : Int64) (v8 : Int32) (v9 : Int32) (s0 : Int32) (s1 : Int32) (s2 : Int32) (G : Wd) : Prop := ∀ x9 : Int32, x9 = (s0 + (s1 * s2)) → gK G v0 = 11 ∧ ∃ b11, gR G v0 45 = some b11 ∧ gK G b11 = 21 ∧ vp_in x9 (gN G b11) ∧ ∃ b15, gR G v0 45 = some b15 ∧ gK G b15 = 21 ∧ vp_in (x9 + 1) (gN G b15) ∧ wpX11_set v0 (gJ G b11 (x9).toNatClampNeg) (gJ G b15 ((x9 + 1)).toNatClampNeg) G (fun G20 => gK G20 v0 = 11 ∧ wpX11_times v0 ((v9).toInt64) 1 G20 (fun G23 => gK G23 v0 = 11 ∧ ∀ x25 : Int64, x25 = gJ G23 v0 20 → ∀ x26 : Int64, x26 = gJ G23 v0 21 → ∀ G27 : Wd, G27 = uJ G23 v0 20 v4 → ∀ G29 : Wd, G29 = uJ G27 v0 21 v6 → if (gI G29 v0 22) = 0 then (wpX11_plus v0 x25 x26 G29 (fun G32 => wpX11_totalOf_132 Q k9 v0 v1 v2 v3 v8 G32)) else (wpX11_totalOf_132 Q k9 v0 v1 v2 v3 v8 G29)))
def wpX11_totalOf_42 (Q : Wd → Prop) (k9 : Nat → Int32 → Int32 → Int32 → Int64 → Int64 → Int32 → Wd → Prop) (v0 : Nat) (v1 : Int32) (v2 : Int32) (v3 : Int32) (v4 : Int64) (v6 : Int64) (v8 : Int32) (s0 : Int32) (G : Wd) : Prop := if 0 ≤ s0 then (wpX11_totalOf_61 Q k9 v0 v1 v2 v3 v4 v6 v8 s0 (4 * v8) 2 v1 G) else (wpX11_totalOf_61 Q k9 v0 v1 v2 v3 v4 v6 v8 s0 (4 * v8) 2 (1 - v1) G)
def wpX11_totalOf_9 (Q : Wd → Prop) : Nat → Nat → Int32 → Int32 → Int32 → Int64 → Int64 → Int32 → Wd → Prop
  | 0, _, _, _, _, _, _, _, _ => False
  | n + 1, v0, v1, v2, v3, v4, v6, v8, G => gK G v0 = 11 ∧ if (gI G v0 15) ≤ v8 then (wpX11_totalOf_150 Q v0 v4 v6 G) else (if (gI G v0 22) = 0 then (if v8 = v2 then (wpX11_totalOf_42 Q (fun y0 y1 y2 y3 y4 y5 y6 y7 => wpX11_totalOf_9 Q n y0 y1 y2 y3 y4 y5 y6 y7) v0 v1 v2 v3 v4 v6 v8 v3 G) else (∃ b34, gR G v0 16 = some b34 ∧ gK G b34 = 20 ∧ vp_in v8 (gN G b34) ∧ wpX11_totalOf_42 Q (fun y0 y1 y2 y3 y4 y5 y6 y7 => wpX11_totalOf_9 Q n y0 y1 y2 y3 y4 y5 y6 y7) v0 v1 v2 v3 v4 v6 v8 (gI G b34 (v8).toNatClampNeg) G)) else (wpX11_totalOf_150 Q v0 v4 v6 G))
set_option maxRecDepth 100000 in
def wpX11_totalOf (a0 : Nat) (p1 : Int32) (p2 : Int32) (p3 : Int32) (G : Wd) (Q : Wd → Prop) : Prop := ∃ m, wpX11_totalOf_9 Q m a0 p1 p2 p3 0 1 0 G
abbrev rmX11_totalOf : Room := { frames := 2, cells := 0, slots := 0, locals := 78 }
def wpX11_bothEnds_42 (Q : Int64 → Wd → Prop) (v0 : Nat) (G : Wd) : Prop := gK G v0 = 11 ∧ ∀ G2 : Wd, G2 = uJ G v0 39 (gJ G v0 20) → ∀ G4 : Wd, G4 = uJ G2 v0 40 (gJ G2 v0 21) → if (gI G4 v0 22) = 0 then (Q 0 G4) else (Q (-9000000000000000004) G4)
set_option maxRecDepth 100000 in
def wpX11_bothEnds (a0 : Nat) (p1 : Int32) (p2 : Int32) (G : Wd) (Q : Int64 → Wd → Prop) : Prop := gK G a0 = 11 ∧ ∀ G7 : Wd, G7 = uI G a0 22 0 → wpX11_totalOf a0 0 p1 p2 G7 (fun G10 => gK G10 a0 = 11 ∧ ∀ G12 : Wd, G12 = uJ G10 a0 37 (gJ G10 a0 20) → ∀ G14 : Wd, G14 = uJ G12 a0 38 (gJ G12 a0 21) → if (gI G14 a0 22) = 0 then (wpX11_totalOf a0 1 p1 p2 G14 (fun G17 => wpX11_bothEnds_42 Q a0 G17)) else (wpX11_bothEnds_42 Q a0 G14))
abbrev rmX11_bothEnds : Room := { frames := 3, cells := 0, slots := 0, locals := 112 }
set_option maxRecDepth 100000 in
def wpX11_total (a0 : Nat) (p1 : Int32) (p2 : Int32) (p3 : Int32) (G : Wd) (Q : Int64 → Wd → Prop) : Prop := wpX11_isIn ((p1).toInt64) 0 9 G (fun r1 G2 => if r1 = 0 then (Q (-9000000000000000001) G2) else (wpX11_isEnd p2 p3 G2 (fun r3 G4 => if r3 = 0 then (Q (-9000000000000000001) G4) else (gK G4 a0 = 11 ∧ wpX11_findEnds a0 p1 G4 (fun r6 G7 => if r6 = 0 then (gK G7 a0 = 11 ∧ wpX11_bothEnds a0 (-1) 0 G7 (fun r9 G10 => if r9 = 0 then (gK G10 a0 = 11 ∧ wpX11_endTold a0 p2 p3 G10 (fun r12 G13 => Q r12 G13)) else (Q r9 G10))) else (Q r6 G7))))))
abbrev rmX11_total : Room := { frames := 21, cells := 0, slots := 0, locals := 528 }
set_option maxRecDepth 100000 in
def wpX11_isRight (a0 : Nat) (p1 : Int32) (G : Wd) (Q : Int32 → Wd → Prop) : Prop := gK G a0 = 11 ∧ wpX11_isLess a0 ((p1).toInt64) 1 (gJ G a0 37) (gJ G a0 38) G (fun r2 G3 => if r2 = 0 then (gK G3 a0 = 11 ∧ wpX11_isLess a0 (gJ G3 a0 39) (gJ G3 a0 40) ((p1).toInt64) 1 G3 (fun r5 G6 => if r5 = 0 then (Q 1 G6) else (Q 0 G6))) else (Q 0 G3))
abbrev rmX11_isRight : Room := { frames := 2, cells := 0, slots := 0, locals := 71 }
def wpX11_slip_242 (Q : Int64 → Wd → Prop) (k72 : Nat → Int32 → Int32 → Wd → Prop) (k81 : Nat → Int32 → Int32 → Int32 → Wd → Prop) (k98 : Nat → Int32 → Int32 → Int32 → Int32 → Wd → Prop) (v0 : Nat) (v2 : Int32) (v5 : Int32) (v6 : Int32) (v7 : Int32) (G : Wd) : Prop := ∀ x1 : Int32, x1 = v7 + 1 → k98 v0 v2 v5 v6 x1 G
def wpX11_slip_210 (Q : Int64 → Wd → Prop) (k72 : Nat → Int32 → Int32 → Wd → Prop) (k81 : Nat → Int32 → Int32 → Int32 → Wd → Prop) (k98 : Nat → Int32 → Int32 → Int32 → Int32 → Wd → Prop) (v0 : Nat) (v2 : Int32) (v5 : Int32) (v6 : Int32) (v7 : Int32) (s0 : Nat) (s1 : Int32) (s2 : Int32) (G : Wd) : Prop := gK G s0 = 11 ∧ wpX11_bothEnds s0 s1 s2 G (fun r3 G4 => if r3 = 0 then (gK G4 v0 = 11 ∧ wpX11_isRight v0 v2 G4 (fun r6 G7 => if r6 = 0 then (wpX11_slip_242 Q k72 k81 k98 v0 v2 v5 v6 v7 G7) else (Q ((10 * ((v6).toInt64)) + ((v7).toInt64)) G7))) else (Q (-9000000000000000004) G4))
def wpX11_slip_152 (Q : Int64 → Wd → Prop) (k72 : Nat → Int32 → Int32 → Wd → Prop) (k81 : Nat → Int32 → Int32 → Int32 → Wd → Prop) (k98 : Nat → Int32 → Int32 → Int32 → Int32 → Wd → Prop) (v0 : Nat) (v2 : Int32) (v5 : Int32) (v6 : Int32) (v7 : Int32) (v8 : Int32) (s0 : Int32) (G : Wd) : Prop := if s0 = 0 then (wpX11_slip_242 Q k72 k81 k98 v0 v2 v5 v6 v7 G) else (if v7 = 1 then (wpX11_slip_210 Q k72 k81 k98 v0 v2 v5 v6 v7 v0 v6 (2 * v8) G) else (if v7 = 2 then (wpX11_slip_210 Q k72 k81 k98 v0 v2 v5 v6 v7 v0 v6 0 G) else (if v7 = 3 then (wpX11_slip_210 Q k72 k81 k98 v0 v2 v5 v6 v7 v0 v6 ((v8 / 10) * 12) G) else (wpX11_slip_210 Q k72 k81 k98 v0 v2 v5 v6 v7 v0 v6 ((v8 / 12) * 10) G))))
def wpX11_slip_147 (Q : Int64 → Wd → Prop) (k72 : Nat → Int32 → Int32 → Wd → Prop) (k81 : Nat → Int32 → Int32 → Int32 → Wd → Prop) (k98 : Nat → Int32 → Int32 → Int32 → Int32 → Wd → Prop) (v0 : Nat) (v2 : Int32) (v5 : Int32) (v6 : Int32) (v7 : Int32) (v8 : Int32) (G : Wd) : Prop := wpX11_slip_152 Q k72 k81 k98 v0 v2 v5 v6 v7 v8 1 G
def wpX11_slip_151 (Q : Int64 → Wd → Prop) (k72 : Nat → Int32 → Int32 → Wd → Prop) (k81 : Nat → Int32 → Int32 → Int32 → Wd → Prop) (k98 : Nat → Int32 → Int32 → Int32 → Int32 → Wd → Prop) (v0 : Nat) (v2 : Int32) (v5 : Int32) (v6 : Int32) (v7 : Int32) (v8 : Int32) (G : Wd) : Prop := wpX11_slip_152 Q k72 k81 k98 v0 v2 v5 v6 v7 v8 0 G
def wpX11_slip_98 (Q : Int64 → Wd → Prop) (k72 : Nat → Int32 → Int32 → Wd → Prop) (k81 : Nat → Int32 → Int32 → Int32 → Wd → Prop) : Nat → Nat → Int32 → Int32 → Int32 → Int32 → Wd → Prop
  | 0, _, _, _, _, _, _ => False
  | n + 1, v0, v2, v5, v6, v7, G => if (2 * v5) < v7 then (∀ x8 : Int32, x8 = v6 + 1 → k81 v0 v2 v5 x8 G) else (gK G v0 = 11 ∧ ∃ b10, gR G v0 16 = some b10 ∧ gK G b10 = 20 ∧ vp_in v6 (gN G b10) ∧ ∀ x14 : Int32, x14 = gI G b10 (v6).toNatClampNeg → if v7 < 3 then (wpX11_slip_147 Q k72 k81 (fun y0 y1 y2 y3 y4 y5 => wpX11_slip_98 Q k72 k81 n y0 y1 y2 y3 y4 y5) v0 v2 v5 v6 v7 x14 G) else (if v7 = 3 then (if (x14 % 10) = 0 then (wpX11_slip_147 Q k72 k81 (fun y0 y1 y2 y3 y4 y5 => wpX11_slip_98 Q k72 k81 n y0 y1 y2 y3 y4 y5) v0 v2 v5 v6 v7 x14 G) else (wpX11_slip_151 Q k72 k81 (fun y0 y1 y2 y3 y4 y5 => wpX11_slip_98 Q k72 k81 n y0 y1 y2 y3 y4 y5) v0 v2 v5 v6 v7 x14 G)) else (if (x14 % 12) = 0 then (wpX11_slip_147 Q k72 k81 (fun y0 y1 y2 y3 y4 y5 => wpX11_slip_98 Q k72 k81 n y0 y1 y2 y3 y4 y5) v0 v2 v5 v6 v7 x14 G) else (wpX11_slip_151 Q k72 k81 (fun y0 y1 y2 y3 y4 y5 => wpX11_slip_98 Q k72 k81 n y0 y1 y2 y3 y4 y5) v0 v2 v5 v6 v7 x14 G))))
def wpX11_slip_81 (Q : Int64 → Wd → Prop) (k72 : Nat → Int32 → Int32 → Wd → Prop) : Nat → Nat → Int32 → Int32 → Int32 → Wd → Prop
  | 0, _, _, _, _, _ => False
  | n + 1, v0, v2, v5, v6, G => gK G v0 = 11 ∧ if (gI G v0 15) ≤ v6 then (∀ x16 : Int32, x16 = v5 + 1 → k72 v0 v2 x16 G) else (∀ x17 : Int32, x17 = ((2 * v5) - 1) → ∃ m, wpX11_slip_98 Q k72 (fun y0 y1 y2 y3 y4 => wpX11_slip_81 Q k72 n y0 y1 y2 y3 y4) m v0 v2 v5 v6 x17 G)
def wpX11_slip_72 (Q : Int64 → Wd → Prop) : Nat → Nat → Int32 → Int32 → Wd → Prop
  | 0, _, _, _, _ => False
  | n + 1, v0, v2, v5, G => if 2 < v5 then (Q (-9000000000000000005) G) else (∃ m, wpX11_slip_81 Q (fun y0 y1 y2 y3 => wpX11_slip_72 Q n y0 y1 y2 y3) m v0 v2 v5 0 G)
set_option maxRecDepth 100000 in
def wpX11_slip (a0 : Nat) (p1 : Int32) (p2 : Int32) (G : Wd) (Q : Int64 → Wd → Prop) : Prop := wpX11_isIn ((p1).toInt64) 0 9 G (fun r18 G19 => if r18 = 0 then (Q (-9000000000000000001) G19) else (wpX11_isIn ((p2).toInt64) (-1000000000) 1000000000 G19 (fun r20 G21 => if r20 = 0 then (Q (-9000000000000000001) G21) else (gK G21 a0 = 11 ∧ wpX11_findEnds a0 p1 G21 (fun r23 G24 => if r23 = 0 then (gK G24 a0 = 11 ∧ wpX11_bothEnds a0 (-1) 0 G24 (fun r26 G27 => if r26 = 0 then (gK G27 a0 = 11 ∧ wpX11_isRight a0 p2 G27 (fun r29 G30 => if r29 = 0 then (∃ m, wpX11_slip_72 Q m a0 p2 1 G30) else (Q 0 G30))) else (Q (-9000000000000000004) G27))) else (Q r23 G24))))))
abbrev rmX11_slip : Room := { frames := 21, cells := 0, slots := 0, locals := 528 }
def wpX11_count_70 (Q : Int64 → Wd → Prop) (k45 : Nat → Int64 → Int32 → Wd → Prop) (v0 : Nat) (v4 : Int32) (s0 : Int64) (s1 : Int64) (G : Wd) : Prop := ∀ x1 : Int64, x1 = (s0 + s1) → ∀ x2 : Int32, x2 = v4 + 1 → k45 v0 x1 x2 G
def wpX11_count_45 (Q : Int64 → Wd → Prop) : Nat → Nat → Int64 → Int32 → Wd → Prop
  | 0, _, _, _, _ => False
  | n + 1, v0, v2, v4, G => gK G v0 = 11 ∧ if (gI G v0 1) ≤ v4 then (Q v2 G) else (∃ b4, gR G v0 12 = some b4 ∧ gK G b4 = 22 ∧ vp_in v4 (gN G b4) ∧ if (gI G b4 (v4).toNatClampNeg) = 0 then (wpX11_count_70 Q (fun y0 y1 y2 y3 => wpX11_count_45 Q n y0 y1 y2 y3) v0 v4 v2 0 G) else (wpX11_count_70 Q (fun y0 y1 y2 y3 => wpX11_count_45 Q n y0 y1 y2 y3) v0 v4 v2 1 G))
def wpX11_count_105 (Q : Int64 → Wd → Prop) (k83 : Nat → Int64 → Int32 → Wd → Prop) (v0 : Nat) (v4 : Int32) (s0 : Int64) (s1 : Int64) (G : Wd) : Prop := ∀ x8 : Int64, x8 = (s0 + s1) → ∀ x9 : Int32, x9 = v4 + 1 → k83 v0 x8 x9 G
def wpX11_count_83 (Q : Int64 → Wd → Prop) : Nat → Nat → Int64 → Int32 → Wd → Prop
  | 0, _, _, _, _ => False
  | n + 1, v0, v2, v4, G => if 4 ≤ v4 then (Q v2 G) else (gK G v0 = 11 ∧ ∃ b11, gR G v0 13 = some b11 ∧ gK G b11 = 20 ∧ vp_in v4 (gN G b11) ∧ if (gI G b11 (v4).toNatClampNeg) < 0 then (wpX11_count_105 Q (fun y0 y1 y2 y3 => wpX11_count_83 Q n y0 y1 y2 y3) v0 v4 v2 0 G) else (wpX11_count_105 Q (fun y0 y1 y2 y3 => wpX11_count_83 Q n y0 y1 y2 y3) v0 v4 v2 1 G))
def wpX11_count_169 (Q : Int64 → Wd → Prop) : Nat → Int64 → Int32 → Int32 → Wd → Prop
  | 0, _, _, _, _ => False
  | n + 1, v2, v4, v5, G => if 10 ≤ v5 then (Q v2 G) else (∀ x15 : Int64, x15 = (v2 + ((((v4 >>> (v5 &&& 31)) &&& 1)).toInt64)) → ∀ x16 : Int32, x16 = v5 + 1 → wpX11_count_169 Q n x15 v4 x16 G)
def wpX11_count_127 (Q : Int64 → Wd → Prop) : Nat → Nat → Int64 → Int32 → Int32 → Wd → Prop
  | 0, _, _, _, _, _ => False
  | n + 1, v0, v2, v4, v5, G => gK G v0 = 11 ∧ if (gI G v0 1) ≤ v5 then (∃ m, wpX11_count_169 Q m v2 v4 0 G) else (∃ b18, gR G v0 3 = some b18 ∧ gK G b18 = 20 ∧ vp_in v5 (gN G b18) ∧ ∃ b22, gR G v0 4 = some b22 ∧ gK G b22 = 20 ∧ vp_in v5 (gN G b22) ∧ ∀ x26 : Int32, x26 = (v4 ||| ((1 <<< ((gI G b18 (v5).toNatClampNeg) &&& 31)) ||| (1 <<< ((gI G b22 (v5).toNatClampNeg) &&& 31)))) → ∀ x27 : Int32, x27 = v5 + 1 → wpX11_count_127 Q n v0 v2 x26 x27 G)
set_option maxRecDepth 100000 in
def wpX11_count (a0 : Nat) (p1 : Int32) (G : Wd) (Q : Int64 → Wd → Prop) : Prop := if p1 = 0 then (gK G a0 = 11 ∧ Q ((gI G a0 1).toInt64) G) else (if p1 = 1 then (∃ m, wpX11_count_45 Q m a0 0 0 G) else (if p1 = 2 then (∃ m, wpX11_count_83 Q m a0 0 0 G) else (if p1 = 3 then (gK G a0 = 11 ∧ Q ((gI G a0 15).toInt64) G) else (if p1 = 4 then (∃ m, wpX11_count_127 Q m a0 0 0 0 G) else (Q (-9000000000000000001) G)))))
abbrev rmX11_count : Room := { frames := 0, cells := 0, slots := 0, locals := 0 }
set_option maxRecDepth 100000 in
theorem sX11_step {l : Launch} {D : Dx} {a0 : Nat} {p1 : Int32} {p2 : Int32} {p3 : Int32} {G : Wd} {Q : Int64 → Wd → Prop} (hw : wpX11_step a0 p1 p2 p3 G Q) : Met l yX11_step (wM yX11_step cX11_step 6 (some .long)) rmX11_step (PM D [.ref a0, .int p1, .int p2, .int p3] G) (QMl D Q) 0 0 (Ab D) := by
  refine v_met (by decide) (Nat.le_of_ble_eq_true rfl) (fun X hl hR F => ?_)
  subst hl
  have F : Fx X D cX11_step 6 RX11 (some .long) "step" := F
  refine v_cast (L' := [(0, .ref a0), (1, .int p1), (2, .int p2), (3, .int p3)]) rfl rfl ?_
  unfold wpX11_step at hw
  refine v_iload_n F dX11_step_0 rfl 1 rfl ?_
  refine v_calli (r_S F ls_X11_317 (sX11_isCustom hw) (mkRm hR rfl rfl rfl rfl rfl rfl) rfl rfl (Nat.le_of_ble_eq_true rfl) dX11_step_1) (fun r1 G2 hw => ?_)
  refine v_if_ne (tgt := 11) F dX11_step_4 (by decide) (fun h => ?_) (fun h => ?_)
  · rw [if_neg h] at hw
    refine v_aload_n F dX11_step_11 rfl 0 rfl ?_
    obtain ⟨kd3, hw⟩ := hw
    obtain ⟨b4, hr5, hw⟩ := hw
    refine v_getS F fl_X11_47 (fun _ => rfl) kd3 hr5 dX11_step_12 ?_
    refine v_iload_n F dX11_step_15 rfl 1 rfl ?_
    obtain ⟨kd6, hw⟩ := hw
    obtain ⟨hi7, hw⟩ := hw
    refine v_ialdE F rfl kd6 hi7 dX11_step_16 ?_
    refine v_if_ge (tgt := 24) F dX11_step_17 (by decide) (fun h => ?_) (fun h => ?_)
    · rw [if_pos h] at hw
      refine v_iload_n F dX11_step_24 rfl 2 rfl ?_
      refine v_i2l F dX11_step_25 ?_
      refine v_lconst (v := 0) F dX11_step_26 rfl ?_
      refine v_aload_n F dX11_step_27 rfl 0 rfl ?_
      obtain ⟨b8, hr9, hw⟩ := hw
      refine v_getS F fl_X11_47 (fun _ => rfl) kd3 hr9 dX11_step_28 ?_
      refine v_iload_n F dX11_step_31 rfl 1 rfl ?_
      obtain ⟨kd10, hw⟩ := hw
      obtain ⟨hi11, hw⟩ := hw
      refine v_ialdE F rfl kd10 hi11 dX11_step_32 ?_
      refine v_iconst (v := 1) F dX11_step_33 (by decide) ?_
      refine v_isub F dX11_step_34 ?_
      refine v_i2l F dX11_step_35 ?_
      refine v_calli (r_S F ls_X11_145 (sX11_isIn hw) (mkRm hR rfl rfl rfl rfl rfl rfl) rfl rfl (Nat.le_of_ble_eq_true rfl) dX11_step_36) (fun r12 G13 hw => ?_)
      refine v_if_ne (tgt := 46) F dX11_step_39 (by decide) (fun h => ?_) (fun h => ?_)
      · rw [if_neg h] at hw
        refine v_iload_n F dX11_step_46 rfl 3 rfl ?_
        refine v_i2l F dX11_step_47 ?_
        refine v_ldc2 (v := 2) F wd_1097 dX11_step_48 ?_
        refine v_ldc2 (v := 1000) F wd_1039 dX11_step_51 ?_
        refine v_calli (r_S F ls_X11_145 (sX11_isIn hw) (mkRm hR rfl rfl rfl rfl rfl rfl) rfl rfl (Nat.le_of_ble_eq_true rfl) dX11_step_54) (fun r14 G15 hw => ?_)
        refine v_if_ne (tgt := 64) F dX11_step_57 (by decide) (fun h => ?_) (fun h => ?_)
        · rw [if_neg h] at hw
          refine v_aload_n F dX11_step_64 rfl 0 rfl ?_
          obtain ⟨kd16, hw⟩ := hw
          obtain ⟨b17, hr18, hw⟩ := hw
          refine v_getS F fl_X11_50 (fun _ => rfl) kd16 hr18 dX11_step_65 ?_
          refine v_iconst (v := 5) F dX11_step_68 (by decide) ?_
          refine v_iload_n F dX11_step_69 rfl 1 rfl ?_
          refine v_imul F dX11_step_70 ?_
          refine v_iload_n F dX11_step_71 rfl 2 rfl ?_
          refine v_iadd F dX11_step_72 ?_
          obtain ⟨kd19, hw⟩ := hw
          obtain ⟨hi20, hw⟩ := hw
          refine v_ialdE F rfl kd19 hi20 dX11_step_73 ?_
          refine v_i2l F dX11_step_74 ?_
          refine v_topl (fun x21 hx21 => ?_)
          have hw := hw x21 hx21
          refine v_lstore (L' := [(4, .long x21), (0, .ref a0), (1, .int p1), (2, .int p2), (3, .int p3)]) F dX11_step_75 (by decide) rfl ?_
          refine v_aload_n F dX11_step_77 rfl 1 rfl ?_
          obtain ⟨b22, hr23, hw⟩ := hw
          refine v_getS F fl_X11_50 (fun _ => rfl) kd16 hr23 dX11_step_78 ?_
          refine v_iconst (v := 5) F dX11_step_81 (by decide) ?_
          refine v_iload_n F dX11_step_82 rfl 2 rfl ?_
          refine v_imul F dX11_step_83 ?_
          refine v_iload_n F dX11_step_84 rfl 3 rfl ?_
          refine v_iadd F dX11_step_85 ?_
          refine v_iload_n F dX11_step_86 rfl 4 rfl ?_
          obtain ⟨kd24, hw⟩ := hw
          obtain ⟨hi25, hw⟩ := hw
          refine v_iastE F rfl kd24 hi25 dX11_step_87 (fun G26 hG26 => ?_)
          have hw := hw G26 hG26
          refine v_lload F dX11_step_88 0 rfl ?_
          refine v_widen (c' := 0) (s' := 0) (by decide) (by decide) ?_
          exact v_lret F hw dX11_step_90
        · rw [if_pos h] at hw
          refine v_ldc2 (v := (-9000000000000000001)) F wd_1021 dX11_step_60 ?_
          refine v_widen (c' := 0) (s' := 0) (by decide) (by decide) ?_
          exact v_lret F hw dX11_step_63
      · rw [if_pos h] at hw
        refine v_ldc2 (v := (-9000000000000000013)) F wd_1243 dX11_step_42 ?_
        refine v_widen (c' := 0) (s' := 0) (by decide) (by decide) ?_
        exact v_lret F hw dX11_step_45
    · rw [if_neg h] at hw
      refine v_ldc2 (v := (-9000000000000000011)) F wd_1242 dX11_step_20 ?_
      refine v_widen (c' := 0) (s' := 0) (by decide) (by decide) ?_
      exact v_lret F hw dX11_step_23
  · rw [if_pos h] at hw
    refine v_ldc2 (v := (-9000000000000000001)) F wd_1021 dX11_step_7 ?_
    refine v_widen (c' := 0) (s' := 0) (by decide) (by decide) ?_
    exact v_lret F hw dX11_step_10
set_option maxRecDepth 100000 in
theorem sbX11_copy_71 {X : Cx} {D : Dx} (hR : X.2.2.2.1 = rmX11_copy) (F : Fx X D cX11_copy 5 RX11 (some .long) "copy") {Q : Int64 → Wd → Prop} : ∀ (n : Nat) (v0 : Nat) (v1 : Int32) (v2 : Int32) (v3 : Int32) (v4 : Int32) (G : Wd), wpX11_copy_71 Q  n v0 v1 v2 v3 v4 G → V X D 5 (ZM X D (QMl D Q) 0 0) G 0 0 71 [(0, .ref v0), (1, .int v1), (2, .int v2), (3, .int v3), (4, .int v4)] [] := by
  intro n
  induction n with
  | zero => intro v0 v1 v2 v3 v4 G hw; exact hw.elim
  | succ n ih =>
    intro v0 v1 v2 v3 v4 G hw
    simp only [wpX11_copy_71] at hw
    refine v_iload F dX11_copy_71 4 rfl ?_
    refine v_iload_n F dX11_copy_73 rfl 3 rfl ?_
    refine v_icmp_ge (tgt := 105) F dX11_copy_74 (by decide) (fun h => ?_) (fun h => ?_)
    · rw [if_pos h] at hw
      refine v_iload_n F dX11_copy_105 rfl 3 rfl ?_
      refine v_i2l F dX11_copy_106 ?_
      exact v_lret F hw dX11_copy_107
    · rw [if_neg h] at hw
      refine v_aload_n F dX11_copy_77 rfl 0 rfl ?_
      obtain ⟨kd1, hw⟩ := hw
      obtain ⟨b2, hr3, hw⟩ := hw
      refine v_getS F fl_X11_50 (fun _ => rfl) kd1 hr3 dX11_copy_78 ?_
      refine v_iconst (v := 5) F dX11_copy_81 (by decide) ?_
      refine v_iload_n F dX11_copy_82 rfl 2 rfl ?_
      refine v_imul F dX11_copy_83 ?_
      refine v_iload F dX11_copy_84 4 rfl ?_
      refine v_iadd F dX11_copy_86 ?_
      refine v_aload_n F dX11_copy_87 rfl 0 rfl ?_
      obtain ⟨b4, hr5, hw⟩ := hw
      refine v_getS F fl_X11_50 (fun _ => rfl) kd1 hr5 dX11_copy_88 ?_
      refine v_iconst (v := 5) F dX11_copy_91 (by decide) ?_
      refine v_iload_n F dX11_copy_92 rfl 1 rfl ?_
      refine v_imul F dX11_copy_93 ?_
      refine v_iload F dX11_copy_94 4 rfl ?_
      refine v_iadd F dX11_copy_96 ?_
      obtain ⟨kd6, hw⟩ := hw
      obtain ⟨hi7, hw⟩ := hw
      refine v_ialdE F rfl kd6 hi7 dX11_copy_97 ?_
      obtain ⟨kd8, hw⟩ := hw
      obtain ⟨hi9, hw⟩ := hw
      refine v_iastE F rfl kd8 hi9 dX11_copy_98 (fun G10 hG10 => ?_)
      have hw := hw G10 hG10
      refine v_iincN (c := 1) F dX11_copy_99 4 rfl (by decide) (by decide) (fun x11 hx11 => ?_)
      refine v_cast (L' := [(4, .int x11), (0, .ref v0), (1, .int v1), (2, .int v2), (3, .int v3)]) rfl rfl ?_
      have hw := hw x11 hx11
      refine v_goto (tgt := 71) F dX11_copy_102 (by decide) ?_
      exact v_loc [1, 2, 3, 4, 0] rfl (ih _ _ _ _ _ _ hw)
set_option maxRecDepth 100000 in
theorem sX11_copy {l : Launch} {D : Dx} {a0 : Nat} {p1 : Int32} {p2 : Int32} {p3 : Int32} {G : Wd} {Q : Int64 → Wd → Prop} (hw : wpX11_copy a0 p1 p2 p3 G Q) : Met l yX11_copy (wM yX11_copy cX11_copy 5 (some .long)) rmX11_copy (PM D [.ref a0, .int p1, .int p2, .int p3] G) (QMl D Q) 0 0 (Ab D) := by
  refine v_met (by decide) (Nat.le_of_ble_eq_true rfl) (fun X hl hR F => ?_)
  subst hl
  have F : Fx X D cX11_copy 5 RX11 (some .long) "copy" := F
  refine v_cast (L' := [(0, .ref a0), (1, .int p1), (2, .int p2), (3, .int p3)]) rfl rfl ?_
  unfold wpX11_copy at hw
  refine v_iload_n F dX11_copy_0 rfl 1 rfl ?_
  refine v_calli (r_S F ls_X11_317 (sX11_isCustom hw) (mkRm hR rfl rfl rfl rfl rfl rfl) rfl rfl (Nat.le_of_ble_eq_true rfl) dX11_copy_1) (fun r12 G13 hw => ?_)
  refine v_if_eq (tgt := 14) F dX11_copy_4 (by decide) (fun h => ?_) (fun h => ?_)
  · rw [if_pos h] at hw
    refine v_ldc2 (v := (-9000000000000000001)) F wd_1021 dX11_copy_14 ?_
    refine v_widen (c' := 0) (s' := 0) (by decide) (by decide) ?_
    exact v_lret F hw dX11_copy_17
  · rw [if_neg h] at hw
    refine v_iload_n F dX11_copy_7 rfl 2 rfl ?_
    refine v_calli (r_S F ls_X11_317 (sX11_isCustom hw) (mkRm hR rfl rfl rfl rfl rfl rfl) rfl rfl (Nat.le_of_ble_eq_true rfl) dX11_copy_8) (fun r14 G15 hw => ?_)
    refine v_if_ne (tgt := 18) F dX11_copy_11 (by decide) (fun h => ?_) (fun h => ?_)
    · rw [if_neg h] at hw
      refine v_aload_n F dX11_copy_18 rfl 0 rfl ?_
      obtain ⟨kd16, hw⟩ := hw
      obtain ⟨b17, hr18, hw⟩ := hw
      refine v_getS F fl_X11_47 (fun _ => rfl) kd16 hr18 dX11_copy_19 ?_
      refine v_iload_n F dX11_copy_22 rfl 1 rfl ?_
      obtain ⟨kd19, hw⟩ := hw
      obtain ⟨hi20, hw⟩ := hw
      refine v_ialdE F rfl kd19 hi20 dX11_copy_23 ?_
      refine v_if_lt (tgt := 36) F dX11_copy_24 (by decide) (fun h => ?_) (fun h => ?_)
      · rw [if_pos h] at hw
        refine v_ldc2 (v := (-9000000000000000011)) F wd_1242 dX11_copy_36 ?_
        refine v_widen (c' := 0) (s' := 0) (by decide) (by decide) ?_
        exact v_lret F hw dX11_copy_39
      · rw [if_neg h] at hw
        refine v_aload_n F dX11_copy_27 rfl 0 rfl ?_
        obtain ⟨b21, hr22, hw⟩ := hw
        refine v_getS F fl_X11_47 (fun _ => rfl) kd16 hr22 dX11_copy_28 ?_
        refine v_iload_n F dX11_copy_31 rfl 2 rfl ?_
        obtain ⟨kd23, hw⟩ := hw
        obtain ⟨hi24, hw⟩ := hw
        refine v_ialdE F rfl kd23 hi24 dX11_copy_32 ?_
        refine v_if_ge (tgt := 40) F dX11_copy_33 (by decide) (fun h => ?_) (fun h => ?_)
        · rw [if_pos h] at hw
          refine v_iload_n F dX11_copy_40 rfl 3 rfl ?_
          refine v_if_lt (tgt := 64) F dX11_copy_41 (by decide) (fun h => ?_) (fun h => ?_)
          · rw [if_pos h] at hw
            refine v_ldc2 (v := (-9000000000000000013)) F wd_1243 dX11_copy_64 ?_
            refine v_widen (c' := 0) (s' := 0) (by decide) (by decide) ?_
            exact v_lret F hw dX11_copy_67
          · rw [if_neg h] at hw
            refine v_iload_n F dX11_copy_44 rfl 3 rfl ?_
            refine v_aload_n F dX11_copy_45 rfl 0 rfl ?_
            obtain ⟨b25, hr26, hw⟩ := hw
            refine v_getS F fl_X11_47 (fun _ => rfl) kd16 hr26 dX11_copy_46 ?_
            refine v_iload_n F dX11_copy_49 rfl 1 rfl ?_
            obtain ⟨kd27, hw⟩ := hw
            obtain ⟨hi28, hw⟩ := hw
            refine v_ialdE F rfl kd27 hi28 dX11_copy_50 ?_
            refine v_icmp_gt (tgt := 64) F dX11_copy_51 (by decide) (fun h => ?_) (fun h => ?_)
            · rw [if_pos h] at hw
              refine v_ldc2 (v := (-9000000000000000013)) F wd_1243 dX11_copy_64 ?_
              refine v_widen (c' := 0) (s' := 0) (by decide) (by decide) ?_
              exact v_lret F hw dX11_copy_67
            · rw [if_neg h] at hw
              refine v_iload_n F dX11_copy_54 rfl 3 rfl ?_
              refine v_aload_n F dX11_copy_55 rfl 0 rfl ?_
              obtain ⟨b29, hr30, hw⟩ := hw
              refine v_getS F fl_X11_47 (fun _ => rfl) kd16 hr30 dX11_copy_56 ?_
              refine v_iload_n F dX11_copy_59 rfl 2 rfl ?_
              obtain ⟨kd31, hw⟩ := hw
              obtain ⟨hi32, hw⟩ := hw
              refine v_ialdE F rfl kd31 hi32 dX11_copy_60 ?_
              refine v_icmp_le (tgt := 68) F dX11_copy_61 (by decide) (fun h => ?_) (fun h => ?_)
              · rw [if_pos h] at hw
                refine v_iconst (v := 0) F dX11_copy_68 (by decide) ?_
                refine v_istore (L' := [(4, .int 0), (0, .ref a0), (1, .int p1), (2, .int p2), (3, .int p3)]) F dX11_copy_69 (by decide) rfl ?_
                obtain ⟨m, hw⟩ := hw
                exact v_loc [1, 2, 3, 4, 0] rfl (sbX11_copy_71 hR F  m _ _ _ _ _ _ hw)
              · rw [if_neg h] at hw
                refine v_ldc2 (v := (-9000000000000000013)) F wd_1243 dX11_copy_64 ?_
                refine v_widen (c' := 0) (s' := 0) (by decide) (by decide) ?_
                exact v_lret F hw dX11_copy_67
        · rw [if_neg h] at hw
          refine v_ldc2 (v := (-9000000000000000011)) F wd_1242 dX11_copy_36 ?_
          refine v_widen (c' := 0) (s' := 0) (by decide) (by decide) ?_
          exact v_lret F hw dX11_copy_39
    · rw [if_pos h] at hw
      refine v_ldc2 (v := (-9000000000000000001)) F wd_1021 dX11_copy_14 ?_
      refine v_widen (c' := 0) (s' := 0) (by decide) (by decide) ?_
      exact v_lret F hw dX11_copy_17
set_option maxRecDepth 100000 in
theorem sbX11_part_139 {X : Cx} {D : Dx} (hR : X.2.2.2.1 = rmX11_part) (F : Fx X D cX11_part 9 RX11 (some .long) "part") {Q : Int64 → Wd → Prop} {v2 : Int64} {s0 : Int64} {G : Wd} (hw : wpX11_part_139 Q  v2 s0 G) : V X D 9 (ZM X D (QMl D Q) 0 0) G 0 0 139 [(2, .long v2)] [.long s0] := by
  unfold wpX11_part_139 at hw
  refine v_lstore (L' := [(7, .long s0), (2, .long v2)]) F dX11_part_139 (by decide) rfl ?_
  refine v_lload_n F dX11_part_141 rfl 1 rfl ?_
  refine v_lconst (v := 0) F dX11_part_142 rfl ?_
  refine v_lcmp F dX11_part_143 ?_
  refine v_lif_ge (tgt := 153) F dX11_part_144 (by decide) (fun h => ?_) (fun h => ?_)
  · rw [if_neg h] at hw
    refine v_lload F dX11_part_153 0 rfl ?_
    exact v_lret F hw dX11_part_155
  · rw [if_pos h] at hw
    refine v_lload F dX11_part_147 0 rfl ?_
    refine v_lneg F dX11_part_149 ?_
    refine v_goto (tgt := 155) F dX11_part_150 (by decide) ?_
    exact v_lret F hw dX11_part_155
set_option maxRecDepth 100000 in
theorem sbX11_part_80 {X : Cx} {D : Dx} (hR : X.2.2.2.1 = rmX11_part) (F : Fx X D cX11_part 9 RX11 (some .long) "part") {Q : Int64 → Wd → Prop} : ∀ (n : Nat) (v0 : Nat) (v1 : Int32) (v2 : Int64) (v4 : Int32) (v5 : Int64) (v7 : Int32) (G : Wd), wpX11_part_80 Q  n v0 v1 v2 v4 v5 v7 G → V X D 9 (ZM X D (QMl D Q) 0 0) G 0 0 80 [(0, .ref v0), (1, .int v1), (2, .long v2), (4, .int v4), (5, .long v5), (7, .int v7)] [] := by
  intro n
  induction n with
  | zero => intro v0 v1 v2 v4 v5 v7 G hw; exact hw.elim
  | succ n ih =>
    intro v0 v1 v2 v4 v5 v7 G hw
    simp only [wpX11_part_80] at hw
    refine v_iload F dX11_part_80 5 rfl ?_
    refine v_iload F dX11_part_82 3 rfl ?_
    refine v_icmp_le (tgt := 112) F dX11_part_84 (by decide) (fun h => ?_) (fun h => ?_)
    · rw [if_pos h] at hw
      refine v_iload F dX11_part_112 3 rfl ?_
      refine v_if_le (tgt := 137) F dX11_part_114 (by decide) (fun h => ?_) (fun h => ?_)
      · rw [if_pos h] at hw
        refine v_lload F dX11_part_137 4 rfl ?_
        exact v_loc [2] rfl (sbX11_part_139 hR F  hw)
      · rw [if_neg h] at hw
        refine v_lload F dX11_part_117 4 rfl ?_
        refine v_aload_n F dX11_part_119 rfl 0 rfl ?_
        obtain ⟨kd1, hw⟩ := hw
        obtain ⟨b2, hr3, hw⟩ := hw
        refine v_getS F fl_X11_50 (fun _ => rfl) kd1 hr3 dX11_part_120 ?_
        refine v_iconst (v := 5) F dX11_part_123 (by decide) ?_
        refine v_iload_n F dX11_part_124 rfl 1 rfl ?_
        refine v_imul F dX11_part_125 ?_
        refine v_iload F dX11_part_126 3 rfl ?_
        refine v_iadd F dX11_part_128 ?_
        refine v_iconst (v := 1) F dX11_part_129 (by decide) ?_
        refine v_isub F dX11_part_130 ?_
        obtain ⟨kd4, hw⟩ := hw
        obtain ⟨hi5, hw⟩ := hw
        refine v_ialdE F rfl kd4 hi5 dX11_part_131 ?_
        refine v_i2l F dX11_part_132 ?_
        obtain ⟨hn6, hw⟩ := hw
        refine v_lremE F dX11_part_133 hn6 ?_
        refine v_goto (tgt := 139) F dX11_part_134 (by decide) ?_
        exact v_loc [2] rfl (sbX11_part_139 hR F  hw)
    · rw [if_neg h] at hw
      refine v_lload F dX11_part_87 4 rfl ?_
      refine v_aload_n F dX11_part_89 rfl 0 rfl ?_
      obtain ⟨kd7, hw⟩ := hw
      obtain ⟨b8, hr9, hw⟩ := hw
      refine v_getS F fl_X11_50 (fun _ => rfl) kd7 hr9 dX11_part_90 ?_
      refine v_iconst (v := 5) F dX11_part_93 (by decide) ?_
      refine v_iload_n F dX11_part_94 rfl 1 rfl ?_
      refine v_imul F dX11_part_95 ?_
      refine v_iload F dX11_part_96 5 rfl ?_
      refine v_iadd F dX11_part_98 ?_
      refine v_iconst (v := 1) F dX11_part_99 (by decide) ?_
      refine v_isub F dX11_part_100 ?_
      obtain ⟨kd10, hw⟩ := hw
      obtain ⟨hi11, hw⟩ := hw
      refine v_ialdE F rfl kd10 hi11 dX11_part_101 ?_
      refine v_i2l F dX11_part_102 ?_
      obtain ⟨hn12, hw⟩ := hw
      refine v_ldiv F dX11_part_103 hn12 ?_
      refine v_topl (fun x13 hx13 => ?_)
      have hw := hw x13 hx13
      refine v_lstore (L' := [(5, .long x13), (0, .ref v0), (1, .int v1), (2, .long v2), (4, .int v4), (7, .int v7)]) F dX11_part_104 (by decide) rfl ?_
      refine v_iincN (c := (-1)) F dX11_part_106 5 rfl (by decide) (by decide) (fun x14 hx14 => ?_)
      refine v_cast (L' := [(7, .int x14), (5, .long x13), (0, .ref v0), (1, .int v1), (2, .long v2), (4, .int v4)]) rfl rfl ?_
      have hw := hw x14 hx14
      refine v_goto (tgt := 80) F dX11_part_109 (by decide) ?_
      exact v_loc [2, 3, 4, 5, 1, 0] rfl (ih _ _ _ _ _ _ _ hw)
set_option maxRecDepth 100000 in
theorem sbX11_part_70 {X : Cx} {D : Dx} (hR : X.2.2.2.1 = rmX11_part) (F : Fx X D cX11_part 9 RX11 (some .long) "part") {Q : Int64 → Wd → Prop} {v0 : Nat} {v1 : Int32} {v2 : Int64} {v4 : Int32} {s0 : Int64} {G : Wd} (hw : wpX11_part_70 Q  v0 v1 v2 v4 s0 G) : V X D 9 (ZM X D (QMl D Q) 0 0) G 0 0 70 [(0, .ref v0), (1, .int v1), (2, .long v2), (4, .int v4)] [.long s0] := by
  unfold wpX11_part_70 at hw
  refine v_lstore (L' := [(5, .long s0), (0, .ref v0), (1, .int v1), (2, .long v2), (4, .int v4)]) F dX11_part_70 (by decide) rfl ?_
  refine v_aload_n F dX11_part_72 rfl 1 rfl ?_
  obtain ⟨kd15, hw⟩ := hw
  obtain ⟨b16, hr17, hw⟩ := hw
  refine v_getS F fl_X11_47 (fun _ => rfl) kd15 hr17 dX11_part_73 ?_
  refine v_iload_n F dX11_part_76 rfl 2 rfl ?_
  obtain ⟨kd18, hw⟩ := hw
  obtain ⟨hi19, hw⟩ := hw
  refine v_ialdE F rfl kd18 hi19 dX11_part_77 ?_
  refine v_topi (fun x20 hx20 => ?_)
  have hw := hw x20 hx20
  refine v_istore (L' := [(7, .int x20), (5, .long s0), (0, .ref v0), (1, .int v1), (2, .long v2), (4, .int v4)]) F dX11_part_78 (by decide) rfl ?_
  obtain ⟨m, hw⟩ := hw
  exact v_loc [2, 3, 4, 5, 1, 0] rfl (sbX11_part_80 hR F  m _ _ _ _ _ _ _ hw)
set_option maxRecDepth 100000 in
theorem sX11_part {l : Launch} {D : Dx} {a0 : Nat} {p1 : Int32} {p2 : Int64} {p4 : Int32} {G : Wd} {Q : Int64 → Wd → Prop} (hw : wpX11_part a0 p1 p2 p4 G Q) : Met l yX11_part (wM yX11_part cX11_part 9 (some .long)) rmX11_part (PM D [.ref a0, .int p1, .long p2, .int p4] G) (QMl D Q) 0 0 (Ab D) := by
  refine v_met (by decide) (Nat.le_of_ble_eq_true rfl) (fun X hl hR F => ?_)
  subst hl
  have F : Fx X D cX11_part 9 RX11 (some .long) "part" := F
  refine v_cast (L' := [(0, .ref a0), (1, .int p1), (2, .long p2), (4, .int p4)]) rfl rfl ?_
  unfold wpX11_part at hw
  refine v_iload_n F dX11_part_0 rfl 1 rfl ?_
  refine v_calli (r_S F ls_X11_317 (sX11_isCustom hw) (mkRm hR rfl rfl rfl rfl rfl rfl) rfl rfl (Nat.le_of_ble_eq_true rfl) dX11_part_1) (fun r21 G22 hw => ?_)
  refine v_if_eq (tgt := 20) F dX11_part_4 (by decide) (fun h => ?_) (fun h => ?_)
  · rw [if_pos h] at hw
    refine v_ldc2 (v := (-9000000000000000001)) F wd_1021 dX11_part_20 ?_
    refine v_widen (c' := 0) (s' := 0) (by decide) (by decide) ?_
    exact v_lret F hw dX11_part_23
  · rw [if_neg h] at hw
    refine v_lload_n F dX11_part_7 rfl 2 rfl ?_
    refine v_ldc2 (v := (-1000000000000000)) F wd_1252 dX11_part_8 ?_
    refine v_ldc2 (v := 1000000000000000) F wd_1159 dX11_part_11 ?_
    refine v_calli (r_S F ls_X11_145 (sX11_isIn hw) (mkRm hR rfl rfl rfl rfl rfl rfl) rfl rfl (Nat.le_of_ble_eq_true rfl) dX11_part_14) (fun r23 G24 hw => ?_)
    refine v_if_ne (tgt := 24) F dX11_part_17 (by decide) (fun h => ?_) (fun h => ?_)
    · rw [if_neg h] at hw
      refine v_aload_n F dX11_part_24 rfl 0 rfl ?_
      obtain ⟨kd25, hw⟩ := hw
      obtain ⟨b26, hr27, hw⟩ := hw
      refine v_getS F fl_X11_47 (fun _ => rfl) kd25 hr27 dX11_part_25 ?_
      refine v_iload_n F dX11_part_28 rfl 1 rfl ?_
      obtain ⟨kd28, hw⟩ := hw
      obtain ⟨hi29, hw⟩ := hw
      refine v_ialdE F rfl kd28 hi29 dX11_part_29 ?_
      refine v_if_ge (tgt := 37) F dX11_part_30 (by decide) (fun h => ?_) (fun h => ?_)
      · rw [if_pos h] at hw
        refine v_iload F dX11_part_37 3 rfl ?_
        refine v_i2l F dX11_part_39 ?_
        refine v_lconst (v := 0) F dX11_part_40 rfl ?_
        refine v_aload_n F dX11_part_41 rfl 0 rfl ?_
        obtain ⟨b30, hr31, hw⟩ := hw
        refine v_getS F fl_X11_47 (fun _ => rfl) kd25 hr31 dX11_part_42 ?_
        refine v_iload_n F dX11_part_45 rfl 1 rfl ?_
        obtain ⟨kd32, hw⟩ := hw
        obtain ⟨hi33, hw⟩ := hw
        refine v_ialdE F rfl kd32 hi33 dX11_part_46 ?_
        refine v_i2l F dX11_part_47 ?_
        refine v_calli (r_S F ls_X11_145 (sX11_isIn hw) (mkRm hR rfl rfl rfl rfl rfl rfl) rfl rfl (Nat.le_of_ble_eq_true rfl) dX11_part_48) (fun r34 G35 hw => ?_)
        refine v_if_ne (tgt := 58) F dX11_part_51 (by decide) (fun h => ?_) (fun h => ?_)
        · rw [if_neg h] at hw
          refine v_lload_n F dX11_part_58 rfl 2 rfl ?_
          refine v_lconst (v := 0) F dX11_part_59 rfl ?_
          refine v_lcmp F dX11_part_60 ?_
          refine v_lif_ge (tgt := 69) F dX11_part_61 (by decide) (fun h => ?_) (fun h => ?_)
          · rw [if_neg h] at hw
            refine v_lload_n F dX11_part_69 rfl 2 rfl ?_
            exact v_loc [0, 1, 2, 3] rfl (sbX11_part_70 hR F  hw)
          · rw [if_pos h] at hw
            refine v_lload_n F dX11_part_64 rfl 2 rfl ?_
            refine v_lneg F dX11_part_65 ?_
            refine v_goto (tgt := 70) F dX11_part_66 (by decide) ?_
            exact v_loc [0, 1, 2, 3] rfl (sbX11_part_70 hR F  hw)
        · rw [if_pos h] at hw
          refine v_ldc2 (v := (-9000000000000000013)) F wd_1243 dX11_part_54 ?_
          refine v_widen (c' := 0) (s' := 0) (by decide) (by decide) ?_
          exact v_lret F hw dX11_part_57
      · rw [if_neg h] at hw
        refine v_ldc2 (v := (-9000000000000000011)) F wd_1242 dX11_part_33 ?_
        refine v_widen (c' := 0) (s' := 0) (by decide) (by decide) ?_
        exact v_lret F hw dX11_part_36
    · rw [if_pos h] at hw
      refine v_ldc2 (v := (-9000000000000000001)) F wd_1021 dX11_part_20 ?_
      refine v_widen (c' := 0) (s' := 0) (by decide) (by decide) ?_
      exact v_lret F hw dX11_part_23
set_option maxRecDepth 100000 in
theorem sbX11_whole_107 {X : Cx} {D : Dx} (hR : X.2.2.2.1 = rmX11_whole) (F : Fx X D cX11_whole 11 RX11 (some .long) "whole") {Q : Int64 → Wd → Prop} {k55 : Nat → Int32 → Int64 → Int64 → Int64 → Int32 → Wd → Prop} (hk55 : ∀ v0 v1 v4 v6 v8 v10 G, k55 v0 v1 v4 v6 v8 v10 G → V X D 11 (ZM X D (QMl D Q) 0 0) G 0 0 55 [(0, .ref v0), (1, .int v1), (4, .long v4), (6, .long v6), (8, .long v8), (10, .int v10)] []) {v0 : Nat} {v1 : Int32} {v4 : Int64} {v8 : Int64} {v10 : Int32} {s0 : Int64} {s1 : Int64} {G : Wd} (hw : wpX11_whole_107 Q k55 v0 v1 v4 v8 v10 s0 s1 G) : V X D 11 (ZM X D (QMl D Q) 0 0) G 0 0 107 [(0, .ref v0), (1, .int v1), (4, .long v4), (8, .long v8), (10, .int v10)] [.long s1, .long s0] := by
  unfold wpX11_whole_107 at hw
  refine v_lmul F dX11_whole_107 ?_
  refine v_topl (fun x1 hx1 => ?_)
  have hw := hw x1 hx1
  refine v_lstore (L' := [(6, .long x1), (0, .ref v0), (1, .int v1), (4, .long v4), (8, .long v8), (10, .int v10)]) F dX11_whole_108 (by decide) rfl ?_
  refine v_iincN (c := (-1)) F dX11_whole_110 5 rfl (by decide) (by decide) (fun x2 hx2 => ?_)
  refine v_cast (L' := [(10, .int x2), (6, .long x1), (0, .ref v0), (1, .int v1), (4, .long v4), (8, .long v8)]) rfl rfl ?_
  have hw := hw x2 hx2
  refine v_goto (tgt := 55) F dX11_whole_113 (by decide) ?_
  exact v_loc [2, 3, 4, 1, 5, 0] rfl (hk55 _ _ _ _ _ _ _ hw)
set_option maxRecDepth 100000 in
theorem sbX11_whole_55 {X : Cx} {D : Dx} (hR : X.2.2.2.1 = rmX11_whole) (F : Fx X D cX11_whole 11 RX11 (some .long) "whole") {Q : Int64 → Wd → Prop} : ∀ (n : Nat) (v0 : Nat) (v1 : Int32) (v4 : Int64) (v6 : Int64) (v8 : Int64) (v10 : Int32) (G : Wd), wpX11_whole_55 Q  n v0 v1 v4 v6 v8 v10 G → V X D 11 (ZM X D (QMl D Q) 0 0) G 0 0 55 [(0, .ref v0), (1, .int v1), (4, .long v4), (6, .long v6), (8, .long v8), (10, .int v10)] [] := by
  intro n
  induction n with
  | zero => intro v0 v1 v4 v6 v8 v10 G hw; exact hw.elim
  | succ n ih =>
    intro v0 v1 v4 v6 v8 v10 G hw
    simp only [wpX11_whole_55] at hw
    refine v_iload F dX11_whole_55 5 rfl ?_
    refine v_if_lt (tgt := 116) F dX11_whole_57 (by decide) (fun h => ?_) (fun h => ?_)
    · rw [if_pos h] at hw
      refine v_lload F dX11_whole_116 4 rfl ?_
      exact v_lret F hw dX11_whole_118
    · rw [if_neg h] at hw
      refine v_lload F dX11_whole_60 4 rfl ?_
      refine v_lload F dX11_whole_62 2 rfl ?_
      refine v_ldc2 (v := 1000) F wd_1039 dX11_whole_64 ?_
      refine v_lremE F dX11_whole_67 (by decide) ?_
      refine v_lload F dX11_whole_68 3 rfl ?_
      refine v_lmul F dX11_whole_70 ?_
      refine v_ladd F dX11_whole_71 ?_
      refine v_topl (fun x3 hx3 => ?_)
      have hw := hw x3 hx3
      refine v_lstore (L' := [(8, .long x3), (0, .ref v0), (1, .int v1), (4, .long v4), (6, .long v6), (10, .int v10)]) F dX11_whole_72 (by decide) rfl ?_
      refine v_lload F dX11_whole_74 3 rfl ?_
      refine v_ldc2 (v := 1000) F wd_1039 dX11_whole_76 ?_
      refine v_ldiv F dX11_whole_79 (by decide) ?_
      refine v_topl (fun x4 hx4 => ?_)
      have hw := hw x4 hx4
      refine v_lstore (L' := [(4, .long x4), (8, .long x3), (0, .ref v0), (1, .int v1), (6, .long v6), (10, .int v10)]) F dX11_whole_80 (by decide) rfl ?_
      refine v_lload F dX11_whole_82 4 rfl ?_
      refine v_iload F dX11_whole_84 5 rfl ?_
      refine v_if_le (tgt := 106) F dX11_whole_86 (by decide) (fun h => ?_) (fun h => ?_)
      · rw [if_pos h] at hw
        refine v_lconst (v := 1) F dX11_whole_106 rfl ?_
        exact v_loc [2, 3, 0, 1, 5] rfl (sbX11_whole_107 hR F ih hw)
      · rw [if_neg h] at hw
        refine v_aload_n F dX11_whole_89 rfl 2 rfl ?_
        obtain ⟨kd5, hw⟩ := hw
        obtain ⟨b6, hr7, hw⟩ := hw
        refine v_getS F fl_X11_50 (fun _ => rfl) kd5 hr7 dX11_whole_90 ?_
        refine v_iconst (v := 5) F dX11_whole_93 (by decide) ?_
        refine v_iload_n F dX11_whole_94 rfl 3 rfl ?_
        refine v_imul F dX11_whole_95 ?_
        refine v_iload F dX11_whole_96 5 rfl ?_
        refine v_iadd F dX11_whole_98 ?_
        refine v_iconst (v := 1) F dX11_whole_99 (by decide) ?_
        refine v_isub F dX11_whole_100 ?_
        obtain ⟨kd8, hw⟩ := hw
        obtain ⟨hi9, hw⟩ := hw
        refine v_ialdE F rfl kd8 hi9 dX11_whole_101 ?_
        refine v_i2l F dX11_whole_102 ?_
        refine v_goto (tgt := 107) F dX11_whole_103 (by decide) ?_
        exact v_loc [2, 3, 0, 1, 5] rfl (sbX11_whole_107 hR F ih hw)
set_option maxRecDepth 100000 in
theorem sX11_whole {l : Launch} {D : Dx} {a0 : Nat} {p1 : Int32} {p2 : Int64} {G : Wd} {Q : Int64 → Wd → Prop} (hw : wpX11_whole a0 p1 p2 G Q) : Met l yX11_whole (wM yX11_whole cX11_whole 11 (some .long)) rmX11_whole (PM D [.ref a0, .int p1, .long p2] G) (QMl D Q) 0 0 (Ab D) := by
  refine v_met (by decide) (Nat.le_of_ble_eq_true rfl) (fun X hl hR F => ?_)
  subst hl
  have F : Fx X D cX11_whole 11 RX11 (some .long) "whole" := F
  refine v_cast (L' := [(0, .ref a0), (1, .int p1), (2, .long p2)]) rfl rfl ?_
  unfold wpX11_whole at hw
  refine v_iload_n F dX11_whole_0 rfl 1 rfl ?_
  refine v_calli (r_S F ls_X11_317 (sX11_isCustom hw) (mkRm hR rfl rfl rfl rfl rfl rfl) rfl rfl (Nat.le_of_ble_eq_true rfl) dX11_whole_1) (fun r10 G11 hw => ?_)
  refine v_if_eq (tgt := 21) F dX11_whole_4 (by decide) (fun h => ?_) (fun h => ?_)
  · rw [if_pos h] at hw
    refine v_ldc2 (v := (-9000000000000000001)) F wd_1021 dX11_whole_21 ?_
    refine v_widen (c' := 0) (s' := 0) (by decide) (by decide) ?_
    exact v_lret F hw dX11_whole_24
  · rw [if_neg h] at hw
    refine v_lload_n F dX11_whole_7 rfl 2 rfl ?_
    refine v_lconst (v := 0) F dX11_whole_8 rfl ?_
    refine v_lcmp F dX11_whole_9 ?_
    refine v_lif_lt (tgt := 21) F dX11_whole_10 (by decide) (fun h => ?_) (fun h => ?_)
    · rw [if_pos h] at hw
      refine v_ldc2 (v := (-9000000000000000001)) F wd_1021 dX11_whole_21 ?_
      refine v_widen (c' := 0) (s' := 0) (by decide) (by decide) ?_
      exact v_lret F hw dX11_whole_24
    · rw [if_neg h] at hw
      refine v_lload_n F dX11_whole_13 rfl 2 rfl ?_
      refine v_ldc2 (v := 1000000000000000000) F wd_1257 dX11_whole_14 ?_
      refine v_lcmp F dX11_whole_17 ?_
      refine v_lif_lt (tgt := 25) F dX11_whole_18 (by decide) (fun h => ?_) (fun h => ?_)
      · rw [if_pos h] at hw
        refine v_aload_n F dX11_whole_25 rfl 0 rfl ?_
        obtain ⟨kd12, hw⟩ := hw
        obtain ⟨b13, hr14, hw⟩ := hw
        refine v_getS F fl_X11_47 (fun _ => rfl) kd12 hr14 dX11_whole_26 ?_
        refine v_iload_n F dX11_whole_29 rfl 1 rfl ?_
        obtain ⟨kd15, hw⟩ := hw
        obtain ⟨hi16, hw⟩ := hw
        refine v_ialdE F rfl kd15 hi16 dX11_whole_30 ?_
        refine v_if_ge (tgt := 38) F dX11_whole_31 (by decide) (fun h => ?_) (fun h => ?_)
        · rw [if_pos h] at hw
          refine v_lload_n F dX11_whole_38 rfl 2 rfl ?_
          refine v_lstore (L' := [(4, .long p2), (0, .ref a0), (1, .int p1), (2, .long p2)]) F dX11_whole_39 (by decide) rfl ?_
          refine v_lconst (v := 1) F dX11_whole_41 rfl ?_
          refine v_lstore (L' := [(6, .long 1), (4, .long p2), (0, .ref a0), (1, .int p1), (2, .long p2)]) F dX11_whole_42 (by decide) rfl ?_
          refine v_lconst (v := 0) F dX11_whole_44 rfl ?_
          refine v_lstore (L' := [(8, .long 0), (6, .long 1), (4, .long p2), (0, .ref a0), (1, .int p1), (2, .long p2)]) F dX11_whole_45 (by decide) rfl ?_
          refine v_aload_n F dX11_whole_47 rfl 3 rfl ?_
          obtain ⟨b17, hr18, hw⟩ := hw
          refine v_getS F fl_X11_47 (fun _ => rfl) kd12 hr18 dX11_whole_48 ?_
          refine v_iload_n F dX11_whole_51 rfl 4 rfl ?_
          obtain ⟨kd19, hw⟩ := hw
          obtain ⟨hi20, hw⟩ := hw
          refine v_ialdE F rfl kd19 hi20 dX11_whole_52 ?_
          refine v_topi (fun x21 hx21 => ?_)
          have hw := hw x21 hx21
          refine v_istore (L' := [(10, .int x21), (8, .long 0), (6, .long 1), (4, .long p2), (0, .ref a0), (1, .int p1), (2, .long p2)]) F dX11_whole_53 (by decide) rfl ?_
          obtain ⟨m, hw⟩ := hw
          exact v_loc [4, 5, 3, 2, 1, 0] rfl (sbX11_whole_55 hR F  m _ _ _ _ _ _ _ hw)
        · rw [if_neg h] at hw
          refine v_ldc2 (v := (-9000000000000000011)) F wd_1242 dX11_whole_34 ?_
          refine v_widen (c' := 0) (s' := 0) (by decide) (by decide) ?_
          exact v_lret F hw dX11_whole_37
      · rw [if_neg h] at hw
        refine v_ldc2 (v := (-9000000000000000001)) F wd_1021 dX11_whole_21 ?_
        refine v_widen (c' := 0) (s' := 0) (by decide) (by decide) ?_
        exact v_lret F hw dX11_whole_24
set_option maxRecDepth 100000 in
theorem sX11_line {l : Launch} {D : Dx} {a0 : Nat} {p1 : Int32} {p2 : Int32} {p3 : Int32} {p4 : Int32} {G : Wd} {Q : Int64 → Wd → Prop} (hw : wpX11_line a0 p1 p2 p3 p4 G Q) : Met l yX11_line (wM yX11_line cX11_line 5 (some .long)) rmX11_line (PM D [.ref a0, .int p1, .int p2, .int p3, .int p4] G) (QMl D Q) 0 0 (Ab D) := by
  refine v_met (by decide) (Nat.le_of_ble_eq_true rfl) (fun X hl hR F => ?_)
  subst hl
  have F : Fx X D cX11_line 5 RX11 (some .long) "line" := F
  refine v_cast (L' := [(0, .ref a0), (1, .int p1), (2, .int p2), (3, .int p3), (4, .int p4)]) rfl rfl ?_
  unfold wpX11_line at hw
  refine v_iload_n F dX11_line_0 rfl 1 rfl ?_
  refine v_i2l F dX11_line_1 ?_
  refine v_ldc2 (v := (-1000000)) F wd_1262 dX11_line_2 ?_
  refine v_ldc2 (v := 1000000) F wd_1263 dX11_line_5 ?_
  refine v_calli (r_S F ls_X11_145 (sX11_isIn hw) (mkRm hR rfl rfl rfl rfl rfl rfl) rfl rfl (Nat.le_of_ble_eq_true rfl) dX11_line_8) (fun r1 G2 hw => ?_)
  refine v_if_eq (tgt := 41) F dX11_line_11 (by decide) (fun h => ?_) (fun h => ?_)
  · rw [if_pos h] at hw
    refine v_ldc2 (v := (-9000000000000000001)) F wd_1021 dX11_line_41 ?_
    refine v_widen (c' := 0) (s' := 0) (by decide) (by decide) ?_
    exact v_lret F hw dX11_line_44
  · rw [if_neg h] at hw
    refine v_iload_n F dX11_line_14 rfl 2 rfl ?_
    refine v_i2l F dX11_line_15 ?_
    refine v_lconst (v := 0) F dX11_line_16 rfl ?_
    refine v_ldc2 (v := 9) F wd_1264 dX11_line_17 ?_
    refine v_calli (r_S F ls_X11_145 (sX11_isIn hw) (mkRm hR rfl rfl rfl rfl rfl rfl) rfl rfl (Nat.le_of_ble_eq_true rfl) dX11_line_20) (fun r3 G4 hw => ?_)
    refine v_if_eq (tgt := 41) F dX11_line_23 (by decide) (fun h => ?_) (fun h => ?_)
    · rw [if_pos h] at hw
      refine v_ldc2 (v := (-9000000000000000001)) F wd_1021 dX11_line_41 ?_
      refine v_widen (c' := 0) (s' := 0) (by decide) (by decide) ?_
      exact v_lret F hw dX11_line_44
    · rw [if_neg h] at hw
      refine v_iload_n F dX11_line_26 rfl 3 rfl ?_
      refine v_calli (r_S F ls_X11_151 (sX11_isPlace hw) (mkRm hR rfl rfl rfl rfl rfl rfl) rfl rfl (Nat.le_of_ble_eq_true rfl) dX11_line_27) (fun r5 G6 hw => ?_)
      refine v_if_eq (tgt := 41) F dX11_line_30 (by decide) (fun h => ?_) (fun h => ?_)
      · rw [if_pos h] at hw
        refine v_ldc2 (v := (-9000000000000000001)) F wd_1021 dX11_line_41 ?_
        refine v_widen (c' := 0) (s' := 0) (by decide) (by decide) ?_
        exact v_lret F hw dX11_line_44
      · rw [if_neg h] at hw
        refine v_iload F dX11_line_33 4 rfl ?_
        refine v_calli (r_S F ls_X11_195 (sX11_isDay hw) (mkRm hR rfl rfl rfl rfl rfl rfl) rfl rfl (Nat.le_of_ble_eq_true rfl) dX11_line_35) (fun r7 G8 hw => ?_)
        refine v_if_ne (tgt := 45) F dX11_line_38 (by decide) (fun h => ?_) (fun h => ?_)
        · rw [if_neg h] at hw
          refine v_aload_n F dX11_line_45 rfl 0 rfl ?_
          obtain ⟨kd9, hw⟩ := hw
          refine v_get F fl_X11_336 kd9 rfl dX11_line_46 ?_
          refine v_bipush (v := 20) F dX11_line_49 (by decide) ?_
          refine v_icmp_ne (tgt := 58) F dX11_line_51 (by decide) (fun h => ?_) (fun h => ?_)
          · rw [if_neg h] at hw
            refine v_aload_n F dX11_line_58 rfl 0 rfl ?_
            obtain ⟨b10, hr11, hw⟩ := hw
            refine v_getS F fl_X11_53 (fun _ => rfl) kd9 hr11 dX11_line_59 ?_
            refine v_aload_n F dX11_line_62 rfl 0 rfl ?_
            refine v_get F fl_X11_336 kd9 rfl dX11_line_63 ?_
            refine v_iload_n F dX11_line_66 rfl 1 rfl ?_
            obtain ⟨kd12, hw⟩ := hw
            obtain ⟨hi13, hw⟩ := hw
            refine v_iastE F rfl kd12 hi13 dX11_line_67 (fun G14 hG14 => ?_)
            have hw := hw G14 hG14
            refine v_aload_n F dX11_line_68 rfl 0 rfl ?_
            have kd15 : gK G14 a0 = 11 := by rw [hG14]; exact kd9
            obtain ⟨b16, hr17, hw⟩ := hw
            refine v_getS F fl_X11_56 (fun _ => rfl) kd15 hr17 dX11_line_69 ?_
            refine v_aload_n F dX11_line_72 rfl 0 rfl ?_
            refine v_get F fl_X11_336 kd15 rfl dX11_line_73 ?_
            refine v_iload_n F dX11_line_76 rfl 2 rfl ?_
            obtain ⟨kd18, hw⟩ := hw
            obtain ⟨hi19, hw⟩ := hw
            refine v_iastE F rfl kd18 hi19 dX11_line_77 (fun G20 hG20 => ?_)
            have hw := hw G20 hG20
            refine v_aload_n F dX11_line_78 rfl 0 rfl ?_
            have kd21 : gK G20 a0 = 11 := by rw [hG20]; exact kd15
            obtain ⟨b22, hr23, hw⟩ := hw
            refine v_getS F fl_X11_59 (fun _ => rfl) kd21 hr23 dX11_line_79 ?_
            refine v_aload_n F dX11_line_82 rfl 0 rfl ?_
            refine v_get F fl_X11_336 kd21 rfl dX11_line_83 ?_
            refine v_iload_n F dX11_line_86 rfl 3 rfl ?_
            obtain ⟨kd24, hw⟩ := hw
            obtain ⟨hi25, hw⟩ := hw
            refine v_iastE F rfl kd24 hi25 dX11_line_87 (fun G26 hG26 => ?_)
            have hw := hw G26 hG26
            refine v_aload_n F dX11_line_88 rfl 0 rfl ?_
            have kd27 : gK G26 a0 = 11 := by rw [hG26]; exact kd21
            obtain ⟨b28, hr29, hw⟩ := hw
            refine v_getS F fl_X11_62 (fun _ => rfl) kd27 hr29 dX11_line_89 ?_
            refine v_aload_n F dX11_line_92 rfl 0 rfl ?_
            refine v_get F fl_X11_336 kd27 rfl dX11_line_93 ?_
            refine v_iload F dX11_line_96 4 rfl ?_
            obtain ⟨kd30, hw⟩ := hw
            obtain ⟨hi31, hw⟩ := hw
            refine v_iastE F rfl kd30 hi31 dX11_line_98 (fun G32 hG32 => ?_)
            have hw := hw G32 hG32
            refine v_aload_n F dX11_line_99 rfl 0 rfl ?_
            refine v_dup F dX11_line_100 rfl ?_
            have kd33 : gK G32 a0 = 11 := by rw [hG32]; exact kd27
            refine v_get F fl_X11_336 kd33 rfl dX11_line_101 ?_
            refine v_iconst (v := 1) F dX11_line_104 (by decide) ?_
            refine v_iadd F dX11_line_105 ?_
            refine v_putI F fl_X11_336 (fun h => absurd h (by decide)) rfl kd33 dX11_line_106 ?_
            refine v_nmG (fun G34 hG34 => ?_)
            have hw := hw G34 hG34
            refine v_aload_n F dX11_line_109 rfl 0 rfl ?_
            have kd35 : gK G34 a0 = 11 := by rw [hG34]; exact kd33
            refine v_get F fl_X11_336 kd35 rfl dX11_line_110 ?_
            refine v_iconst (v := 1) F dX11_line_113 (by decide) ?_
            refine v_isub F dX11_line_114 ?_
            refine v_i2l F dX11_line_115 ?_
            refine v_widen (c' := 0) (s' := 0) (by decide) (by decide) ?_
            exact v_lret F hw dX11_line_116
          · rw [if_pos h] at hw
            refine v_ldc2 (v := (-9000000000000000003)) F wd_1040 dX11_line_54 ?_
            refine v_widen (c' := 0) (s' := 0) (by decide) (by decide) ?_
            exact v_lret F hw dX11_line_57
        · rw [if_pos h] at hw
          refine v_ldc2 (v := (-9000000000000000001)) F wd_1021 dX11_line_41 ?_
          refine v_widen (c' := 0) (s' := 0) (by decide) (by decide) ?_
          exact v_lret F hw dX11_line_44
set_option maxRecDepth 100000 in
theorem sX11_amend {l : Launch} {D : Dx} {a0 : Nat} {p1 : Int32} {p2 : Int32} {G : Wd} {Q : Int64 → Wd → Prop} (hw : wpX11_amend a0 p1 p2 G Q) : Met l yX11_amend (wM yX11_amend cX11_amend 5 (some .long)) rmX11_amend (PM D [.ref a0, .int p1, .int p2] G) (QMl D Q) 0 0 (Ab D) := by
  refine v_met (by decide) (Nat.le_of_ble_eq_true rfl) (fun X hl hR F => ?_)
  subst hl
  have F : Fx X D cX11_amend 5 RX11 (some .long) "amend" := F
  refine v_cast (L' := [(0, .ref a0), (1, .int p1), (2, .int p2)]) rfl rfl ?_
  unfold wpX11_amend at hw
  refine v_iload_n F dX11_amend_0 rfl 1 rfl ?_
  refine v_i2l F dX11_amend_1 ?_
  refine v_lconst (v := 0) F dX11_amend_2 rfl ?_
  refine v_aload_n F dX11_amend_3 rfl 0 rfl ?_
  obtain ⟨kd1, hw⟩ := hw
  refine v_get F fl_X11_336 kd1 rfl dX11_amend_4 ?_
  refine v_iconst (v := 1) F dX11_amend_7 (by decide) ?_
  refine v_isub F dX11_amend_8 ?_
  refine v_i2l F dX11_amend_9 ?_
  refine v_calli (r_S F ls_X11_145 (sX11_isIn hw) (mkRm hR rfl rfl rfl rfl rfl rfl) rfl rfl (Nat.le_of_ble_eq_true rfl) dX11_amend_10) (fun r2 G3 hw => ?_)
  refine v_if_eq (tgt := 30) F dX11_amend_13 (by decide) (fun h => ?_) (fun h => ?_)
  · rw [if_pos h] at hw
    refine v_ldc2 (v := (-9000000000000000001)) F wd_1021 dX11_amend_30 ?_
    refine v_widen (c' := 0) (s' := 0) (by decide) (by decide) ?_
    exact v_lret F hw dX11_amend_33
  · rw [if_neg h] at hw
    refine v_iload_n F dX11_amend_16 rfl 2 rfl ?_
    refine v_i2l F dX11_amend_17 ?_
    refine v_ldc2 (v := (-1000000)) F wd_1262 dX11_amend_18 ?_
    refine v_ldc2 (v := 1000000) F wd_1263 dX11_amend_21 ?_
    refine v_calli (r_S F ls_X11_145 (sX11_isIn hw) (mkRm hR rfl rfl rfl rfl rfl rfl) rfl rfl (Nat.le_of_ble_eq_true rfl) dX11_amend_24) (fun r4 G5 hw => ?_)
    refine v_if_ne (tgt := 34) F dX11_amend_27 (by decide) (fun h => ?_) (fun h => ?_)
    · rw [if_neg h] at hw
      refine v_aload_n F dX11_amend_34 rfl 0 rfl ?_
      obtain ⟨kd6, hw⟩ := hw
      obtain ⟨b7, hr8, hw⟩ := hw
      refine v_getS F fl_X11_53 (fun _ => rfl) kd6 hr8 dX11_amend_35 ?_
      refine v_iload_n F dX11_amend_38 rfl 1 rfl ?_
      obtain ⟨kd9, hw⟩ := hw
      obtain ⟨hi10, hw⟩ := hw
      refine v_ialdE F rfl kd9 hi10 dX11_amend_39 ?_
      refine v_i2l F dX11_amend_40 ?_
      refine v_topl (fun x11 hx11 => ?_)
      have hw := hw x11 hx11
      refine v_lstore_n (L' := [(3, .long x11), (0, .ref a0), (1, .int p1), (2, .int p2)]) F dX11_amend_41 rfl (by decide) rfl ?_
      refine v_aload_n F dX11_amend_42 rfl 1 rfl ?_
      obtain ⟨b12, hr13, hw⟩ := hw
      refine v_getS F fl_X11_53 (fun _ => rfl) kd6 hr13 dX11_amend_43 ?_
      refine v_iload_n F dX11_amend_46 rfl 2 rfl ?_
      refine v_iload_n F dX11_amend_47 rfl 3 rfl ?_
      obtain ⟨kd14, hw⟩ := hw
      obtain ⟨hi15, hw⟩ := hw
      refine v_iastE F rfl kd14 hi15 dX11_amend_48 (fun G16 hG16 => ?_)
      have hw := hw G16 hG16
      refine v_lload_n F dX11_amend_49 rfl 0 rfl ?_
      refine v_widen (c' := 0) (s' := 0) (by decide) (by decide) ?_
      exact v_lret F hw dX11_amend_50
    · rw [if_pos h] at hw
      refine v_ldc2 (v := (-9000000000000000001)) F wd_1021 dX11_amend_30 ?_
      refine v_widen (c' := 0) (s' := 0) (by decide) (by decide) ?_
      exact v_lret F hw dX11_amend_33
set_option maxRecDepth 100000 in
theorem sX11_clear {l : Launch} {D : Dx} {a0 : Nat} {G : Wd} {Q : Int64 → Wd → Prop} (hw : wpX11_clear a0 G Q) : Met l yX11_clear (wM yX11_clear cX11_clear 3 (some .long)) rmX11_clear (PM D [.ref a0] G) (QMl D Q) 0 0 (Ab D) := by
  refine v_met (by decide) (Nat.le_of_ble_eq_true rfl) (fun X hl hR F => ?_)
  subst hl
  have F : Fx X D cX11_clear 3 RX11 (some .long) "clear" := F
  refine v_cast (L' := [(0, .ref a0)]) rfl rfl ?_
  unfold wpX11_clear at hw
  refine v_aload_n F dX11_clear_0 rfl 0 rfl ?_
  obtain ⟨kd1, hw⟩ := hw
  refine v_get F fl_X11_336 kd1 rfl dX11_clear_1 ?_
  refine v_i2l F dX11_clear_4 ?_
  refine v_topl (fun x2 hx2 => ?_)
  have hw := hw x2 hx2
  refine v_lstore_n (L' := [(1, .long x2), (0, .ref a0)]) F dX11_clear_5 rfl (by decide) rfl ?_
  refine v_aload_n F dX11_clear_6 rfl 1 rfl ?_
  refine v_iconst (v := 0) F dX11_clear_7 (by decide) ?_
  refine v_putI F fl_X11_336 (fun h => absurd h (by decide)) rfl kd1 dX11_clear_8 ?_
  refine v_nmG (fun G3 hG3 => ?_)
  have hw := hw G3 hG3
  refine v_lload_n F dX11_clear_11 rfl 0 rfl ?_
  exact v_lret F hw dX11_clear_12
set_option maxRecDepth 100000 in
theorem sbX11_findEnds_68 {X : Cx} {D : Dx} (hR : X.2.2.2.1 = rmX11_findEnds) (F : Fx X D cX11_findEnds 6 RX11 (some .long) "findEnds") {Q : Int64 → Wd → Prop} {k4 : Nat → Int32 → Int32 → Int32 → Wd → Prop} (hk4 : ∀ v0 v1 v2 v3 G, k4 v0 v1 v2 v3 G → V X D 6 (ZM X D (QMl D Q) 0 0) G 0 0 4 [(0, .ref v0), (1, .int v1), (2, .int v2), (3, .int v3)] []) {v0 : Nat} {v1 : Int32} {v3 : Int32} {s0 : Int32} {G : Wd} (hw : wpX11_findEnds_68 Q k4 v0 v1 v3 s0 G) : V X D 6 (ZM X D (QMl D Q) 0 0) G 0 0 68 [(0, .ref v0), (1, .int v1), (3, .int v3)] [.int s0] := by
  unfold wpX11_findEnds_68 at hw
  refine v_istore_n (L' := [(2, .int s0), (0, .ref v0), (1, .int v1), (3, .int v3)]) F dX11_findEnds_68 rfl (by decide) rfl ?_
  refine v_aload_n F dX11_findEnds_69 rfl 1 rfl ?_
  obtain ⟨kd1, hw⟩ := hw
  obtain ⟨b2, hr3, hw⟩ := hw
  refine v_getS F fl_X11_87 (fun _ => rfl) kd1 hr3 dX11_findEnds_70 ?_
  refine v_iconst (v := 4) F dX11_findEnds_73 (by decide) ?_
  refine v_iload_n F dX11_findEnds_74 rfl 3 rfl ?_
  refine v_imul F dX11_findEnds_75 ?_
  refine v_aload_n F dX11_findEnds_76 rfl 1 rfl ?_
  refine v_get F fl_X11_215 kd1 rfl dX11_findEnds_77 ?_
  obtain ⟨kd4, hw⟩ := hw
  obtain ⟨hi5, hw⟩ := hw
  refine v_lastE F rfl kd4 hi5 dX11_findEnds_80 (fun G6 hG6 => ?_)
  have hw := hw G6 hG6
  refine v_aload_n F dX11_findEnds_81 rfl 1 rfl ?_
  have kd7 : gK G6 v0 = 11 := by rw [hG6]; exact kd1
  obtain ⟨b8, hr9, hw⟩ := hw
  refine v_getS F fl_X11_87 (fun _ => rfl) kd7 hr9 dX11_findEnds_82 ?_
  refine v_iconst (v := 4) F dX11_findEnds_85 (by decide) ?_
  refine v_iload_n F dX11_findEnds_86 rfl 3 rfl ?_
  refine v_imul F dX11_findEnds_87 ?_
  refine v_iconst (v := 1) F dX11_findEnds_88 (by decide) ?_
  refine v_iadd F dX11_findEnds_89 ?_
  refine v_aload_n F dX11_findEnds_90 rfl 1 rfl ?_
  refine v_get F fl_X11_218 kd7 rfl dX11_findEnds_91 ?_
  obtain ⟨kd10, hw⟩ := hw
  obtain ⟨hi11, hw⟩ := hw
  refine v_lastE F rfl kd10 hi11 dX11_findEnds_94 (fun G12 hG12 => ?_)
  have hw := hw G12 hG12
  refine v_aload_n F dX11_findEnds_95 rfl 1 rfl ?_
  have kd13 : gK G12 v0 = 11 := by rw [hG12]; exact kd7
  obtain ⟨b14, hr15, hw⟩ := hw
  refine v_getS F fl_X11_87 (fun _ => rfl) kd13 hr15 dX11_findEnds_96 ?_
  refine v_iconst (v := 4) F dX11_findEnds_99 (by decide) ?_
  refine v_iload_n F dX11_findEnds_100 rfl 3 rfl ?_
  refine v_imul F dX11_findEnds_101 ?_
  refine v_iconst (v := 2) F dX11_findEnds_102 (by decide) ?_
  refine v_iadd F dX11_findEnds_103 ?_
  refine v_aload_n F dX11_findEnds_104 rfl 1 rfl ?_
  refine v_get F fl_X11_225 kd13 rfl dX11_findEnds_105 ?_
  obtain ⟨kd16, hw⟩ := hw
  obtain ⟨hi17, hw⟩ := hw
  refine v_lastE F rfl kd16 hi17 dX11_findEnds_108 (fun G18 hG18 => ?_)
  have hw := hw G18 hG18
  refine v_aload_n F dX11_findEnds_109 rfl 1 rfl ?_
  have kd19 : gK G18 v0 = 11 := by rw [hG18]; exact kd13
  obtain ⟨b20, hr21, hw⟩ := hw
  refine v_getS F fl_X11_87 (fun _ => rfl) kd19 hr21 dX11_findEnds_110 ?_
  refine v_iconst (v := 4) F dX11_findEnds_113 (by decide) ?_
  refine v_iload_n F dX11_findEnds_114 rfl 3 rfl ?_
  refine v_imul F dX11_findEnds_115 ?_
  refine v_iconst (v := 3) F dX11_findEnds_116 (by decide) ?_
  refine v_iadd F dX11_findEnds_117 ?_
  refine v_aload_n F dX11_findEnds_118 rfl 1 rfl ?_
  refine v_get F fl_X11_228 kd19 rfl dX11_findEnds_119 ?_
  obtain ⟨kd22, hw⟩ := hw
  obtain ⟨hi23, hw⟩ := hw
  refine v_lastE F rfl kd22 hi23 dX11_findEnds_122 (fun G24 hG24 => ?_)
  have hw := hw G24 hG24
  refine v_iincN (c := 1) F dX11_findEnds_123 3 rfl (by decide) (by decide) (fun x25 hx25 => ?_)
  refine v_cast (L' := [(3, .int x25), (2, .int s0), (0, .ref v0), (1, .int v1)]) rfl rfl ?_
  have hw := hw x25 hx25
  refine v_goto (tgt := 4) F dX11_findEnds_126 (by decide) ?_
  exact v_loc [2, 3, 1, 0] rfl (hk4 _ _ _ _ _ hw)
set_option maxRecDepth 100000 in
theorem sbX11_findEnds_63 {X : Cx} {D : Dx} (hR : X.2.2.2.1 = rmX11_findEnds) (F : Fx X D cX11_findEnds 6 RX11 (some .long) "findEnds") {Q : Int64 → Wd → Prop} {k4 : Nat → Int32 → Int32 → Int32 → Wd → Prop} (hk4 : ∀ v0 v1 v2 v3 G, k4 v0 v1 v2 v3 G → V X D 6 (ZM X D (QMl D Q) 0 0) G 0 0 4 [(0, .ref v0), (1, .int v1), (2, .int v2), (3, .int v3)] []) {v0 : Nat} {v1 : Int32} {v3 : Int32} {G : Wd} (hw : wpX11_findEnds_63 Q k4 v0 v1 v3 G) : V X D 6 (ZM X D (QMl D Q) 0 0) G 0 0 63 [(0, .ref v0), (1, .int v1), (3, .int v3)] [] := by
  unfold wpX11_findEnds_63 at hw
  refine v_iconst (v := 1) F dX11_findEnds_63 (by decide) ?_
  refine v_goto (tgt := 68) F dX11_findEnds_64 (by decide) ?_
  exact v_loc [0, 1, 2] rfl (sbX11_findEnds_68 hR F hk4 hw)
set_option maxRecDepth 100000 in
theorem sbX11_findEnds_4 {X : Cx} {D : Dx} (hR : X.2.2.2.1 = rmX11_findEnds) (F : Fx X D cX11_findEnds 6 RX11 (some .long) "findEnds") {Q : Int64 → Wd → Prop} : ∀ (n : Nat) (v0 : Nat) (v1 : Int32) (v2 : Int32) (v3 : Int32) (G : Wd), wpX11_findEnds_4 Q  n v0 v1 v2 v3 G → V X D 6 (ZM X D (QMl D Q) 0 0) G 0 0 4 [(0, .ref v0), (1, .int v1), (2, .int v2), (3, .int v3)] [] := by
  intro n
  induction n with
  | zero => intro v0 v1 v2 v3 G hw; exact hw.elim
  | succ n ih =>
    intro v0 v1 v2 v3 G hw
    simp only [wpX11_findEnds_4] at hw
    refine v_iload_n F dX11_findEnds_4 rfl 3 rfl ?_
    refine v_aload_n F dX11_findEnds_5 rfl 0 rfl ?_
    obtain ⟨kd26, hw⟩ := hw
    refine v_get F fl_X11_336 kd26 rfl dX11_findEnds_6 ?_
    refine v_icmp_ge (tgt := 129) F dX11_findEnds_9 (by decide) (fun h => ?_) (fun h => ?_)
    · rw [if_pos h] at hw
      refine v_iload_n F dX11_findEnds_129 rfl 2 rfl ?_
      refine v_if_eq (tgt := 139) F dX11_findEnds_130 (by decide) (fun h => ?_) (fun h => ?_)
      · rw [if_pos h] at hw
        refine v_lconst (v := 0) F dX11_findEnds_139 rfl ?_
        exact v_lret F hw dX11_findEnds_140
      · rw [if_neg h] at hw
        refine v_ldc2 (v := (-9000000000000000004)) F wd_1180 dX11_findEnds_133 ?_
        refine v_goto (tgt := 140) F dX11_findEnds_136 (by decide) ?_
        exact v_lret F hw dX11_findEnds_140
    · rw [if_neg h] at hw
      refine v_aload_n F dX11_findEnds_12 rfl 0 rfl ?_
      refine v_aload_n F dX11_findEnds_13 rfl 0 rfl ?_
      obtain ⟨b27, hr28, hw⟩ := hw
      refine v_getS F fl_X11_56 (fun _ => rfl) kd26 hr28 dX11_findEnds_14 ?_
      refine v_iload_n F dX11_findEnds_17 rfl 3 rfl ?_
      obtain ⟨kd29, hw⟩ := hw
      obtain ⟨hi30, hw⟩ := hw
      refine v_ialdE F rfl kd29 hi30 dX11_findEnds_18 ?_
      refine v_iload_n F dX11_findEnds_19 rfl 1 rfl ?_
      refine v_aload_n F dX11_findEnds_20 rfl 0 rfl ?_
      obtain ⟨b31, hr32, hw⟩ := hw
      refine v_getS F fl_X11_59 (fun _ => rfl) kd26 hr32 dX11_findEnds_21 ?_
      refine v_iload_n F dX11_findEnds_24 rfl 3 rfl ?_
      obtain ⟨kd33, hw⟩ := hw
      obtain ⟨hi34, hw⟩ := hw
      refine v_ialdE F rfl kd33 hi34 dX11_findEnds_25 ?_
      refine v_aload_n F dX11_findEnds_26 rfl 0 rfl ?_
      obtain ⟨b35, hr36, hw⟩ := hw
      refine v_getS F fl_X11_62 (fun _ => rfl) kd26 hr36 dX11_findEnds_27 ?_
      refine v_iload_n F dX11_findEnds_30 rfl 3 rfl ?_
      obtain ⟨kd37, hw⟩ := hw
      obtain ⟨hi38, hw⟩ := hw
      refine v_ialdE F rfl kd37 hi38 dX11_findEnds_31 ?_
      refine v_calll (r_V F lk_X11_277 kd26 (sX11_theWay hw) (mkRm hR rfl rfl rfl rfl rfl rfl) rfl rfl (Nat.le_of_ble_eq_true rfl) dX11_findEnds_32) (fun r39 G40 hw => ?_)
      refine v_lstore (L' := [(4, .long r39), (0, .ref v0), (1, .int v1), (2, .int v2), (3, .int v3)]) F dX11_findEnds_35 (by decide) rfl ?_
      refine v_lload F dX11_findEnds_37 0 rfl ?_
      refine v_ldc2 (v := (-9000000000000000005)) F wd_1168 dX11_findEnds_39 ?_
      refine v_lcmp F dX11_findEnds_42 ?_
      refine v_lif_ne (tgt := 50) F dX11_findEnds_43 (by decide) (fun h => ?_) (fun h => ?_)
      · rw [if_neg h] at hw
        refine v_iload_n F dX11_findEnds_50 rfl 3 rfl ?_
        refine v_if_ne (tgt := 63) F dX11_findEnds_51 (by decide) (fun h => ?_) (fun h => ?_)
        · rw [if_neg h] at hw
          exact v_loc [1, 2, 4] rfl (sbX11_findEnds_63 hR F ih hw)
        · rw [if_pos h] at hw
          refine v_lload F dX11_findEnds_54 0 rfl ?_
          refine v_ldc2 (v := (-9000000000000000004)) F wd_1180 dX11_findEnds_56 ?_
          refine v_lcmp F dX11_findEnds_59 ?_
          refine v_lif_ne (tgt := 67) F dX11_findEnds_60 (by decide) (fun h => ?_) (fun h => ?_)
          · rw [if_neg h] at hw
            refine v_iconst (v := 0) F dX11_findEnds_67 (by decide) ?_
            exact v_loc [1, 2, 4] rfl (sbX11_findEnds_68 hR F ih hw)
          · rw [if_pos h] at hw
            exact v_loc [1, 2, 4] rfl (sbX11_findEnds_63 hR F ih hw)
      · rw [if_pos h] at hw
        refine v_ldc2 (v := (-9000000000000000005)) F wd_1168 dX11_findEnds_46 ?_
        refine v_widen (c' := 0) (s' := 0) (by decide) (by decide) ?_
        exact v_lret F hw dX11_findEnds_49
set_option maxRecDepth 100000 in
theorem sX11_findEnds {l : Launch} {D : Dx} {a0 : Nat} {p1 : Int32} {G : Wd} {Q : Int64 → Wd → Prop} (hw : wpX11_findEnds a0 p1 G Q) : Met l yX11_findEnds (wM yX11_findEnds cX11_findEnds 6 (some .long)) rmX11_findEnds (PM D [.ref a0, .int p1] G) (QMl D Q) 0 0 (Ab D) := by
  refine v_met (by decide) (Nat.le_of_ble_eq_true rfl) (fun X hl hR F => ?_)
  subst hl
  have F : Fx X D cX11_findEnds 6 RX11 (some .long) "findEnds" := F
  refine v_cast (L' := [(0, .ref a0), (1, .int p1)]) rfl rfl ?_
  unfold wpX11_findEnds at hw
  refine v_iconst (v := 0) F dX11_findEnds_0 (by decide) ?_
  refine v_istore_n (L' := [(2, .int 0), (0, .ref a0), (1, .int p1)]) F dX11_findEnds_1 rfl (by decide) rfl ?_
  refine v_iconst (v := 0) F dX11_findEnds_2 (by decide) ?_
  refine v_istore_n (L' := [(3, .int 0), (2, .int 0), (0, .ref a0), (1, .int p1)]) F dX11_findEnds_3 rfl (by decide) rfl ?_
  obtain ⟨m, hw⟩ := hw
  exact v_loc [2, 3, 1, 0] rfl (sbX11_findEnds_4 hR F  m _ _ _ _ _ hw)
set_option maxRecDepth 100000 in
theorem sbX11_totalOf_150 {X : Cx} {D : Dx} (hR : X.2.2.2.1 = rmX11_totalOf) (F : Fx X D cX11_totalOf 15 RX11 none "totalOf") {Q : Wd → Prop} {v0 : Nat} {v4 : Int64} {v6 : Int64} {G : Wd} (hw : wpX11_totalOf_150 Q  v0 v4 v6 G) : V X D 15 (ZM X D (QMv D Q) 0 0) G 0 0 150 [(0, .ref v0), (4, .long v4), (6, .long v6)] [] := by
  unfold wpX11_totalOf_150 at hw
  refine v_aload_n F dX11_totalOf_150 rfl 0 rfl ?_
  refine v_lload F dX11_totalOf_151 1 rfl ?_
  obtain ⟨kd1, hw⟩ := hw
  refine v_putJ F fl_X11_94 (fun h => absurd h (by decide)) rfl kd1 dX11_totalOf_153 ?_
  refine v_nmG (fun G2 hG2 => ?_)
  have hw := hw G2 hG2
  refine v_aload_n F dX11_totalOf_156 rfl 0 rfl ?_
  refine v_lload F dX11_totalOf_157 2 rfl ?_
  have kd3 : gK G2 v0 = 11 := by rw [hG2]; exact kd1
  refine v_putJ F fl_X11_98 (fun h => absurd h (by decide)) rfl kd3 dX11_totalOf_159 ?_
  refine v_nmG (fun G4 hG4 => ?_)
  have hw := hw G4 hG4
  exact v_vret F hw dX11_totalOf_162
set_option maxRecDepth 100000 in
theorem sbX11_totalOf_132 {X : Cx} {D : Dx} (hR : X.2.2.2.1 = rmX11_totalOf) (F : Fx X D cX11_totalOf 15 RX11 none "totalOf") {Q : Wd → Prop} {k9 : Nat → Int32 → Int32 → Int32 → Int64 → Int64 → Int32 → Wd → Prop} (hk9 : ∀ v0 v1 v2 v3 v4 v6 v8 G, k9 v0 v1 v2 v3 v4 v6 v8 G → V X D 15 (ZM X D (QMv D Q) 0 0) G 0 0 9 [(0, .ref v0), (1, .int v1), (2, .int v2), (3, .int v3), (4, .long v4), (6, .long v6), (8, .int v8)] []) {v0 : Nat} {v1 : Int32} {v2 : Int32} {v3 : Int32} {v8 : Int32} {G : Wd} (hw : wpX11_totalOf_132 Q k9 v0 v1 v2 v3 v8 G) : V X D 15 (ZM X D (QMv D Q) 0 0) G 0 0 132 [(0, .ref v0), (1, .int v1), (2, .int v2), (3, .int v3), (8, .int v8)] [] := by
  unfold wpX11_totalOf_132 at hw
  refine v_aload_n F dX11_totalOf_132 rfl 0 rfl ?_
  obtain ⟨kd5, hw⟩ := hw
  refine v_get F fl_X11_94 kd5 rfl dX11_totalOf_133 ?_
  refine v_topl (fun x6 hx6 => ?_)
  have hw := hw x6 hx6
  refine v_lstore (L' := [(4, .long x6), (0, .ref v0), (1, .int v1), (2, .int v2), (3, .int v3), (8, .int v8)]) F dX11_totalOf_136 (by decide) rfl ?_
  refine v_aload_n F dX11_totalOf_138 rfl 1 rfl ?_
  refine v_get F fl_X11_98 kd5 rfl dX11_totalOf_139 ?_
  refine v_topl (fun x7 hx7 => ?_)
  have hw := hw x7 hx7
  refine v_lstore (L' := [(6, .long x7), (4, .long x6), (0, .ref v0), (1, .int v1), (2, .int v2), (3, .int v3), (8, .int v8)]) F dX11_totalOf_142 (by decide) rfl ?_
  refine v_iincN (c := 1) F dX11_totalOf_144 6 rfl (by decide) (by decide) (fun x8 hx8 => ?_)
  refine v_cast (L' := [(8, .int x8), (6, .long x7), (4, .long x6), (0, .ref v0), (1, .int v1), (2, .int v2), (3, .int v3)]) rfl rfl ?_
  have hw := hw x8 hx8
  refine v_goto (tgt := 9) F dX11_totalOf_147 (by decide) ?_
  exact v_loc [3, 4, 5, 6, 2, 1, 0] rfl (hk9 _ _ _ _ _ _ _ _ hw)
set_option maxRecDepth 100000 in
theorem sbX11_totalOf_61 {X : Cx} {D : Dx} (hR : X.2.2.2.1 = rmX11_totalOf) (F : Fx X D cX11_totalOf 15 RX11 none "totalOf") {Q : Wd → Prop} {k9 : Nat → Int32 → Int32 → Int32 → Int64 → Int64 → Int32 → Wd → Prop} (hk9 : ∀ v0 v1 v2 v3 v4 v6 v8 G, k9 v0 v1 v2 v3 v4 v6 v8 G → V X D 15 (ZM X D (QMv D Q) 0 0) G 0 0 9 [(0, .ref v0), (1, .int v1), (2, .int v2), (3, .int v3), (4, .long v4), (6, .long v6), (8, .int v8)] []) {v0 : Nat} {v1 : Int32} {v2 : Int32} {v3 : Int32} {v4 : Int64} {v6 : Int64} {v8 : Int32} {v9 : Int32} {s0 : Int32} {s1 : Int32} {s2 : Int32} {G : Wd} (hw : wpX11_totalOf_61 Q k9 v0 v1 v2 v3 v4 v6 v8 v9 s0 s1 s2 G) : V X D 15 (ZM X D (QMv D Q) 0 0) G 0 0 61 [(0, .ref v0), (1, .int v1), (2, .int v2), (3, .int v3), (4, .long v4), (6, .long v6), (8, .int v8), (9, .int v9)] [.int s2, .int s1, .int s0] := by
  unfold wpX11_totalOf_61 at hw
  refine v_imul F dX11_totalOf_61 ?_
  refine v_iadd F dX11_totalOf_62 ?_
  refine v_topi (fun x9 hx9 => ?_)
  have hw := hw x9 hx9
  refine v_istore (L' := [(10, .int x9), (0, .ref v0), (1, .int v1), (2, .int v2), (3, .int v3), (4, .long v4), (6, .long v6), (8, .int v8), (9, .int v9)]) F dX11_totalOf_63 (by decide) rfl ?_
  refine v_aload_n F dX11_totalOf_65 rfl 1 rfl ?_
  refine v_aload_n F dX11_totalOf_66 rfl 1 rfl ?_
  obtain ⟨kd10, hw⟩ := hw
  obtain ⟨b11, hr12, hw⟩ := hw
  refine v_getS F fl_X11_87 (fun _ => rfl) kd10 hr12 dX11_totalOf_67 ?_
  refine v_iload F dX11_totalOf_70 0 rfl ?_
  obtain ⟨kd13, hw⟩ := hw
  obtain ⟨hi14, hw⟩ := hw
  refine v_laldE F rfl kd13 hi14 dX11_totalOf_72 ?_
  refine v_aload_n F dX11_totalOf_73 rfl 1 rfl ?_
  obtain ⟨b15, hr16, hw⟩ := hw
  refine v_getS F fl_X11_87 (fun _ => rfl) kd10 hr16 dX11_totalOf_74 ?_
  refine v_iload F dX11_totalOf_77 0 rfl ?_
  refine v_iconst (v := 1) F dX11_totalOf_79 (by decide) ?_
  refine v_iadd F dX11_totalOf_80 ?_
  obtain ⟨kd17, hw⟩ := hw
  obtain ⟨hi18, hw⟩ := hw
  refine v_laldE F rfl kd17 hi18 dX11_totalOf_81 ?_
  refine v_callv (r_V F lk_X11_186 kd10 (sX11_set hw) (mkRm hR rfl rfl rfl rfl rfl rfl) rfl rfl (Nat.le_of_ble_eq_true rfl) dX11_totalOf_82) (fun G20 hw => ?_)
  refine v_aload_n F dX11_totalOf_85 rfl 1 rfl ?_
  refine v_iload F dX11_totalOf_86 8 rfl ?_
  refine v_i2l F dX11_totalOf_88 ?_
  refine v_lconst (v := 1) F dX11_totalOf_89 rfl ?_
  obtain ⟨kd21, hw⟩ := hw
  refine v_callv (r_V F lk_X11_202 kd21 (sX11_times hw) (mkRm hR rfl rfl rfl rfl rfl rfl) rfl rfl (Nat.le_of_ble_eq_true rfl) dX11_totalOf_90) (fun G23 hw => ?_)
  refine v_aload_n F dX11_totalOf_93 rfl 1 rfl ?_
  obtain ⟨kd24, hw⟩ := hw
  refine v_get F fl_X11_94 kd24 rfl dX11_totalOf_94 ?_
  refine v_topl (fun x25 hx25 => ?_)
  have hw := hw x25 hx25
  refine v_lstore (L' := [(11, .long x25), (10, .int x9), (0, .ref v0), (1, .int v1), (2, .int v2), (3, .int v3), (4, .long v4), (6, .long v6), (8, .int v8), (9, .int v9)]) F dX11_totalOf_97 (by decide) rfl ?_
  refine v_aload_n F dX11_totalOf_99 rfl 2 rfl ?_
  refine v_get F fl_X11_98 kd24 rfl dX11_totalOf_100 ?_
  refine v_topl (fun x26 hx26 => ?_)
  have hw := hw x26 hx26
  refine v_lstore (L' := [(13, .long x26), (11, .long x25), (10, .int x9), (0, .ref v0), (1, .int v1), (2, .int v2), (3, .int v3), (4, .long v4), (6, .long v6), (8, .int v8), (9, .int v9)]) F dX11_totalOf_103 (by decide) rfl ?_
  refine v_aload_n F dX11_totalOf_105 rfl 3 rfl ?_
  refine v_lload F dX11_totalOf_106 7 rfl ?_
  refine v_putJ F fl_X11_94 (fun h => absurd h (by decide)) rfl kd24 dX11_totalOf_108 ?_
  refine v_nmG (fun G27 hG27 => ?_)
  have hw := hw G27 hG27
  refine v_aload_n F dX11_totalOf_111 rfl 3 rfl ?_
  refine v_lload F dX11_totalOf_112 8 rfl ?_
  have kd28 : gK G27 v0 = 11 := by rw [hG27]; exact kd24
  refine v_putJ F fl_X11_98 (fun h => absurd h (by decide)) rfl kd28 dX11_totalOf_114 ?_
  refine v_nmG (fun G29 hG29 => ?_)
  have hw := hw G29 hG29
  refine v_aload_n F dX11_totalOf_117 rfl 3 rfl ?_
  have kd30 : gK G29 v0 = 11 := by rw [hG29]; exact kd28
  refine v_get F fl_X11_103 kd30 rfl dX11_totalOf_118 ?_
  refine v_if_ne (tgt := 132) F dX11_totalOf_121 (by decide) (fun h => ?_) (fun h => ?_)
  · rw [if_neg h] at hw
    exact v_loc [3, 4, 5, 6, 9] rfl (sbX11_totalOf_132 hR F hk9 hw)
  · rw [if_pos h] at hw
    refine v_aload_n F dX11_totalOf_124 rfl 3 rfl ?_
    refine v_lload F dX11_totalOf_125 1 rfl ?_
    refine v_lload F dX11_totalOf_127 0 rfl ?_
    refine v_callv (r_V F lk_X11_339 kd30 (sX11_plus hw) (mkRm hR rfl rfl rfl rfl rfl rfl) rfl rfl (Nat.le_of_ble_eq_true rfl) dX11_totalOf_129) (fun G32 hw => ?_)
    exact v_loc [3, 4, 5, 6, 9] rfl (sbX11_totalOf_132 hR F hk9 hw)
set_option maxRecDepth 100000 in
theorem sbX11_totalOf_42 {X : Cx} {D : Dx} (hR : X.2.2.2.1 = rmX11_totalOf) (F : Fx X D cX11_totalOf 15 RX11 none "totalOf") {Q : Wd → Prop} {k9 : Nat → Int32 → Int32 → Int32 → Int64 → Int64 → Int32 → Wd → Prop} (hk9 : ∀ v0 v1 v2 v3 v4 v6 v8 G, k9 v0 v1 v2 v3 v4 v6 v8 G → V X D 15 (ZM X D (QMv D Q) 0 0) G 0 0 9 [(0, .ref v0), (1, .int v1), (2, .int v2), (3, .int v3), (4, .long v4), (6, .long v6), (8, .int v8)] []) {v0 : Nat} {v1 : Int32} {v2 : Int32} {v3 : Int32} {v4 : Int64} {v6 : Int64} {v8 : Int32} {s0 : Int32} {G : Wd} (hw : wpX11_totalOf_42 Q k9 v0 v1 v2 v3 v4 v6 v8 s0 G) : V X D 15 (ZM X D (QMv D Q) 0 0) G 0 0 42 [(0, .ref v0), (1, .int v1), (2, .int v2), (3, .int v3), (4, .long v4), (6, .long v6), (8, .int v8)] [.int s0] := by
  unfold wpX11_totalOf_42 at hw
  refine v_istore (L' := [(9, .int s0), (0, .ref v0), (1, .int v1), (2, .int v2), (3, .int v3), (4, .long v4), (6, .long v6), (8, .int v8)]) F dX11_totalOf_42 (by decide) rfl ?_
  refine v_iconst (v := 4) F dX11_totalOf_44 (by decide) ?_
  refine v_iload F dX11_totalOf_45 7 rfl ?_
  refine v_imul F dX11_totalOf_47 ?_
  refine v_iconst (v := 2) F dX11_totalOf_48 (by decide) ?_
  refine v_iload F dX11_totalOf_49 0 rfl ?_
  refine v_if_ge (tgt := 60) F dX11_totalOf_51 (by decide) (fun h => ?_) (fun h => ?_)
  · rw [if_pos h] at hw
    refine v_iload_n F dX11_totalOf_60 rfl 2 rfl ?_
    exact v_loc [1, 2, 3, 4, 5, 6, 7, 0] rfl (sbX11_totalOf_61 hR F hk9 hw)
  · rw [if_neg h] at hw
    refine v_iconst (v := 1) F dX11_totalOf_54 (by decide) ?_
    refine v_iload_n F dX11_totalOf_55 rfl 2 rfl ?_
    refine v_isub F dX11_totalOf_56 ?_
    refine v_goto (tgt := 61) F dX11_totalOf_57 (by decide) ?_
    exact v_loc [1, 2, 3, 4, 5, 6, 7, 0] rfl (sbX11_totalOf_61 hR F hk9 hw)
set_option maxRecDepth 100000 in
theorem sbX11_totalOf_9 {X : Cx} {D : Dx} (hR : X.2.2.2.1 = rmX11_totalOf) (F : Fx X D cX11_totalOf 15 RX11 none "totalOf") {Q : Wd → Prop} : ∀ (n : Nat) (v0 : Nat) (v1 : Int32) (v2 : Int32) (v3 : Int32) (v4 : Int64) (v6 : Int64) (v8 : Int32) (G : Wd), wpX11_totalOf_9 Q  n v0 v1 v2 v3 v4 v6 v8 G → V X D 15 (ZM X D (QMv D Q) 0 0) G 0 0 9 [(0, .ref v0), (1, .int v1), (2, .int v2), (3, .int v3), (4, .long v4), (6, .long v6), (8, .int v8)] [] := by
  intro n
  induction n with
  | zero => intro v0 v1 v2 v3 v4 v6 v8 G hw; exact hw.elim
  | succ n ih =>
    intro v0 v1 v2 v3 v4 v6 v8 G hw
    simp only [wpX11_totalOf_9] at hw
    refine v_iload F dX11_totalOf_9 6 rfl ?_
    refine v_aload_n F dX11_totalOf_11 rfl 0 rfl ?_
    obtain ⟨kd33, hw⟩ := hw
    refine v_get F fl_X11_336 kd33 rfl dX11_totalOf_12 ?_
    refine v_icmp_ge (tgt := 150) F dX11_totalOf_15 (by decide) (fun h => ?_) (fun h => ?_)
    · rw [if_pos h] at hw
      exact v_loc [0, 4, 5] rfl (sbX11_totalOf_150 hR F  hw)
    · rw [if_neg h] at hw
      refine v_aload_n F dX11_totalOf_18 rfl 0 rfl ?_
      refine v_get F fl_X11_103 kd33 rfl dX11_totalOf_19 ?_
      refine v_if_ne (tgt := 150) F dX11_totalOf_22 (by decide) (fun h => ?_) (fun h => ?_)
      · rw [if_neg h] at hw
        exact v_loc [0, 4, 5] rfl (sbX11_totalOf_150 hR F  hw)
      · rw [if_pos h] at hw
        refine v_iload F dX11_totalOf_25 6 rfl ?_
        refine v_iload_n F dX11_totalOf_27 rfl 2 rfl ?_
        refine v_icmp_ne (tgt := 35) F dX11_totalOf_28 (by decide) (fun h => ?_) (fun h => ?_)
        · rw [if_neg h] at hw
          refine v_aload_n F dX11_totalOf_35 rfl 0 rfl ?_
          obtain ⟨b34, hr35, hw⟩ := hw
          refine v_getS F fl_X11_53 (fun _ => rfl) kd33 hr35 dX11_totalOf_36 ?_
          refine v_iload F dX11_totalOf_39 6 rfl ?_
          obtain ⟨kd36, hw⟩ := hw
          obtain ⟨hi37, hw⟩ := hw
          refine v_ialdE F rfl kd36 hi37 dX11_totalOf_41 ?_
          exact v_loc [0, 1, 2, 3, 4, 5, 6] rfl (sbX11_totalOf_42 hR F ih hw)
        · rw [if_pos h] at hw
          refine v_iload_n F dX11_totalOf_31 rfl 3 rfl ?_
          refine v_goto (tgt := 42) F dX11_totalOf_32 (by decide) ?_
          exact v_loc [0, 1, 2, 3, 4, 5, 6] rfl (sbX11_totalOf_42 hR F ih hw)
set_option maxRecDepth 100000 in
theorem sX11_totalOf {l : Launch} {D : Dx} {a0 : Nat} {p1 : Int32} {p2 : Int32} {p3 : Int32} {G : Wd} {Q : Wd → Prop} (hw : wpX11_totalOf a0 p1 p2 p3 G Q) : Met l yX11_totalOf (wM yX11_totalOf cX11_totalOf 15 none) rmX11_totalOf (PM D [.ref a0, .int p1, .int p2, .int p3] G) (QMv D Q) 0 0 (Ab D) := by
  refine v_met (by decide) (Nat.le_of_ble_eq_true rfl) (fun X hl hR F => ?_)
  subst hl
  have F : Fx X D cX11_totalOf 15 RX11 none "totalOf" := F
  refine v_cast (L' := [(0, .ref a0), (1, .int p1), (2, .int p2), (3, .int p3)]) rfl rfl ?_
  unfold wpX11_totalOf at hw
  refine v_lconst (v := 0) F dX11_totalOf_0 rfl ?_
  refine v_lstore (L' := [(4, .long 0), (0, .ref a0), (1, .int p1), (2, .int p2), (3, .int p3)]) F dX11_totalOf_1 (by decide) rfl ?_
  refine v_lconst (v := 1) F dX11_totalOf_3 rfl ?_
  refine v_lstore (L' := [(6, .long 1), (4, .long 0), (0, .ref a0), (1, .int p1), (2, .int p2), (3, .int p3)]) F dX11_totalOf_4 (by decide) rfl ?_
  refine v_iconst (v := 0) F dX11_totalOf_6 (by decide) ?_
  refine v_istore (L' := [(8, .int 0), (6, .long 1), (4, .long 0), (0, .ref a0), (1, .int p1), (2, .int p2), (3, .int p3)]) F dX11_totalOf_7 (by decide) rfl ?_
  obtain ⟨m, hw⟩ := hw
  exact v_loc [3, 4, 5, 6, 2, 1, 0] rfl (sbX11_totalOf_9 hR F  m _ _ _ _ _ _ _ _ hw)
set_option maxRecDepth 100000 in
theorem sbX11_bothEnds_42 {X : Cx} {D : Dx} (hR : X.2.2.2.1 = rmX11_bothEnds) (F : Fx X D cX11_bothEnds 3 RX11 (some .long) "bothEnds") {Q : Int64 → Wd → Prop} {v0 : Nat} {G : Wd} (hw : wpX11_bothEnds_42 Q  v0 G) : V X D 3 (ZM X D (QMl D Q) 0 0) G 0 0 42 [(0, .ref v0)] [] := by
  unfold wpX11_bothEnds_42 at hw
  refine v_aload_n F dX11_bothEnds_42 rfl 0 rfl ?_
  refine v_aload_n F dX11_bothEnds_43 rfl 0 rfl ?_
  obtain ⟨kd1, hw⟩ := hw
  refine v_get F fl_X11_94 kd1 rfl dX11_bothEnds_44 ?_
  refine v_putJ F fl_X11_225 (fun h => absurd h (by decide)) rfl kd1 dX11_bothEnds_47 ?_
  refine v_nmG (fun G2 hG2 => ?_)
  have hw := hw G2 hG2
  refine v_aload_n F dX11_bothEnds_50 rfl 0 rfl ?_
  refine v_aload_n F dX11_bothEnds_51 rfl 0 rfl ?_
  have kd3 : gK G2 v0 = 11 := by rw [hG2]; exact kd1
  refine v_get F fl_X11_98 kd3 rfl dX11_bothEnds_52 ?_
  refine v_putJ F fl_X11_228 (fun h => absurd h (by decide)) rfl kd3 dX11_bothEnds_55 ?_
  refine v_nmG (fun G4 hG4 => ?_)
  have hw := hw G4 hG4
  refine v_aload_n F dX11_bothEnds_58 rfl 0 rfl ?_
  have kd5 : gK G4 v0 = 11 := by rw [hG4]; exact kd3
  refine v_get F fl_X11_103 kd5 rfl dX11_bothEnds_59 ?_
  refine v_if_eq (tgt := 71) F dX11_bothEnds_62 (by decide) (fun h => ?_) (fun h => ?_)
  · rw [if_pos h] at hw
    refine v_lconst (v := 0) F dX11_bothEnds_71 rfl ?_
    exact v_lret F hw dX11_bothEnds_72
  · rw [if_neg h] at hw
    refine v_ldc2 (v := (-9000000000000000004)) F wd_1180 dX11_bothEnds_65 ?_
    refine v_goto (tgt := 72) F dX11_bothEnds_68 (by decide) ?_
    exact v_lret F hw dX11_bothEnds_72
set_option maxRecDepth 100000 in
theorem sX11_bothEnds {l : Launch} {D : Dx} {a0 : Nat} {p1 : Int32} {p2 : Int32} {G : Wd} {Q : Int64 → Wd → Prop} (hw : wpX11_bothEnds a0 p1 p2 G Q) : Met l yX11_bothEnds (wM yX11_bothEnds cX11_bothEnds 3 (some .long)) rmX11_bothEnds (PM D [.ref a0, .int p1, .int p2] G) (QMl D Q) 0 0 (Ab D) := by
  refine v_met (by decide) (Nat.le_of_ble_eq_true rfl) (fun X hl hR F => ?_)
  subst hl
  have F : Fx X D cX11_bothEnds 3 RX11 (some .long) "bothEnds" := F
  refine v_cast (L' := [(0, .ref a0), (1, .int p1), (2, .int p2)]) rfl rfl ?_
  unfold wpX11_bothEnds at hw
  refine v_aload_n F dX11_bothEnds_0 rfl 0 rfl ?_
  refine v_iconst (v := 0) F dX11_bothEnds_1 (by decide) ?_
  obtain ⟨kd6, hw⟩ := hw
  refine v_putZ F fl_X11_103 (fun h => absurd h (by decide)) rfl (Or.inl rfl) kd6 dX11_bothEnds_2 ?_
  refine v_nmG (fun G7 hG7 => ?_)
  have hw := hw G7 hG7
  refine v_aload_n F dX11_bothEnds_5 rfl 0 rfl ?_
  refine v_iconst (v := 0) F dX11_bothEnds_6 (by decide) ?_
  refine v_iload_n F dX11_bothEnds_7 rfl 1 rfl ?_
  refine v_iload_n F dX11_bothEnds_8 rfl 2 rfl ?_
  have kd8 : gK G7 a0 = 11 := by rw [hG7]; exact kd6
  refine v_callv (r_V F lk_X11_342 kd8 (sX11_totalOf hw) (mkRm hR rfl rfl rfl rfl rfl rfl) rfl rfl (Nat.le_of_ble_eq_true rfl) dX11_bothEnds_9) (fun G10 hw => ?_)
  refine v_aload_n F dX11_bothEnds_12 rfl 0 rfl ?_
  refine v_aload_n F dX11_bothEnds_13 rfl 0 rfl ?_
  obtain ⟨kd11, hw⟩ := hw
  refine v_get F fl_X11_94 kd11 rfl dX11_bothEnds_14 ?_
  refine v_putJ F fl_X11_215 (fun h => absurd h (by decide)) rfl kd11 dX11_bothEnds_17 ?_
  refine v_nmG (fun G12 hG12 => ?_)
  have hw := hw G12 hG12
  refine v_aload_n F dX11_bothEnds_20 rfl 0 rfl ?_
  refine v_aload_n F dX11_bothEnds_21 rfl 0 rfl ?_
  have kd13 : gK G12 a0 = 11 := by rw [hG12]; exact kd11
  refine v_get F fl_X11_98 kd13 rfl dX11_bothEnds_22 ?_
  refine v_putJ F fl_X11_218 (fun h => absurd h (by decide)) rfl kd13 dX11_bothEnds_25 ?_
  refine v_nmG (fun G14 hG14 => ?_)
  have hw := hw G14 hG14
  refine v_aload_n F dX11_bothEnds_28 rfl 0 rfl ?_
  have kd15 : gK G14 a0 = 11 := by rw [hG14]; exact kd13
  refine v_get F fl_X11_103 kd15 rfl dX11_bothEnds_29 ?_
  refine v_if_ne (tgt := 42) F dX11_bothEnds_32 (by decide) (fun h => ?_) (fun h => ?_)
  · rw [if_neg h] at hw
    exact v_loc [0] rfl (sbX11_bothEnds_42 hR F  hw)
  · rw [if_pos h] at hw
    refine v_aload_n F dX11_bothEnds_35 rfl 0 rfl ?_
    refine v_iconst (v := 1) F dX11_bothEnds_36 (by decide) ?_
    refine v_iload_n F dX11_bothEnds_37 rfl 1 rfl ?_
    refine v_iload_n F dX11_bothEnds_38 rfl 2 rfl ?_
    refine v_callv (r_V F lk_X11_342 kd15 (sX11_totalOf hw) (mkRm hR rfl rfl rfl rfl rfl rfl) rfl rfl (Nat.le_of_ble_eq_true rfl) dX11_bothEnds_39) (fun G17 hw => ?_)
    exact v_loc [0] rfl (sbX11_bothEnds_42 hR F  hw)
set_option maxRecDepth 100000 in
theorem sX11_total {l : Launch} {D : Dx} {a0 : Nat} {p1 : Int32} {p2 : Int32} {p3 : Int32} {G : Wd} {Q : Int64 → Wd → Prop} (hw : wpX11_total a0 p1 p2 p3 G Q) : Met l yX11_total (wM yX11_total cX11_total 6 (some .long)) rmX11_total (PM D [.ref a0, .int p1, .int p2, .int p3] G) (QMl D Q) 0 0 (Ab D) := by
  refine v_met (by decide) (Nat.le_of_ble_eq_true rfl) (fun X hl hR F => ?_)
  subst hl
  have F : Fx X D cX11_total 6 RX11 (some .long) "total" := F
  refine v_cast (L' := [(0, .ref a0), (1, .int p1), (2, .int p2), (3, .int p3)]) rfl rfl ?_
  unfold wpX11_total at hw
  refine v_iload_n F dX11_total_0 rfl 1 rfl ?_
  refine v_i2l F dX11_total_1 ?_
  refine v_lconst (v := 0) F dX11_total_2 rfl ?_
  refine v_ldc2 (v := 9) F wd_1264 dX11_total_3 ?_
  refine v_calli (r_S F ls_X11_145 (sX11_isIn hw) (mkRm hR rfl rfl rfl rfl rfl rfl) rfl rfl (Nat.le_of_ble_eq_true rfl) dX11_total_6) (fun r1 G2 hw => ?_)
  refine v_if_eq (tgt := 20) F dX11_total_9 (by decide) (fun h => ?_) (fun h => ?_)
  · rw [if_pos h] at hw
    refine v_ldc2 (v := (-9000000000000000001)) F wd_1021 dX11_total_20 ?_
    refine v_widen (c' := 0) (s' := 0) (by decide) (by decide) ?_
    exact v_lret F hw dX11_total_23
  · rw [if_neg h] at hw
    refine v_iload_n F dX11_total_12 rfl 2 rfl ?_
    refine v_iload_n F dX11_total_13 rfl 3 rfl ?_
    refine v_calli (r_S F ls_X11_274 (sX11_isEnd hw) (mkRm hR rfl rfl rfl rfl rfl rfl) rfl rfl (Nat.le_of_ble_eq_true rfl) dX11_total_14) (fun r3 G4 hw => ?_)
    refine v_if_ne (tgt := 24) F dX11_total_17 (by decide) (fun h => ?_) (fun h => ?_)
    · rw [if_neg h] at hw
      refine v_aload_n F dX11_total_24 rfl 0 rfl ?_
      refine v_iload_n F dX11_total_25 rfl 1 rfl ?_
      obtain ⟨kd5, hw⟩ := hw
      refine v_calll (r_V F lk_X11_346 kd5 (sX11_findEnds hw) (mkRm hR rfl rfl rfl rfl rfl rfl) rfl rfl (Nat.le_of_ble_eq_true rfl) dX11_total_26) (fun r6 G7 hw => ?_)
      refine v_lstore (L' := [(4, .long r6), (0, .ref a0), (1, .int p1), (2, .int p2), (3, .int p3)]) F dX11_total_29 (by decide) rfl ?_
      refine v_lload F dX11_total_31 0 rfl ?_
      refine v_lconst (v := 0) F dX11_total_33 rfl ?_
      refine v_lcmp F dX11_total_34 ?_
      refine v_lif_eq (tgt := 41) F dX11_total_35 (by decide) (fun h => ?_) (fun h => ?_)
      · rw [if_pos h] at hw
        refine v_aload_n F dX11_total_41 rfl 1 rfl ?_
        refine v_iconst (v := (-1)) F dX11_total_42 (by decide) ?_
        refine v_iconst (v := 0) F dX11_total_43 (by decide) ?_
        obtain ⟨kd8, hw⟩ := hw
        refine v_calll (r_V F lk_X11_350 kd8 (sX11_bothEnds hw) (mkRm hR rfl rfl rfl rfl rfl rfl) rfl rfl (Nat.le_of_ble_eq_true rfl) dX11_total_44) (fun r9 G10 hw => ?_)
        refine v_lstore (L' := [(4, .long r9), (0, .ref a0), (1, .int p1), (2, .int p2), (3, .int p3)]) F dX11_total_47 (by decide) rfl ?_
        refine v_lload F dX11_total_49 0 rfl ?_
        refine v_lconst (v := 0) F dX11_total_51 rfl ?_
        refine v_lcmp F dX11_total_52 ?_
        refine v_lif_eq (tgt := 61) F dX11_total_53 (by decide) (fun h => ?_) (fun h => ?_)
        · rw [if_pos h] at hw
          refine v_aload_n F dX11_total_61 rfl 1 rfl ?_
          refine v_iload_n F dX11_total_62 rfl 3 rfl ?_
          refine v_iload_n F dX11_total_63 rfl 4 rfl ?_
          obtain ⟨kd11, hw⟩ := hw
          refine v_calll (r_V F lk_X11_281 kd11 (sX11_endTold hw) (mkRm hR rfl rfl rfl rfl rfl rfl) rfl rfl (Nat.le_of_ble_eq_true rfl) dX11_total_64) (fun r12 G13 hw => ?_)
          refine v_widen (c' := 0) (s' := 0) (by decide) (by decide) ?_
          exact v_lret F hw dX11_total_67
        · rw [if_neg h] at hw
          refine v_lload F dX11_total_56 0 rfl ?_
          refine v_goto (tgt := 67) F dX11_total_58 (by decide) ?_
          refine v_widen (c' := 0) (s' := 0) (by decide) (by decide) ?_
          exact v_lret F hw dX11_total_67
      · rw [if_neg h] at hw
        refine v_lload F dX11_total_38 0 rfl ?_
        refine v_widen (c' := 0) (s' := 0) (by decide) (by decide) ?_
        exact v_lret F hw dX11_total_40
    · rw [if_pos h] at hw
      refine v_ldc2 (v := (-9000000000000000001)) F wd_1021 dX11_total_20 ?_
      refine v_widen (c' := 0) (s' := 0) (by decide) (by decide) ?_
      exact v_lret F hw dX11_total_23
set_option maxRecDepth 100000 in
theorem sX11_isRight {l : Launch} {D : Dx} {a0 : Nat} {p1 : Int32} {G : Wd} {Q : Int32 → Wd → Prop} (hw : wpX11_isRight a0 p1 G Q) : Met l yX11_isRight (wM yX11_isRight cX11_isRight 2 (some .boolean)) rmX11_isRight (PM D [.ref a0, .int p1] G) (QMi D Q) 0 0 (Ab D) := by
  refine v_met (by decide) (Nat.le_of_ble_eq_true rfl) (fun X hl hR F => ?_)
  subst hl
  have F : Fx X D cX11_isRight 2 RX11 (some .boolean) "isRight" := F
  refine v_cast (L' := [(0, .ref a0), (1, .int p1)]) rfl rfl ?_
  unfold wpX11_isRight at hw
  refine v_aload_n F dX11_isRight_0 rfl 0 rfl ?_
  refine v_iload_n F dX11_isRight_1 rfl 1 rfl ?_
  refine v_i2l F dX11_isRight_2 ?_
  refine v_lconst (v := 1) F dX11_isRight_3 rfl ?_
  refine v_aload_n F dX11_isRight_4 rfl 0 rfl ?_
  obtain ⟨kd1, hw⟩ := hw
  refine v_get F fl_X11_215 kd1 rfl dX11_isRight_5 ?_
  refine v_aload_n F dX11_isRight_8 rfl 0 rfl ?_
  refine v_get F fl_X11_218 kd1 rfl dX11_isRight_9 ?_
  refine v_calli (r_V F lk_X11_221 kd1 (sX11_isLess hw) (mkRm hR rfl rfl rfl rfl rfl rfl) rfl rfl (Nat.le_of_ble_eq_true rfl) dX11_isRight_12) (fun r2 G3 hw => ?_)
  refine v_if_ne (tgt := 40) F dX11_isRight_15 (by decide) (fun h => ?_) (fun h => ?_)
  · rw [if_neg h] at hw
    refine v_iconst (v := 0) F dX11_isRight_40 (by decide) ?_
    refine v_widen (c' := 0) (s' := 0) (by decide) (by decide) ?_
    exact v_zret F (Or.inl rfl) hw dX11_isRight_41
  · rw [if_pos h] at hw
    refine v_aload_n F dX11_isRight_18 rfl 0 rfl ?_
    refine v_aload_n F dX11_isRight_19 rfl 0 rfl ?_
    obtain ⟨kd4, hw⟩ := hw
    refine v_get F fl_X11_225 kd4 rfl dX11_isRight_20 ?_
    refine v_aload_n F dX11_isRight_23 rfl 0 rfl ?_
    refine v_get F fl_X11_228 kd4 rfl dX11_isRight_24 ?_
    refine v_iload_n F dX11_isRight_27 rfl 1 rfl ?_
    refine v_i2l F dX11_isRight_28 ?_
    refine v_lconst (v := 1) F dX11_isRight_29 rfl ?_
    refine v_calli (r_V F lk_X11_221 kd4 (sX11_isLess hw) (mkRm hR rfl rfl rfl rfl rfl rfl) rfl rfl (Nat.le_of_ble_eq_true rfl) dX11_isRight_30) (fun r5 G6 hw => ?_)
    refine v_if_ne (tgt := 40) F dX11_isRight_33 (by decide) (fun h => ?_) (fun h => ?_)
    · rw [if_neg h] at hw
      refine v_iconst (v := 0) F dX11_isRight_40 (by decide) ?_
      refine v_widen (c' := 0) (s' := 0) (by decide) (by decide) ?_
      exact v_zret F (Or.inl rfl) hw dX11_isRight_41
    · rw [if_pos h] at hw
      refine v_iconst (v := 1) F dX11_isRight_36 (by decide) ?_
      refine v_goto (tgt := 41) F dX11_isRight_37 (by decide) ?_
      refine v_widen (c' := 0) (s' := 0) (by decide) (by decide) ?_
      exact v_zret F (Or.inr rfl) hw dX11_isRight_41
set_option maxRecDepth 100000 in
theorem sbX11_slip_242 {X : Cx} {D : Dx} (hR : X.2.2.2.1 = rmX11_slip) (F : Fx X D cX11_slip 10 RX11 (some .long) "slip") {Q : Int64 → Wd → Prop} {k72 : Nat → Int32 → Int32 → Wd → Prop} {k81 : Nat → Int32 → Int32 → Int32 → Wd → Prop} {k98 : Nat → Int32 → Int32 → Int32 → Int32 → Wd → Prop} (hk72 : ∀ v0 v2 v5 G, k72 v0 v2 v5 G → V X D 10 (ZM X D (QMl D Q) 0 0) G 0 0 72 [(0, .ref v0), (2, .int v2), (5, .int v5)] []) (hk81 : ∀ v0 v2 v5 v6 G, k81 v0 v2 v5 v6 G → V X D 10 (ZM X D (QMl D Q) 0 0) G 0 0 81 [(0, .ref v0), (2, .int v2), (5, .int v5), (6, .int v6)] []) (hk98 : ∀ v0 v2 v5 v6 v7 G, k98 v0 v2 v5 v6 v7 G → V X D 10 (ZM X D (QMl D Q) 0 0) G 0 0 98 [(0, .ref v0), (2, .int v2), (5, .int v5), (6, .int v6), (7, .int v7)] []) {v0 : Nat} {v2 : Int32} {v5 : Int32} {v6 : Int32} {v7 : Int32} {G : Wd} (hw : wpX11_slip_242 Q k72 k81 k98 v0 v2 v5 v6 v7 G) : V X D 10 (ZM X D (QMl D Q) 0 0) G 0 0 242 [(0, .ref v0), (2, .int v2), (5, .int v5), (6, .int v6), (7, .int v7)] [] := by
  unfold wpX11_slip_242 at hw
  refine v_iincN (c := 1) F dX11_slip_242 4 rfl (by decide) (by decide) (fun x1 hx1 => ?_)
  refine v_cast (L' := [(7, .int x1), (0, .ref v0), (2, .int v2), (5, .int v5), (6, .int v6)]) rfl rfl ?_
  have hw := hw x1 hx1
  refine v_goto (tgt := 98) F dX11_slip_245 (by decide) ?_
  exact v_loc [1, 2, 3, 4, 0] rfl (hk98 _ _ _ _ _ _ hw)
set_option maxRecDepth 100000 in
theorem sbX11_slip_210 {X : Cx} {D : Dx} (hR : X.2.2.2.1 = rmX11_slip) (F : Fx X D cX11_slip 10 RX11 (some .long) "slip") {Q : Int64 → Wd → Prop} {k72 : Nat → Int32 → Int32 → Wd → Prop} {k81 : Nat → Int32 → Int32 → Int32 → Wd → Prop} {k98 : Nat → Int32 → Int32 → Int32 → Int32 → Wd → Prop} (hk72 : ∀ v0 v2 v5 G, k72 v0 v2 v5 G → V X D 10 (ZM X D (QMl D Q) 0 0) G 0 0 72 [(0, .ref v0), (2, .int v2), (5, .int v5)] []) (hk81 : ∀ v0 v2 v5 v6 G, k81 v0 v2 v5 v6 G → V X D 10 (ZM X D (QMl D Q) 0 0) G 0 0 81 [(0, .ref v0), (2, .int v2), (5, .int v5), (6, .int v6)] []) (hk98 : ∀ v0 v2 v5 v6 v7 G, k98 v0 v2 v5 v6 v7 G → V X D 10 (ZM X D (QMl D Q) 0 0) G 0 0 98 [(0, .ref v0), (2, .int v2), (5, .int v5), (6, .int v6), (7, .int v7)] []) {v0 : Nat} {v2 : Int32} {v5 : Int32} {v6 : Int32} {v7 : Int32} {s0 : Nat} {s1 : Int32} {s2 : Int32} {G : Wd} (hw : wpX11_slip_210 Q k72 k81 k98 v0 v2 v5 v6 v7 s0 s1 s2 G) : V X D 10 (ZM X D (QMl D Q) 0 0) G 0 0 210 [(0, .ref v0), (2, .int v2), (5, .int v5), (6, .int v6), (7, .int v7)] [.int s2, .int s1, .ref s0] := by
  unfold wpX11_slip_210 at hw
  obtain ⟨kd2, hw⟩ := hw
  refine v_calll (r_V F lk_X11_350 kd2 (sX11_bothEnds hw) (mkRm hR rfl rfl rfl rfl rfl rfl) rfl rfl (Nat.le_of_ble_eq_true rfl) dX11_slip_210) (fun r3 G4 hw => ?_)
  refine v_lconst (v := 0) F dX11_slip_213 rfl ?_
  refine v_lcmp F dX11_slip_214 ?_
  refine v_lif_eq (tgt := 222) F dX11_slip_215 (by decide) (fun h => ?_) (fun h => ?_)
  · rw [if_pos h] at hw
    refine v_aload_n F dX11_slip_222 rfl 0 rfl ?_
    refine v_iload_n F dX11_slip_223 rfl 1 rfl ?_
    obtain ⟨kd5, hw⟩ := hw
    refine v_calli (r_V F lk_X11_357 kd5 (sX11_isRight hw) (mkRm hR rfl rfl rfl rfl rfl rfl) rfl rfl (Nat.le_of_ble_eq_true rfl) dX11_slip_224) (fun r6 G7 hw => ?_)
    refine v_if_eq (tgt := 242) F dX11_slip_227 (by decide) (fun h => ?_) (fun h => ?_)
    · rw [if_pos h] at hw
      exact v_loc [0, 1, 2, 3, 4] rfl (sbX11_slip_242 hR F hk72 hk81 hk98 hw)
    · rw [if_neg h] at hw
      refine v_ldc2 (v := 10) F wd_1073 dX11_slip_230 ?_
      refine v_iload F dX11_slip_233 3 rfl ?_
      refine v_i2l F dX11_slip_235 ?_
      refine v_lmul F dX11_slip_236 ?_
      refine v_iload F dX11_slip_237 4 rfl ?_
      refine v_i2l F dX11_slip_239 ?_
      refine v_ladd F dX11_slip_240 ?_
      refine v_widen (c' := 0) (s' := 0) (by decide) (by decide) ?_
      exact v_lret F hw dX11_slip_241
  · rw [if_neg h] at hw
    refine v_ldc2 (v := (-9000000000000000004)) F wd_1180 dX11_slip_218 ?_
    refine v_widen (c' := 0) (s' := 0) (by decide) (by decide) ?_
    exact v_lret F hw dX11_slip_221
set_option maxRecDepth 100000 in
theorem sbX11_slip_152 {X : Cx} {D : Dx} (hR : X.2.2.2.1 = rmX11_slip) (F : Fx X D cX11_slip 10 RX11 (some .long) "slip") {Q : Int64 → Wd → Prop} {k72 : Nat → Int32 → Int32 → Wd → Prop} {k81 : Nat → Int32 → Int32 → Int32 → Wd → Prop} {k98 : Nat → Int32 → Int32 → Int32 → Int32 → Wd → Prop} (hk72 : ∀ v0 v2 v5 G, k72 v0 v2 v5 G → V X D 10 (ZM X D (QMl D Q) 0 0) G 0 0 72 [(0, .ref v0), (2, .int v2), (5, .int v5)] []) (hk81 : ∀ v0 v2 v5 v6 G, k81 v0 v2 v5 v6 G → V X D 10 (ZM X D (QMl D Q) 0 0) G 0 0 81 [(0, .ref v0), (2, .int v2), (5, .int v5), (6, .int v6)] []) (hk98 : ∀ v0 v2 v5 v6 v7 G, k98 v0 v2 v5 v6 v7 G → V X D 10 (ZM X D (QMl D Q) 0 0) G 0 0 98 [(0, .ref v0), (2, .int v2), (5, .int v5), (6, .int v6), (7, .int v7)] []) {v0 : Nat} {v2 : Int32} {v5 : Int32} {v6 : Int32} {v7 : Int32} {v8 : Int32} {s0 : Int32} {G : Wd} (hw : wpX11_slip_152 Q k72 k81 k98 v0 v2 v5 v6 v7 v8 s0 G) : V X D 10 (ZM X D (QMl D Q) 0 0) G 0 0 152 [(0, .ref v0), (2, .int v2), (5, .int v5), (6, .int v6), (7, .int v7), (8, .int v8)] [.int s0] := by
  unfold wpX11_slip_152 at hw
  refine v_istore (L' := [(9, .int s0), (0, .ref v0), (2, .int v2), (5, .int v5), (6, .int v6), (7, .int v7), (8, .int v8)]) F dX11_slip_152 (by decide) rfl ?_
  refine v_iload F dX11_slip_154 0 rfl ?_
  refine v_if_eq (tgt := 242) F dX11_slip_156 (by decide) (fun h => ?_) (fun h => ?_)
  · rw [if_pos h] at hw
    exact v_loc [1, 2, 3, 4, 5] rfl (sbX11_slip_242 hR F hk72 hk81 hk98 hw)
  · rw [if_neg h] at hw
    refine v_aload_n F dX11_slip_159 rfl 1 rfl ?_
    refine v_iload F dX11_slip_160 4 rfl ?_
    refine v_iload F dX11_slip_162 5 rfl ?_
    refine v_iconst (v := 1) F dX11_slip_164 (by decide) ?_
    refine v_icmp_ne (tgt := 175) F dX11_slip_165 (by decide) (fun h => ?_) (fun h => ?_)
    · rw [if_neg h] at hw
      refine v_iload F dX11_slip_175 5 rfl ?_
      refine v_iconst (v := 2) F dX11_slip_177 (by decide) ?_
      refine v_icmp_ne (tgt := 185) F dX11_slip_178 (by decide) (fun h => ?_) (fun h => ?_)
      · rw [if_neg h] at hw
        refine v_iload F dX11_slip_185 5 rfl ?_
        refine v_iconst (v := 3) F dX11_slip_187 (by decide) ?_
        refine v_icmp_ne (tgt := 202) F dX11_slip_188 (by decide) (fun h => ?_) (fun h => ?_)
        · rw [if_neg h] at hw
          refine v_iload F dX11_slip_202 6 rfl ?_
          refine v_bipush (v := 12) F dX11_slip_204 (by decide) ?_
          refine v_idiv F dX11_slip_206 (by decide) ?_
          refine v_bipush (v := 10) F dX11_slip_207 (by decide) ?_
          refine v_imul F dX11_slip_209 ?_
          exact v_loc [1, 2, 3, 4, 5] rfl (sbX11_slip_210 hR F hk72 hk81 hk98 hw)
        · rw [if_pos h] at hw
          refine v_iload F dX11_slip_191 6 rfl ?_
          refine v_bipush (v := 10) F dX11_slip_193 (by decide) ?_
          refine v_idiv F dX11_slip_195 (by decide) ?_
          refine v_bipush (v := 12) F dX11_slip_196 (by decide) ?_
          refine v_imul F dX11_slip_198 ?_
          refine v_goto (tgt := 210) F dX11_slip_199 (by decide) ?_
          exact v_loc [1, 2, 3, 4, 5] rfl (sbX11_slip_210 hR F hk72 hk81 hk98 hw)
      · rw [if_pos h] at hw
        refine v_iconst (v := 0) F dX11_slip_181 (by decide) ?_
        refine v_goto (tgt := 210) F dX11_slip_182 (by decide) ?_
        exact v_loc [1, 2, 3, 4, 5] rfl (sbX11_slip_210 hR F hk72 hk81 hk98 hw)
    · rw [if_pos h] at hw
      refine v_iconst (v := 2) F dX11_slip_168 (by decide) ?_
      refine v_iload F dX11_slip_169 6 rfl ?_
      refine v_imul F dX11_slip_171 ?_
      refine v_goto (tgt := 210) F dX11_slip_172 (by decide) ?_
      exact v_loc [1, 2, 3, 4, 5] rfl (sbX11_slip_210 hR F hk72 hk81 hk98 hw)
set_option maxRecDepth 100000 in
theorem sbX11_slip_147 {X : Cx} {D : Dx} (hR : X.2.2.2.1 = rmX11_slip) (F : Fx X D cX11_slip 10 RX11 (some .long) "slip") {Q : Int64 → Wd → Prop} {k72 : Nat → Int32 → Int32 → Wd → Prop} {k81 : Nat → Int32 → Int32 → Int32 → Wd → Prop} {k98 : Nat → Int32 → Int32 → Int32 → Int32 → Wd → Prop} (hk72 : ∀ v0 v2 v5 G, k72 v0 v2 v5 G → V X D 10 (ZM X D (QMl D Q) 0 0) G 0 0 72 [(0, .ref v0), (2, .int v2), (5, .int v5)] []) (hk81 : ∀ v0 v2 v5 v6 G, k81 v0 v2 v5 v6 G → V X D 10 (ZM X D (QMl D Q) 0 0) G 0 0 81 [(0, .ref v0), (2, .int v2), (5, .int v5), (6, .int v6)] []) (hk98 : ∀ v0 v2 v5 v6 v7 G, k98 v0 v2 v5 v6 v7 G → V X D 10 (ZM X D (QMl D Q) 0 0) G 0 0 98 [(0, .ref v0), (2, .int v2), (5, .int v5), (6, .int v6), (7, .int v7)] []) {v0 : Nat} {v2 : Int32} {v5 : Int32} {v6 : Int32} {v7 : Int32} {v8 : Int32} {G : Wd} (hw : wpX11_slip_147 Q k72 k81 k98 v0 v2 v5 v6 v7 v8 G) : V X D 10 (ZM X D (QMl D Q) 0 0) G 0 0 147 [(0, .ref v0), (2, .int v2), (5, .int v5), (6, .int v6), (7, .int v7), (8, .int v8)] [] := by
  unfold wpX11_slip_147 at hw
  refine v_iconst (v := 1) F dX11_slip_147 (by decide) ?_
  refine v_goto (tgt := 152) F dX11_slip_148 (by decide) ?_
  exact v_loc [0, 1, 2, 3, 4, 5] rfl (sbX11_slip_152 hR F hk72 hk81 hk98 hw)
set_option maxRecDepth 100000 in
theorem sbX11_slip_151 {X : Cx} {D : Dx} (hR : X.2.2.2.1 = rmX11_slip) (F : Fx X D cX11_slip 10 RX11 (some .long) "slip") {Q : Int64 → Wd → Prop} {k72 : Nat → Int32 → Int32 → Wd → Prop} {k81 : Nat → Int32 → Int32 → Int32 → Wd → Prop} {k98 : Nat → Int32 → Int32 → Int32 → Int32 → Wd → Prop} (hk72 : ∀ v0 v2 v5 G, k72 v0 v2 v5 G → V X D 10 (ZM X D (QMl D Q) 0 0) G 0 0 72 [(0, .ref v0), (2, .int v2), (5, .int v5)] []) (hk81 : ∀ v0 v2 v5 v6 G, k81 v0 v2 v5 v6 G → V X D 10 (ZM X D (QMl D Q) 0 0) G 0 0 81 [(0, .ref v0), (2, .int v2), (5, .int v5), (6, .int v6)] []) (hk98 : ∀ v0 v2 v5 v6 v7 G, k98 v0 v2 v5 v6 v7 G → V X D 10 (ZM X D (QMl D Q) 0 0) G 0 0 98 [(0, .ref v0), (2, .int v2), (5, .int v5), (6, .int v6), (7, .int v7)] []) {v0 : Nat} {v2 : Int32} {v5 : Int32} {v6 : Int32} {v7 : Int32} {v8 : Int32} {G : Wd} (hw : wpX11_slip_151 Q k72 k81 k98 v0 v2 v5 v6 v7 v8 G) : V X D 10 (ZM X D (QMl D Q) 0 0) G 0 0 151 [(0, .ref v0), (2, .int v2), (5, .int v5), (6, .int v6), (7, .int v7), (8, .int v8)] [] := by
  unfold wpX11_slip_151 at hw
  refine v_iconst (v := 0) F dX11_slip_151 (by decide) ?_
  exact v_loc [0, 1, 2, 3, 4, 5] rfl (sbX11_slip_152 hR F hk72 hk81 hk98 hw)
set_option maxRecDepth 100000 in
theorem sbX11_slip_98 {X : Cx} {D : Dx} (hR : X.2.2.2.1 = rmX11_slip) (F : Fx X D cX11_slip 10 RX11 (some .long) "slip") {Q : Int64 → Wd → Prop} {k72 : Nat → Int32 → Int32 → Wd → Prop} {k81 : Nat → Int32 → Int32 → Int32 → Wd → Prop} (hk72 : ∀ v0 v2 v5 G, k72 v0 v2 v5 G → V X D 10 (ZM X D (QMl D Q) 0 0) G 0 0 72 [(0, .ref v0), (2, .int v2), (5, .int v5)] []) (hk81 : ∀ v0 v2 v5 v6 G, k81 v0 v2 v5 v6 G → V X D 10 (ZM X D (QMl D Q) 0 0) G 0 0 81 [(0, .ref v0), (2, .int v2), (5, .int v5), (6, .int v6)] []) : ∀ (n : Nat) (v0 : Nat) (v2 : Int32) (v5 : Int32) (v6 : Int32) (v7 : Int32) (G : Wd), wpX11_slip_98 Q k72 k81 n v0 v2 v5 v6 v7 G → V X D 10 (ZM X D (QMl D Q) 0 0) G 0 0 98 [(0, .ref v0), (2, .int v2), (5, .int v5), (6, .int v6), (7, .int v7)] [] := by
  intro n
  induction n with
  | zero => intro v0 v2 v5 v6 v7 G hw; exact hw.elim
  | succ n ih =>
    intro v0 v2 v5 v6 v7 G hw
    simp only [wpX11_slip_98] at hw
    refine v_iload F dX11_slip_98 4 rfl ?_
    refine v_iconst (v := 2) F dX11_slip_100 (by decide) ?_
    refine v_iload F dX11_slip_101 2 rfl ?_
    refine v_imul F dX11_slip_103 ?_
    refine v_icmp_gt (tgt := 248) F dX11_slip_104 (by decide) (fun h => ?_) (fun h => ?_)
    · rw [if_pos h] at hw
      refine v_iincN (c := 1) F dX11_slip_248 3 rfl (by decide) (by decide) (fun x8 hx8 => ?_)
      refine v_cast (L' := [(6, .int x8), (0, .ref v0), (2, .int v2), (5, .int v5), (7, .int v7)]) rfl rfl ?_
      have hw := hw x8 hx8
      refine v_goto (tgt := 81) F dX11_slip_251 (by decide) ?_
      exact v_loc [1, 2, 3, 0] rfl (hk81 _ _ _ _ _ hw)
    · rw [if_neg h] at hw
      refine v_aload_n F dX11_slip_107 rfl 0 rfl ?_
      obtain ⟨kd9, hw⟩ := hw
      obtain ⟨b10, hr11, hw⟩ := hw
      refine v_getS F fl_X11_53 (fun _ => rfl) kd9 hr11 dX11_slip_108 ?_
      refine v_iload F dX11_slip_111 3 rfl ?_
      obtain ⟨kd12, hw⟩ := hw
      obtain ⟨hi13, hw⟩ := hw
      refine v_ialdE F rfl kd12 hi13 dX11_slip_113 ?_
      refine v_topi (fun x14 hx14 => ?_)
      have hw := hw x14 hx14
      refine v_istore (L' := [(8, .int x14), (0, .ref v0), (2, .int v2), (5, .int v5), (6, .int v6), (7, .int v7)]) F dX11_slip_114 (by decide) rfl ?_
      refine v_iload F dX11_slip_116 5 rfl ?_
      refine v_iconst (v := 3) F dX11_slip_118 (by decide) ?_
      refine v_icmp_lt (tgt := 147) F dX11_slip_119 (by decide) (fun h => ?_) (fun h => ?_)
      · rw [if_pos h] at hw
        exact v_loc [1, 2, 3, 4, 5, 0] rfl (sbX11_slip_147 hR F hk72 hk81 ih hw)
      · rw [if_neg h] at hw
        refine v_iload F dX11_slip_122 5 rfl ?_
        refine v_iconst (v := 3) F dX11_slip_124 (by decide) ?_
        refine v_icmp_ne (tgt := 139) F dX11_slip_125 (by decide) (fun h => ?_) (fun h => ?_)
        · rw [if_neg h] at hw
          refine v_iload F dX11_slip_139 0 rfl ?_
          refine v_bipush (v := 12) F dX11_slip_141 (by decide) ?_
          refine v_iremE F dX11_slip_143 (by decide) ?_
          refine v_if_ne (tgt := 151) F dX11_slip_144 (by decide) (fun h => ?_) (fun h => ?_)
          · rw [if_neg h] at hw
            exact v_loc [1, 2, 3, 4, 5, 0] rfl (sbX11_slip_151 hR F hk72 hk81 ih hw)
          · rw [if_pos h] at hw
            exact v_loc [1, 2, 3, 4, 5, 0] rfl (sbX11_slip_147 hR F hk72 hk81 ih hw)
        · rw [if_pos h] at hw
          refine v_iload F dX11_slip_128 0 rfl ?_
          refine v_bipush (v := 10) F dX11_slip_130 (by decide) ?_
          refine v_iremE F dX11_slip_132 (by decide) ?_
          refine v_if_ne (tgt := 151) F dX11_slip_133 (by decide) (fun h => ?_) (fun h => ?_)
          · rw [if_neg h] at hw
            exact v_loc [1, 2, 3, 4, 5, 0] rfl (sbX11_slip_151 hR F hk72 hk81 ih hw)
          · rw [if_pos h] at hw
            refine v_goto (tgt := 147) F dX11_slip_136 (by decide) ?_
            exact v_loc [1, 2, 3, 4, 5, 0] rfl (sbX11_slip_147 hR F hk72 hk81 ih hw)
set_option maxRecDepth 100000 in
theorem sbX11_slip_81 {X : Cx} {D : Dx} (hR : X.2.2.2.1 = rmX11_slip) (F : Fx X D cX11_slip 10 RX11 (some .long) "slip") {Q : Int64 → Wd → Prop} {k72 : Nat → Int32 → Int32 → Wd → Prop} (hk72 : ∀ v0 v2 v5 G, k72 v0 v2 v5 G → V X D 10 (ZM X D (QMl D Q) 0 0) G 0 0 72 [(0, .ref v0), (2, .int v2), (5, .int v5)] []) : ∀ (n : Nat) (v0 : Nat) (v2 : Int32) (v5 : Int32) (v6 : Int32) (G : Wd), wpX11_slip_81 Q k72 n v0 v2 v5 v6 G → V X D 10 (ZM X D (QMl D Q) 0 0) G 0 0 81 [(0, .ref v0), (2, .int v2), (5, .int v5), (6, .int v6)] [] := by
  intro n
  induction n with
  | zero => intro v0 v2 v5 v6 G hw; exact hw.elim
  | succ n ih =>
    intro v0 v2 v5 v6 G hw
    simp only [wpX11_slip_81] at hw
    refine v_iload F dX11_slip_81 3 rfl ?_
    refine v_aload_n F dX11_slip_83 rfl 0 rfl ?_
    obtain ⟨kd15, hw⟩ := hw
    refine v_get F fl_X11_336 kd15 rfl dX11_slip_84 ?_
    refine v_icmp_ge (tgt := 254) F dX11_slip_87 (by decide) (fun h => ?_) (fun h => ?_)
    · rw [if_pos h] at hw
      refine v_iincN (c := 1) F dX11_slip_254 2 rfl (by decide) (by decide) (fun x16 hx16 => ?_)
      refine v_cast (L' := [(5, .int x16), (0, .ref v0), (2, .int v2), (6, .int v6)]) rfl rfl ?_
      have hw := hw x16 hx16
      refine v_goto (tgt := 72) F dX11_slip_257 (by decide) ?_
      exact v_loc [1, 2, 0] rfl (hk72 _ _ _ _ hw)
    · rw [if_neg h] at hw
      refine v_iconst (v := 2) F dX11_slip_90 (by decide) ?_
      refine v_iload F dX11_slip_91 2 rfl ?_
      refine v_imul F dX11_slip_93 ?_
      refine v_iconst (v := 1) F dX11_slip_94 (by decide) ?_
      refine v_isub F dX11_slip_95 ?_
      refine v_topi (fun x17 hx17 => ?_)
      have hw := hw x17 hx17
      refine v_istore (L' := [(7, .int x17), (0, .ref v0), (2, .int v2), (5, .int v5), (6, .int v6)]) F dX11_slip_96 (by decide) rfl ?_
      obtain ⟨m, hw⟩ := hw
      exact v_loc [1, 2, 3, 4, 0] rfl (sbX11_slip_98 hR F hk72 ih m _ _ _ _ _ _ hw)
set_option maxRecDepth 100000 in
theorem sbX11_slip_72 {X : Cx} {D : Dx} (hR : X.2.2.2.1 = rmX11_slip) (F : Fx X D cX11_slip 10 RX11 (some .long) "slip") {Q : Int64 → Wd → Prop} : ∀ (n : Nat) (v0 : Nat) (v2 : Int32) (v5 : Int32) (G : Wd), wpX11_slip_72 Q  n v0 v2 v5 G → V X D 10 (ZM X D (QMl D Q) 0 0) G 0 0 72 [(0, .ref v0), (2, .int v2), (5, .int v5)] [] := by
  intro n
  induction n with
  | zero => intro v0 v2 v5 G hw; exact hw.elim
  | succ n ih =>
    intro v0 v2 v5 G hw
    simp only [wpX11_slip_72] at hw
    refine v_iload F dX11_slip_72 2 rfl ?_
    refine v_iconst (v := 2) F dX11_slip_74 (by decide) ?_
    refine v_icmp_gt (tgt := 260) F dX11_slip_75 (by decide) (fun h => ?_) (fun h => ?_)
    · rw [if_pos h] at hw
      refine v_ldc2 (v := (-9000000000000000005)) F wd_1168 dX11_slip_260 ?_
      exact v_lret F hw dX11_slip_263
    · rw [if_neg h] at hw
      refine v_iconst (v := 0) F dX11_slip_78 (by decide) ?_
      refine v_istore (L' := [(6, .int 0), (0, .ref v0), (2, .int v2), (5, .int v5)]) F dX11_slip_79 (by decide) rfl ?_
      obtain ⟨m, hw⟩ := hw
      exact v_loc [1, 2, 3, 0] rfl (sbX11_slip_81 hR F ih m _ _ _ _ _ hw)
set_option maxRecDepth 100000 in
theorem sX11_slip {l : Launch} {D : Dx} {a0 : Nat} {p1 : Int32} {p2 : Int32} {G : Wd} {Q : Int64 → Wd → Prop} (hw : wpX11_slip a0 p1 p2 G Q) : Met l yX11_slip (wM yX11_slip cX11_slip 10 (some .long)) rmX11_slip (PM D [.ref a0, .int p1, .int p2] G) (QMl D Q) 0 0 (Ab D) := by
  refine v_met (by decide) (Nat.le_of_ble_eq_true rfl) (fun X hl hR F => ?_)
  subst hl
  have F : Fx X D cX11_slip 10 RX11 (some .long) "slip" := F
  refine v_cast (L' := [(0, .ref a0), (1, .int p1), (2, .int p2)]) rfl rfl ?_
  unfold wpX11_slip at hw
  refine v_iload_n F dX11_slip_0 rfl 1 rfl ?_
  refine v_i2l F dX11_slip_1 ?_
  refine v_lconst (v := 0) F dX11_slip_2 rfl ?_
  refine v_ldc2 (v := 9) F wd_1264 dX11_slip_3 ?_
  refine v_calli (r_S F ls_X11_145 (sX11_isIn hw) (mkRm hR rfl rfl rfl rfl rfl rfl) rfl rfl (Nat.le_of_ble_eq_true rfl) dX11_slip_6) (fun r18 G19 hw => ?_)
  refine v_if_eq (tgt := 26) F dX11_slip_9 (by decide) (fun h => ?_) (fun h => ?_)
  · rw [if_pos h] at hw
    refine v_ldc2 (v := (-9000000000000000001)) F wd_1021 dX11_slip_26 ?_
    refine v_widen (c' := 0) (s' := 0) (by decide) (by decide) ?_
    exact v_lret F hw dX11_slip_29
  · rw [if_neg h] at hw
    refine v_iload_n F dX11_slip_12 rfl 2 rfl ?_
    refine v_i2l F dX11_slip_13 ?_
    refine v_ldc2 (v := (-1000000000)) F wd_1313 dX11_slip_14 ?_
    refine v_ldc2 (v := 1000000000) F wd_1314 dX11_slip_17 ?_
    refine v_calli (r_S F ls_X11_145 (sX11_isIn hw) (mkRm hR rfl rfl rfl rfl rfl rfl) rfl rfl (Nat.le_of_ble_eq_true rfl) dX11_slip_20) (fun r20 G21 hw => ?_)
    refine v_if_ne (tgt := 30) F dX11_slip_23 (by decide) (fun h => ?_) (fun h => ?_)
    · rw [if_neg h] at hw
      refine v_aload_n F dX11_slip_30 rfl 0 rfl ?_
      refine v_iload_n F dX11_slip_31 rfl 1 rfl ?_
      obtain ⟨kd22, hw⟩ := hw
      refine v_calll (r_V F lk_X11_346 kd22 (sX11_findEnds hw) (mkRm hR rfl rfl rfl rfl rfl rfl) rfl rfl (Nat.le_of_ble_eq_true rfl) dX11_slip_32) (fun r23 G24 hw => ?_)
      refine v_lstore_n (L' := [(3, .long r23), (0, .ref a0), (1, .int p1), (2, .int p2)]) F dX11_slip_35 rfl (by decide) rfl ?_
      refine v_lload_n F dX11_slip_36 rfl 0 rfl ?_
      refine v_lconst (v := 0) F dX11_slip_37 rfl ?_
      refine v_lcmp F dX11_slip_38 ?_
      refine v_lif_eq (tgt := 44) F dX11_slip_39 (by decide) (fun h => ?_) (fun h => ?_)
      · rw [if_pos h] at hw
        refine v_aload_n F dX11_slip_44 rfl 1 rfl ?_
        refine v_iconst (v := (-1)) F dX11_slip_45 (by decide) ?_
        refine v_iconst (v := 0) F dX11_slip_46 (by decide) ?_
        obtain ⟨kd25, hw⟩ := hw
        refine v_calll (r_V F lk_X11_350 kd25 (sX11_bothEnds hw) (mkRm hR rfl rfl rfl rfl rfl rfl) rfl rfl (Nat.le_of_ble_eq_true rfl) dX11_slip_47) (fun r26 G27 hw => ?_)
        refine v_lconst (v := 0) F dX11_slip_50 rfl ?_
        refine v_lcmp F dX11_slip_51 ?_
        refine v_lif_eq (tgt := 59) F dX11_slip_52 (by decide) (fun h => ?_) (fun h => ?_)
        · rw [if_pos h] at hw
          refine v_aload_n F dX11_slip_59 rfl 1 rfl ?_
          refine v_iload_n F dX11_slip_60 rfl 3 rfl ?_
          obtain ⟨kd28, hw⟩ := hw
          refine v_calli (r_V F lk_X11_357 kd28 (sX11_isRight hw) (mkRm hR rfl rfl rfl rfl rfl rfl) rfl rfl (Nat.le_of_ble_eq_true rfl) dX11_slip_61) (fun r29 G30 hw => ?_)
          refine v_if_eq (tgt := 69) F dX11_slip_64 (by decide) (fun h => ?_) (fun h => ?_)
          · rw [if_pos h] at hw
            refine v_iconst (v := 1) F dX11_slip_69 (by decide) ?_
            refine v_istore (L' := [(5, .int 1), (3, .long r23), (0, .ref a0), (1, .int p1), (2, .int p2)]) F dX11_slip_70 (by decide) rfl ?_
            obtain ⟨m, hw⟩ := hw
            exact v_loc [2, 4, 0] rfl (sbX11_slip_72 hR F  m _ _ _ _ hw)
          · rw [if_neg h] at hw
            refine v_lconst (v := 0) F dX11_slip_67 rfl ?_
            refine v_widen (c' := 0) (s' := 0) (by decide) (by decide) ?_
            exact v_lret F hw dX11_slip_68
        · rw [if_neg h] at hw
          refine v_ldc2 (v := (-9000000000000000004)) F wd_1180 dX11_slip_55 ?_
          refine v_widen (c' := 0) (s' := 0) (by decide) (by decide) ?_
          exact v_lret F hw dX11_slip_58
      · rw [if_neg h] at hw
        refine v_lload_n F dX11_slip_42 rfl 0 rfl ?_
        refine v_widen (c' := 0) (s' := 0) (by decide) (by decide) ?_
        exact v_lret F hw dX11_slip_43
    · rw [if_pos h] at hw
      refine v_ldc2 (v := (-9000000000000000001)) F wd_1021 dX11_slip_26 ?_
      refine v_widen (c' := 0) (s' := 0) (by decide) (by decide) ?_
      exact v_lret F hw dX11_slip_29
set_option maxRecDepth 100000 in
theorem sbX11_count_70 {X : Cx} {D : Dx} (hR : X.2.2.2.1 = rmX11_count) (F : Fx X D cX11_count 6 RX11 (some .long) "count") {Q : Int64 → Wd → Prop} {k45 : Nat → Int64 → Int32 → Wd → Prop} (hk45 : ∀ v0 v2 v4 G, k45 v0 v2 v4 G → V X D 6 (ZM X D (QMl D Q) 0 0) G 0 0 45 [(0, .ref v0), (2, .long v2), (4, .int v4)] []) {v0 : Nat} {v4 : Int32} {s0 : Int64} {s1 : Int64} {G : Wd} (hw : wpX11_count_70 Q k45 v0 v4 s0 s1 G) : V X D 6 (ZM X D (QMl D Q) 0 0) G 0 0 70 [(0, .ref v0), (4, .int v4)] [.long s1, .long s0] := by
  unfold wpX11_count_70 at hw
  refine v_ladd F dX11_count_70 ?_
  refine v_topl (fun x1 hx1 => ?_)
  have hw := hw x1 hx1
  refine v_lstore_n (L' := [(2, .long x1), (0, .ref v0), (4, .int v4)]) F dX11_count_71 rfl (by decide) rfl ?_
  refine v_iincN (c := 1) F dX11_count_72 2 rfl (by decide) (by decide) (fun x2 hx2 => ?_)
  refine v_cast (L' := [(4, .int x2), (2, .long x1), (0, .ref v0)]) rfl rfl ?_
  have hw := hw x2 hx2
  refine v_goto (tgt := 45) F dX11_count_75 (by decide) ?_
  exact v_loc [2, 1, 0] rfl (hk45 _ _ _ _ hw)
set_option maxRecDepth 100000 in
theorem sbX11_count_45 {X : Cx} {D : Dx} (hR : X.2.2.2.1 = rmX11_count) (F : Fx X D cX11_count 6 RX11 (some .long) "count") {Q : Int64 → Wd → Prop} : ∀ (n : Nat) (v0 : Nat) (v2 : Int64) (v4 : Int32) (G : Wd), wpX11_count_45 Q  n v0 v2 v4 G → V X D 6 (ZM X D (QMl D Q) 0 0) G 0 0 45 [(0, .ref v0), (2, .long v2), (4, .int v4)] [] := by
  intro n
  induction n with
  | zero => intro v0 v2 v4 G hw; exact hw.elim
  | succ n ih =>
    intro v0 v2 v4 G hw
    simp only [wpX11_count_45] at hw
    refine v_iload F dX11_count_45 2 rfl ?_
    refine v_aload_n F dX11_count_47 rfl 0 rfl ?_
    obtain ⟨kd3, hw⟩ := hw
    refine v_get F fl_X11_159 kd3 rfl dX11_count_48 ?_
    refine v_icmp_ge (tgt := 78) F dX11_count_51 (by decide) (fun h => ?_) (fun h => ?_)
    · rw [if_pos h] at hw
      refine v_lload_n F dX11_count_78 rfl 1 rfl ?_
      exact v_lret F hw dX11_count_79
    · rw [if_neg h] at hw
      refine v_lload_n F dX11_count_54 rfl 1 rfl ?_
      refine v_aload_n F dX11_count_55 rfl 0 rfl ?_
      obtain ⟨b4, hr5, hw⟩ := hw
      refine v_getS F fl_X11_43 (fun _ => rfl) kd3 hr5 dX11_count_56 ?_
      refine v_iload F dX11_count_59 2 rfl ?_
      obtain ⟨kd6, hw⟩ := hw
      obtain ⟨hi7, hw⟩ := hw
      refine v_zaldE F rfl kd6 hi7 dX11_count_61 ?_
      refine v_if_eq (tgt := 69) F dX11_count_62 (by decide) (fun h => ?_) (fun h => ?_)
      · rw [if_pos h] at hw
        refine v_lconst (v := 0) F dX11_count_69 rfl ?_
        exact v_loc [0, 2] rfl (sbX11_count_70 hR F ih hw)
      · rw [if_neg h] at hw
        refine v_lconst (v := 1) F dX11_count_65 rfl ?_
        refine v_goto (tgt := 70) F dX11_count_66 (by decide) ?_
        exact v_loc [0, 2] rfl (sbX11_count_70 hR F ih hw)
set_option maxRecDepth 100000 in
theorem sbX11_count_105 {X : Cx} {D : Dx} (hR : X.2.2.2.1 = rmX11_count) (F : Fx X D cX11_count 6 RX11 (some .long) "count") {Q : Int64 → Wd → Prop} {k83 : Nat → Int64 → Int32 → Wd → Prop} (hk83 : ∀ v0 v2 v4 G, k83 v0 v2 v4 G → V X D 6 (ZM X D (QMl D Q) 0 0) G 0 0 83 [(0, .ref v0), (2, .long v2), (4, .int v4)] []) {v0 : Nat} {v4 : Int32} {s0 : Int64} {s1 : Int64} {G : Wd} (hw : wpX11_count_105 Q k83 v0 v4 s0 s1 G) : V X D 6 (ZM X D (QMl D Q) 0 0) G 0 0 105 [(0, .ref v0), (4, .int v4)] [.long s1, .long s0] := by
  unfold wpX11_count_105 at hw
  refine v_ladd F dX11_count_105 ?_
  refine v_topl (fun x8 hx8 => ?_)
  have hw := hw x8 hx8
  refine v_lstore_n (L' := [(2, .long x8), (0, .ref v0), (4, .int v4)]) F dX11_count_106 rfl (by decide) rfl ?_
  refine v_iincN (c := 1) F dX11_count_107 2 rfl (by decide) (by decide) (fun x9 hx9 => ?_)
  refine v_cast (L' := [(4, .int x9), (2, .long x8), (0, .ref v0)]) rfl rfl ?_
  have hw := hw x9 hx9
  refine v_goto (tgt := 83) F dX11_count_110 (by decide) ?_
  exact v_loc [2, 1, 0] rfl (hk83 _ _ _ _ hw)
set_option maxRecDepth 100000 in
theorem sbX11_count_83 {X : Cx} {D : Dx} (hR : X.2.2.2.1 = rmX11_count) (F : Fx X D cX11_count 6 RX11 (some .long) "count") {Q : Int64 → Wd → Prop} : ∀ (n : Nat) (v0 : Nat) (v2 : Int64) (v4 : Int32) (G : Wd), wpX11_count_83 Q  n v0 v2 v4 G → V X D 6 (ZM X D (QMl D Q) 0 0) G 0 0 83 [(0, .ref v0), (2, .long v2), (4, .int v4)] [] := by
  intro n
  induction n with
  | zero => intro v0 v2 v4 G hw; exact hw.elim
  | succ n ih =>
    intro v0 v2 v4 G hw
    simp only [wpX11_count_83] at hw
    refine v_iload F dX11_count_83 2 rfl ?_
    refine v_iconst (v := 4) F dX11_count_85 (by decide) ?_
    refine v_icmp_ge (tgt := 113) F dX11_count_86 (by decide) (fun h => ?_) (fun h => ?_)
    · rw [if_pos h] at hw
      refine v_lload_n F dX11_count_113 rfl 1 rfl ?_
      exact v_lret F hw dX11_count_114
    · rw [if_neg h] at hw
      refine v_lload_n F dX11_count_89 rfl 1 rfl ?_
      refine v_aload_n F dX11_count_90 rfl 0 rfl ?_
      obtain ⟨kd10, hw⟩ := hw
      obtain ⟨b11, hr12, hw⟩ := hw
      refine v_getS F fl_X11_47 (fun _ => rfl) kd10 hr12 dX11_count_91 ?_
      refine v_iload F dX11_count_94 2 rfl ?_
      obtain ⟨kd13, hw⟩ := hw
      obtain ⟨hi14, hw⟩ := hw
      refine v_ialdE F rfl kd13 hi14 dX11_count_96 ?_
      refine v_if_lt (tgt := 104) F dX11_count_97 (by decide) (fun h => ?_) (fun h => ?_)
      · rw [if_pos h] at hw
        refine v_lconst (v := 0) F dX11_count_104 rfl ?_
        exact v_loc [0, 2] rfl (sbX11_count_105 hR F ih hw)
      · rw [if_neg h] at hw
        refine v_lconst (v := 1) F dX11_count_100 rfl ?_
        refine v_goto (tgt := 105) F dX11_count_101 (by decide) ?_
        exact v_loc [0, 2] rfl (sbX11_count_105 hR F ih hw)
set_option maxRecDepth 100000 in
theorem sbX11_count_169 {X : Cx} {D : Dx} (hR : X.2.2.2.1 = rmX11_count) (F : Fx X D cX11_count 6 RX11 (some .long) "count") {Q : Int64 → Wd → Prop} : ∀ (n : Nat) (v2 : Int64) (v4 : Int32) (v5 : Int32) (G : Wd), wpX11_count_169 Q  n v2 v4 v5 G → V X D 6 (ZM X D (QMl D Q) 0 0) G 0 0 169 [(2, .long v2), (4, .int v4), (5, .int v5)] [] := by
  intro n
  induction n with
  | zero => intro v2 v4 v5 G hw; exact hw.elim
  | succ n ih =>
    intro v2 v4 v5 G hw
    simp only [wpX11_count_169] at hw
    refine v_iload F dX11_count_169 2 rfl ?_
    refine v_bipush (v := 10) F dX11_count_171 (by decide) ?_
    refine v_icmp_ge (tgt := 193) F dX11_count_173 (by decide) (fun h => ?_) (fun h => ?_)
    · rw [if_pos h] at hw
      refine v_lload_n F dX11_count_193 rfl 0 rfl ?_
      exact v_lret F hw dX11_count_194
    · rw [if_neg h] at hw
      refine v_lload_n F dX11_count_176 rfl 0 rfl ?_
      refine v_iload F dX11_count_177 1 rfl ?_
      refine v_iload F dX11_count_179 2 rfl ?_
      refine v_ishr F dX11_count_181 ?_
      refine v_iconst (v := 1) F dX11_count_182 (by decide) ?_
      refine v_iand F dX11_count_183 ?_
      refine v_i2l F dX11_count_184 ?_
      refine v_ladd F dX11_count_185 ?_
      refine v_topl (fun x15 hx15 => ?_)
      have hw := hw x15 hx15
      refine v_lstore_n (L' := [(2, .long x15), (4, .int v4), (5, .int v5)]) F dX11_count_186 rfl (by decide) rfl ?_
      refine v_iincN (c := 1) F dX11_count_187 2 rfl (by decide) (by decide) (fun x16 hx16 => ?_)
      refine v_cast (L' := [(5, .int x16), (2, .long x15), (4, .int v4)]) rfl rfl ?_
      have hw := hw x16 hx16
      refine v_goto (tgt := 169) F dX11_count_190 (by decide) ?_
      exact v_loc [1, 2, 0] rfl (ih _ _ _ _ hw)
set_option maxRecDepth 100000 in
theorem sbX11_count_127 {X : Cx} {D : Dx} (hR : X.2.2.2.1 = rmX11_count) (F : Fx X D cX11_count 6 RX11 (some .long) "count") {Q : Int64 → Wd → Prop} : ∀ (n : Nat) (v0 : Nat) (v2 : Int64) (v4 : Int32) (v5 : Int32) (G : Wd), wpX11_count_127 Q  n v0 v2 v4 v5 G → V X D 6 (ZM X D (QMl D Q) 0 0) G 0 0 127 [(0, .ref v0), (2, .long v2), (4, .int v4), (5, .int v5)] [] := by
  intro n
  induction n with
  | zero => intro v0 v2 v4 v5 G hw; exact hw.elim
  | succ n ih =>
    intro v0 v2 v4 v5 G hw
    simp only [wpX11_count_127] at hw
    refine v_iload F dX11_count_127 3 rfl ?_
    refine v_aload_n F dX11_count_129 rfl 0 rfl ?_
    obtain ⟨kd17, hw⟩ := hw
    refine v_get F fl_X11_159 kd17 rfl dX11_count_130 ?_
    refine v_icmp_ge (tgt := 166) F dX11_count_133 (by decide) (fun h => ?_) (fun h => ?_)
    · rw [if_pos h] at hw
      refine v_iconst (v := 0) F dX11_count_166 (by decide) ?_
      refine v_istore (L' := [(5, .int 0), (0, .ref v0), (2, .long v2), (4, .int v4)]) F dX11_count_167 (by decide) rfl ?_
      obtain ⟨m, hw⟩ := hw
      exact v_loc [2, 3, 0] rfl (sbX11_count_169 hR F  m _ _ _ _ hw)
    · rw [if_neg h] at hw
      refine v_iload F dX11_count_136 2 rfl ?_
      refine v_iconst (v := 1) F dX11_count_138 (by decide) ?_
      refine v_aload_n F dX11_count_139 rfl 0 rfl ?_
      obtain ⟨b18, hr19, hw⟩ := hw
      refine v_getS F fl_X11_16 (fun _ => rfl) kd17 hr19 dX11_count_140 ?_
      refine v_iload F dX11_count_143 3 rfl ?_
      obtain ⟨kd20, hw⟩ := hw
      obtain ⟨hi21, hw⟩ := hw
      refine v_ialdE F rfl kd20 hi21 dX11_count_145 ?_
      refine v_ishl F dX11_count_146 ?_
      refine v_iconst (v := 1) F dX11_count_147 (by decide) ?_
      refine v_aload_n F dX11_count_148 rfl 0 rfl ?_
      obtain ⟨b22, hr23, hw⟩ := hw
      refine v_getS F fl_X11_19 (fun _ => rfl) kd17 hr23 dX11_count_149 ?_
      refine v_iload F dX11_count_152 3 rfl ?_
      obtain ⟨kd24, hw⟩ := hw
      obtain ⟨hi25, hw⟩ := hw
      refine v_ialdE F rfl kd24 hi25 dX11_count_154 ?_
      refine v_ishl F dX11_count_155 ?_
      refine v_ior F dX11_count_156 ?_
      refine v_ior F dX11_count_157 ?_
      refine v_topi (fun x26 hx26 => ?_)
      have hw := hw x26 hx26
      refine v_istore (L' := [(4, .int x26), (0, .ref v0), (2, .long v2), (5, .int v5)]) F dX11_count_158 (by decide) rfl ?_
      refine v_iincN (c := 1) F dX11_count_160 3 rfl (by decide) (by decide) (fun x27 hx27 => ?_)
      refine v_cast (L' := [(5, .int x27), (4, .int x26), (0, .ref v0), (2, .long v2)]) rfl rfl ?_
      have hw := hw x27 hx27
      refine v_goto (tgt := 127) F dX11_count_163 (by decide) ?_
      exact v_loc [2, 3, 1, 0] rfl (ih _ _ _ _ _ hw)
set_option maxRecDepth 100000 in
theorem sX11_count {l : Launch} {D : Dx} {a0 : Nat} {p1 : Int32} {G : Wd} {Q : Int64 → Wd → Prop} (hw : wpX11_count a0 p1 G Q) : Met l yX11_count (wM yX11_count cX11_count 6 (some .long)) rmX11_count (PM D [.ref a0, .int p1] G) (QMl D Q) 0 0 (Ab D) := by
  refine v_met (by decide) (Nat.le_of_ble_eq_true rfl) (fun X hl hR F => ?_)
  subst hl
  have F : Fx X D cX11_count 6 RX11 (some .long) "count" := F
  refine v_cast (L' := [(0, .ref a0), (1, .int p1)]) rfl rfl ?_
  unfold wpX11_count at hw
  refine v_lconst (v := 0) F dX11_count_0 rfl ?_
  refine v_lstore_n (L' := [(2, .long 0), (0, .ref a0), (1, .int p1)]) F dX11_count_1 rfl (by decide) rfl ?_
  refine v_iload_n F dX11_count_2 rfl 2 rfl ?_
  by_cases hc0 : p1 = 0
  · rw [if_pos hc0] at hw
    refine v_tableInE (c := 0) (tgt := 36) F hc0 dX11_count_3 (by decide) (by decide) rfl (by decide) ?_
    refine v_aload_n F dX11_count_36 rfl 1 rfl ?_
    obtain ⟨kd28, hw⟩ := hw
    refine v_get F fl_X11_159 kd28 rfl dX11_count_37 ?_
    refine v_i2l F dX11_count_40 ?_
    exact v_lret F hw dX11_count_41
  rw [if_neg hc0] at hw
  by_cases hc1 : p1 = 1
  · rw [if_pos hc1] at hw
    refine v_tableInE (c := 1) (tgt := 42) F hc1 dX11_count_3 (by decide) (by decide) rfl (by decide) ?_
    refine v_iconst (v := 0) F dX11_count_42 (by decide) ?_
    refine v_istore (L' := [(4, .int 0), (2, .long 0), (0, .ref a0), (1, .int p1)]) F dX11_count_43 (by decide) rfl ?_
    obtain ⟨m, hw⟩ := hw
    exact v_loc [2, 1, 0] rfl (sbX11_count_45 hR F  m _ _ _ _ hw)
  rw [if_neg hc1] at hw
  by_cases hc2 : p1 = 2
  · rw [if_pos hc2] at hw
    refine v_tableInE (c := 2) (tgt := 80) F hc2 dX11_count_3 (by decide) (by decide) rfl (by decide) ?_
    refine v_iconst (v := 0) F dX11_count_80 (by decide) ?_
    refine v_istore (L' := [(4, .int 0), (2, .long 0), (0, .ref a0), (1, .int p1)]) F dX11_count_81 (by decide) rfl ?_
    obtain ⟨m, hw⟩ := hw
    exact v_loc [2, 1, 0] rfl (sbX11_count_83 hR F  m _ _ _ _ hw)
  rw [if_neg hc2] at hw
  by_cases hc3 : p1 = 3
  · rw [if_pos hc3] at hw
    refine v_tableInE (c := 3) (tgt := 115) F hc3 dX11_count_3 (by decide) (by decide) rfl (by decide) ?_
    refine v_aload_n F dX11_count_115 rfl 1 rfl ?_
    obtain ⟨kd29, hw⟩ := hw
    refine v_get F fl_X11_336 kd29 rfl dX11_count_116 ?_
    refine v_i2l F dX11_count_119 ?_
    exact v_lret F hw dX11_count_120
  rw [if_neg hc3] at hw
  by_cases hc4 : p1 = 4
  · rw [if_pos hc4] at hw
    refine v_tableInE (c := 4) (tgt := 121) F hc4 dX11_count_3 (by decide) (by decide) rfl (by decide) ?_
    refine v_iconst (v := 0) F dX11_count_121 (by decide) ?_
    refine v_istore (L' := [(4, .int 0), (2, .long 0), (0, .ref a0), (1, .int p1)]) F dX11_count_122 (by decide) rfl ?_
    refine v_iconst (v := 0) F dX11_count_124 (by decide) ?_
    refine v_istore (L' := [(5, .int 0), (4, .int 0), (2, .long 0), (0, .ref a0), (1, .int p1)]) F dX11_count_125 (by decide) rfl ?_
    obtain ⟨m, hw⟩ := hw
    exact v_loc [3, 2, 1, 0] rfl (sbX11_count_127 hR F  m _ _ _ _ _ hw)
  rw [if_neg hc4] at hw
  refine v_tableOut (tgt := 195) F dX11_count_3 (sw_out 5 (by decide) (fun k hk => ?_)) (by decide) ?_
  · match k, hk with
    | 0, _ => exact hc0
    | 1, _ => exact hc1
    | 2, _ => exact hc2
    | 3, _ => exact hc3
    | 4, _ => exact hc4
    | k + 5, hk => exact absurd hk (by omega)
  · refine v_ldc2 (v := (-9000000000000000001)) F wd_1021 dX11_count_195 ?_
    exact v_lret F hw dX11_count_198
