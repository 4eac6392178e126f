set_option maxRecDepth 100000 in
def wpX11_init (a0 : Nat) (G : Wd) (Q : Wd → Prop) : Prop := ∀ (z2 : Nat) (G1 : Wd), z2 = gZ G → G1 = nC G 20 8 → gK G1 a0 = 11 ∧ ∀ G4 : Wd, G4 = uR G1 a0 0 (some z2) → ∀ (z6 : Nat) (G5 : Wd), z6 = gZ G4 → G5 = nC G4 20 24 → gK G5 a0 = 11 ∧ ∀ G8 : Wd, G8 = uR G5 a0 2 (some z6) → ∀ (z10 : Nat) (G9 : Wd), z10 = gZ G8 → G9 = nC G8 20 24 → gK G9 a0 = 11 ∧ ∀ G12 : Wd, G12 = uR G9 a0 3 (some z10) → ∀ (z14 : Nat) (G13 : Wd), z14 = gZ G12 → G13 = nC G12 20 24 → gK G13 a0 = 11 ∧ ∀ G16 : Wd, G16 = uR G13 a0 4 (some z14) → ∀ (z18 : Nat) (G17 : Wd), z18 = gZ G16 → G17 = nC G16 20 24 → gK G17 a0 = 11 ∧ ∀ G20 : Wd, G20 = uR G17 a0 5 (some z18) → ∀ (z22 : Nat) (G21 : Wd), z22 = gZ G20 → G21 = nC G20 20 24 → gK G21 a0 = 11 ∧ ∀ G24 : Wd, G24 = uR G21 a0 6 (some z22) → ∀ (z26 : Nat) (G25 : Wd), z26 = gZ G24 → G25 = nC G24 20 24 → gK G25 a0 = 11 ∧ ∀ G28 : Wd, G28 = uR G25 a0 7 (some z26) → ∀ (z30 : Nat) (G29 : Wd), z30 = gZ G28 → G29 = nC G28 20 24 → gK G29 a0 = 11 ∧ ∀ G32 : Wd, G32 = uR G29 a0 8 (some z30) → ∀ (z34 : Nat) (G33 : Wd), z34 = gZ G32 → G33 = nC G32 20 24 → gK G33 a0 = 11 ∧ ∀ G36 : Wd, G36 = uR G33 a0 9 (some z34) → ∀ (z38 : Nat) (G37 : Wd), z38 = gZ G36 → G37 = nC G36 20 24 → gK G37 a0 = 11 ∧ ∀ G40 : Wd, G40 = uR G37 a0 10 (some z38) → ∀ (z42 : Nat) (G41 : Wd), z42 = gZ G40 → G41 = nC G40 20 24 → gK G41 a0 = 11 ∧ ∀ G44 : Wd, G44 = uR G41 a0 11 (some z42) → ∀ (z46 : Nat) (G45 : Wd), z46 = gZ G44 → G45 = nC G44 22 24 → gK G45 a0 = 11 ∧ ∀ G48 : Wd, G48 = uR G45 a0 12 (some z46) → ∀ (z50 : Nat) (G49 : Wd), z50 = gZ G48 → G49 = nC G48 20 4 → gK G49 a0 = 11 ∧ ∀ G52 : Wd, G52 = uR G49 a0 13 (some z50) → ∀ (z54 : Nat) (G53 : Wd), z54 = gZ G52 → G53 = nC G52 20 20 → gK G53 a0 = 11 ∧ ∀ G56 : Wd, G56 = uR G53 a0 14 (some z54) → ∀ (z58 : Nat) (G57 : Wd), z58 = gZ G56 → G57 = nC G56 20 20 → gK G57 a0 = 11 ∧ ∀ G60 : Wd, G60 = uR G57 a0 16 (some z58) → ∀ (z62 : Nat) (G61 : Wd), z62 = gZ G60 → G61 = nC G60 20 20 → gK G61 a0 = 11 ∧ ∀ G64 : Wd, G64 = uR G61 a0 17 (some z62) → ∀ (z66 : Nat) (G65 : Wd), z66 = gZ G64 → G65 = nC G64 20 20 → gK G65 a0 = 11 ∧ ∀ G68 : Wd, G68 = uR G65 a0 18 (some z66) → ∀ (z70 : Nat) (G69 : Wd), z70 = gZ G68 → G69 = nC G68 20 20 → gK G69 a0 = 11 ∧ ∀ G72 : Wd, G72 = uR G69 a0 19 (some z70) → ∀ (z74 : Nat) (G73 : Wd), z74 = gZ G72 → G73 = nC G72 21 12 → gK G73 a0 = 11 ∧ ∀ G76 : Wd, G76 = uR G73 a0 25 (some z74) → ∀ (z78 : Nat) (G77 : Wd), z78 = gZ G76 → G77 = nC G76 22 24 → gK G77 a0 = 11 ∧ ∀ G80 : Wd, G80 = uR G77 a0 26 (some z78) → ∀ (z82 : Nat) (G81 : Wd), z82 = gZ G80 → G81 = nC G80 20 11 → gK G81 a0 = 11 ∧ ∀ G84 : Wd, G84 = uR G81 a0 27 (some z82) → ∀ (z86 : Nat) (G85 : Wd), z86 = gZ G84 → G85 = nC G84 20 25 → gK G85 a0 = 11 ∧ ∀ G88 : Wd, G88 = uR G85 a0 28 (some z86) → ∀ (z90 : Nat) (G89 : Wd), z90 = gZ G88 → G89 = nC G88 20 25 → gK G89 a0 = 11 ∧ ∀ G92 : Wd, G92 = uR G89 a0 32 (some z90) → ∀ (z94 : Nat) (G93 : Wd), z94 = gZ G92 → G93 = nC G92 22 1024 → gK G93 a0 = 11 ∧ ∀ G96 : Wd, G96 = uR G93 a0 42 (some z94) → ∀ (z98 : Nat) (G97 : Wd), z98 = gZ G96 → G97 = nC G96 20 24 → gK G97 a0 = 11 ∧ ∀ G100 : Wd, G100 = uR G97 a0 43 (some z98) → ∀ (z102 : Nat) (G101 : Wd), z102 = gZ G100 → G101 = nC G100 21 80 → gK G101 a0 = 11 ∧ ∀ G104 : Wd, G104 = uR G101 a0 45 (some z102) → ∃ b106, gR G104 a0 13 = some b106 ∧ gK G104 b106 = 20 ∧ vp_in 0 (gN G104 b106) ∧ ∀ G110 : Wd, G110 = uI G104 b106 0 (-1) → ∃ b112, gR G110 a0 13 = some b112 ∧ gK G110 b112 = 20 ∧ vp_in 1 (gN G110 b112) ∧ ∀ G116 : Wd, G116 = uI G110 b112 1 (-1) → ∃ b118, gR G116 a0 13 = some b118 ∧ gK G116 b118 = 20 ∧ vp_in 2 (gN G116 b118) ∧ ∀ G122 : Wd, G122 = uI G116 b118 2 (-1) → ∃ b124, gR G122 a0 13 = some b124 ∧ gK G122 b124 = 20 ∧ vp_in 3 (gN G122 b124) ∧ ∀ G128 : Wd, G128 = uI G122 b124 3 (-1) → Q G128
abbrev rmX11_init : Room := { frames := 1, cells := 26, slots := 1601, locals := 20 }
set_option maxRecDepth 100000 in
def wpX11_isIn (p0 : Int64) (p2 : Int64) (p4 : Int64) (G : Wd) (Q : Int32 → Wd → Prop) : Prop := if p0 < p2 then (Q 0 G) else (if p4 < p0 then (Q 0 G) else (Q 1 G))
abbrev rmX11_isIn : Room := { frames := 0, cells := 0, slots := 0, locals := 0 }
def wpX11_common_28 (Q : Int64 → Wd → Prop) : Nat → Int64 → Int64 → Wd → Prop
  | 0, _, _, _ => False
  | n + 1, v4, v6, G => if v6 = 0 then (Q v4 G) else (¬ v6 = 0 ∧ ∀ x2 : Int64, x2 = (v4 % v6) → wpX11_common_28 Q n v6 x2 G)
def wpX11_common_26 (Q : Int64 → Wd → Prop) (v4 : Int64) (s0 : Int64) (G : Wd) : Prop := ∃ m, wpX11_common_28 Q m v4 s0 G
def wpX11_common_12 (Q : Int64 → Wd → Prop) (v2 : Int64) (s0 : Int64) (G : Wd) : Prop := if v2 < 0 then (wpX11_common_26 Q s0 (-v2) G) else (wpX11_common_26 Q s0 v2 G)
set_option maxRecDepth 100000 in
def wpX11_common (p0 : Int64) (p2 : Int64) (G : Wd) (Q : Int64 → Wd → Prop) : Prop := if p0 < 0 then (wpX11_common_12 Q p2 (-p0) G) else (wpX11_common_12 Q p2 p0 G)
abbrev rmX11_common : Room := { frames := 0, cells := 0, slots := 0, locals := 0 }
set_option maxRecDepth 100000 in
def wpX11_set (a0 : Nat) (p1 : Int64) (p3 : Int64) (G : Wd) (Q : Wd → Prop) : Prop := wpX11_common p1 p3 G (fun r1 G2 => ¬ r1 = 0 ∧ gK G2 a0 = 11 ∧ ∀ G5 : Wd, G5 = uJ G2 a0 20 (p1 / r1) → ¬ r1 = 0 ∧ ∀ G8 : Wd, G8 = uJ G5 a0 21 (p3 / r1) → Q G8)
abbrev rmX11_set : Room := { frames := 1, cells := 0, slots := 0, locals := 29 }
def wpX11_below_26 (Q : Int64 → Wd → Prop) (v0 : Nat) (v1 : Int64) (v3 : Int64) (v5 : Int64) (s0 : Int64) (G : Wd) : Prop := if v5 = 0 then (Q (v1 * v3) G) else (¬ v5 = 0 ∧ if (999999999999999 / v5) < s0 then (gK G v0 = 11 ∧ ∀ G3 : Wd, G3 = uI G v0 22 1 → Q 1 G3) else (Q (v1 * v3) G))
def wpX11_below_12 (Q : Int64 → Wd → Prop) (v0 : Nat) (v1 : Int64) (v3 : Int64) (s0 : Int64) (G : Wd) : Prop := if v3 < 0 then (wpX11_below_26 Q v0 v1 v3 s0 (-v3) G) else (wpX11_below_26 Q v0 v1 v3 s0 v3 G)
set_option maxRecDepth 100000 in
def wpX11_below (a0 : Nat) (p1 : Int64) (p3 : Int64) (G : Wd) (Q : Int64 → Wd → Prop) : Prop := if p1 < 0 then (wpX11_below_12 Q a0 p1 p3 (-p1) G) else (wpX11_below_12 Q a0 p1 p3 p1 G)
abbrev rmX11_below : Room := { frames := 0, cells := 0, slots := 0, locals := 0 }
set_option maxRecDepth 100000 in
def wpX11_times (a0 : Nat) (p1 : Int64) (p3 : Int64) (G : Wd) (Q : Wd → Prop) : Prop := gK G a0 = 11 ∧ wpX11_common (gJ G a0 20) p3 G (fun r2 G3 => gK G3 a0 = 11 ∧ wpX11_common p1 (gJ G3 a0 21) G3 (fun r5 G6 => gK G6 a0 = 11 ∧ ¬ r2 = 0 ∧ ∀ x9 : Int64, x9 = ((gJ G6 a0 20) / r2) → ¬ r5 = 0 ∧ ∀ x11 : Int64, x11 = ((gJ G6 a0 21) / r5) → ¬ r5 = 0 ∧ wpX11_below a0 x9 (p1 / r5) G6 (fun r13 G14 => gK G14 a0 = 11 ∧ ∀ G16 : Wd, G16 = uJ G14 a0 20 r13 → ¬ r2 = 0 ∧ wpX11_below a0 x11 (p3 / r2) G16 (fun r19 G20 => gK G20 a0 = 11 ∧ ∀ G22 : Wd, G22 = uJ G20 a0 21 r19 → Q G22))))
abbrev rmX11_times : Room := { frames := 1, cells := 0, slots := 0, locals := 29 }
set_option maxRecDepth 100000 in
def wpX11_multiply (a0 : Nat) (p1 : Int64) (p3 : Int64) (G : Wd) (Q : Wd → Prop) : Prop := ∀ x1 : Int64, x1 = (p1 / 100000000) → ∀ x2 : Int64, x2 = (p1 % 100000000) → ∀ x3 : Int64, x3 = (p3 / 100000000) → ∀ x4 : Int64, x4 = (p3 % 100000000) → ∀ x5 : Int64, x5 = ((x1 * x4) + (x2 * x3)) → ∀ x6 : Int64, x6 = (x2 * x4) → gK G a0 = 11 ∧ ∀ G8 : Wd, G8 = uJ G a0 23 ((((x1 * x3) * 10) + (x5 / 10000000)) + (x6 / 1000000000000000)) → ∀ G10 : Wd, G10 = uJ G8 a0 24 (((x5 % 10000000) * 100000000) + (x6 % 1000000000000000)) → if (gJ G10 a0 24) < 1000000000000000 then (Q G10) else (∀ G12 : Wd, G12 = uJ G10 a0 24 ((gJ G10 a0 24) - 1000000000000000) → ∀ G14 : Wd, G14 = uJ G12 a0 23 ((gJ G12 a0 23) + 1) → Q G14)
abbrev rmX11_multiply : Room := { frames := 0, cells := 0, slots := 0, locals := 0 }
def wpX11_spell_45 (Q : Wd → Prop) : Nat → Nat → Int64 → Int32 → Wd → Prop
  | 0, _, _, _, _ => False
  | n + 1, v0, v5, v7, G => if 12 ≤ v7 then (Q G) else (gK G v0 = 11 ∧ ∃ b2, gR G v0 25 = some b2 ∧ gK G b2 = 21 ∧ vp_in v7 (gN G b2) ∧ ∀ G6 : Wd, G6 = uJ G b2 (v7).toNatClampNeg (v5 % 1000) → ∀ x7 : Int64, x7 = (v5 / 1000) → ∀ x8 : Int32, x8 = v7 + 1 → wpX11_spell_45 Q n v0 x7 x8 G6)
def wpX11_spell_6 (Q : Wd → Prop) : Nat → Nat → Int64 → Int64 → Int32 → Wd → Prop
  | 0, _, _, _, _, _ => False
  | n + 1, v0, v1, v5, v7, G => if 5 ≤ v7 then (∃ m, wpX11_spell_45 Q m v0 v1 5 G) else (gK G v0 = 11 ∧ ∃ b10, gR G v0 25 = some b10 ∧ gK G b10 = 21 ∧ vp_in v7 (gN G b10) ∧ ∀ G14 : Wd, G14 = uJ G b10 (v7).toNatClampNeg (v5 % 1000) → ∀ x15 : Int64, x15 = (v5 / 1000) → ∀ x16 : Int32, x16 = v7 + 1 → wpX11_spell_6 Q n v0 v1 x15 x16 G14)
set_option maxRecDepth 100000 in
def wpX11_spell (a0 : Nat) (p1 : Int64) (p3 : Int64) (G : Wd) (Q : Wd → Prop) : Prop := ∃ m, wpX11_spell_6 Q m a0 p1 p3 0 G
abbrev rmX11_spell : Room := { frames := 0, cells := 0, slots := 0, locals := 0 }
def wpX11_restBy_6 (Q : Int64 → Wd → Prop) : Nat → Nat → Int64 → Int64 → Int32 → Wd → Prop
  | 0, _, _, _, _, _ => False
  | n + 1, v0, v1, v3, v5, G => if v5 < 0 then (Q v3 G) else (gK G v0 = 11 ∧ ∃ b2, gR G v0 25 = some b2 ∧ gK G b2 = 21 ∧ vp_in v5 (gN G b2) ∧ ¬ v1 = 0 ∧ ∀ x7 : Int64, x7 = (((v3 * 1000) + (gJ G b2 (v5).toNatClampNeg)) % v1) → ∀ x8 : Int32, x8 = v5 + (-1) → wpX11_restBy_6 Q n v0 v1 x7 x8 G)
set_option maxRecDepth 100000 in
def wpX11_restBy (a0 : Nat) (p1 : Int64) (G : Wd) (Q : Int64 → Wd → Prop) : Prop := ∃ m, wpX11_restBy_6 Q m a0 p1 0 11 G
abbrev rmX11_restBy : Room := { frames := 0, cells := 0, slots := 0, locals := 0 }
def wpX11_divided_9 (Q : Int64 → Wd → Prop) : Nat → Nat → Int64 → Int64 → Int64 → Int32 → Wd → Prop
  | 0, _, _, _, _, _, _ => False
  | n + 1, v0, v1, v3, v5, v7, G => if v7 < 0 then (Q v5 G) else (gK G v0 = 11 ∧ ∃ b2, gR G v0 25 = some b2 ∧ gK G b2 = 21 ∧ vp_in v7 (gN G b2) ∧ ∀ x6 : Int64, x6 = ((v3 * 1000) + (gJ G b2 (v7).toNatClampNeg)) → ¬ v1 = 0 ∧ ∀ x8 : Int64, x8 = ((v5 * 1000) + (x6 / v1)) → ¬ v1 = 0 ∧ ∀ x10 : Int64, x10 = (x6 % v1) → if x8 < 1000000000000000 then (∀ x11 : Int32, x11 = v7 + (-1) → wpX11_divided_9 Q n v0 v1 x10 x8 x11 G) else (∀ G12 : Wd, G12 = uI G v0 22 1 → Q 1 G12))
set_option maxRecDepth 100000 in
def wpX11_divided (a0 : Nat) (p1 : Int64) (G : Wd) (Q : Int64 → Wd → Prop) : Prop := ∃ m, wpX11_divided_9 Q m a0 p1 0 0 11 G
abbrev rmX11_divided : Room := { frames := 0, cells := 0, slots := 0, locals := 0 }
def wpX11_bound_24 (Q : Wd → Prop) (s0 : Nat) (s1 : Int32) (G : Wd) : Prop := gK G s0 = 11 ∧ isB s1 ∧ ∀ G2 : Wd, G2 = uI G s0 22 s1 → Q G2
def wpX11_bound_19 (Q : Wd → Prop) (s0 : Nat) (G : Wd) : Prop := wpX11_bound_24 Q s0 1 G
set_option maxRecDepth 100000 in
def wpX11_bound (a0 : Nat) (G : Wd) (Q : Wd → Prop) : Prop := gK G a0 = 11 ∧ if (gI G a0 22) = 0 then (if (gJ G a0 23) < 1000 then (wpX11_bound_24 Q a0 0 G) else (wpX11_bound_19 Q a0 G)) else (wpX11_bound_19 Q a0 G)
abbrev rmX11_bound : Room := { frames := 0, cells := 0, slots := 0, locals := 0 }
def wpX11_plus_369 (Q : Wd → Prop) (v0 : Nat) (v21 : Int64) (s0 : Nat) (s1 : Int64) (G : Wd) : Prop := gK G s0 = 11 ∧ ∀ G2 : Wd, G2 = uJ G s0 20 s1 → gK G2 v0 = 11 ∧ ∀ G4 : Wd, G4 = uJ G2 v0 21 v21 → Q G4
def wpX11_plus_307 (Q : Wd → Prop) (v0 : Nat) (v5 : Int64) (v7 : Int64) (v9 : Int64) (v11 : Int32) (v12 : Int64) (v14 : Int64) (G : Wd) : Prop := gK G v0 = 11 ∧ wpX11_spell v0 v12 v14 G (fun G7 => gK G7 v0 = 11 ∧ wpX11_restBy v0 v5 G7 (fun r9 G10 => wpX11_common v5 r9 G10 (fun r11 G12 => gK G12 v0 = 11 ∧ wpX11_divided v0 r11 G12 (fun r14 G15 => gK G15 v0 = 11 ∧ wpX11_below v0 v7 v9 G15 (fun r17 G18 => ¬ r11 = 0 ∧ gK G18 v0 = 11 ∧ wpX11_below v0 r17 (v5 / r11) G18 (fun r21 G22 => if v11 = 0 then (wpX11_plus_369 Q v0 r21 v0 r14 G22) else (wpX11_plus_369 Q v0 r21 v0 (-r14) G22)))))))
def wpX11_plus_299 (Q : Wd → Prop) (v0 : Nat) (v5 : Int64) (v7 : Int64) (v9 : Int64) (v11 : Int32) (v18 : Int64) (v20 : Int64) (G : Wd) : Prop := wpX11_plus_307 Q v0 v5 v7 v9 v11 v18 v20 G
def wpX11_plus_276 (Q : Wd → Prop) (v0 : Nat) (v5 : Int64) (v7 : Int64) (v9 : Int64) (v18 : Int64) (v20 : Int64) (s0 : Int32) (G : Wd) : Prop := if v20 < 0 then (∀ x23 : Int64, x23 = (v20 + 1000000000000000) → ∀ x24 : Int64, x24 = (v18 - 1) → wpX11_plus_299 Q v0 v5 v7 v9 s0 x24 x23 G) else (wpX11_plus_299 Q v0 v5 v7 v9 s0 v18 v20 G)
def wpX11_plus_262 (Q : Wd → Prop) (v0 : Nat) (v5 : Int64) (v7 : Int64) (v9 : Int64) (v11 : Int32) (v16 : Int32) (v17 : Int32) (v18 : Int64) (s0 : Int64) (G : Wd) : Prop := if v17 = 0 then (wpX11_plus_276 Q v0 v5 v7 v9 v18 s0 v11 G) else (wpX11_plus_276 Q v0 v5 v7 v9 v18 s0 v16 G)
def wpX11_plus_238 (Q : Wd → Prop) (v0 : Nat) (v5 : Int64) (v7 : Int64) (v9 : Int64) (v11 : Int32) (v14 : Int64) (v16 : Int32) (v17 : Int32) (s0 : Int64) (G : Wd) : Prop := if v17 = 0 then (gK G v0 = 11 ∧ wpX11_plus_262 Q v0 v5 v7 v9 v11 v16 v17 s0 (v14 - (gJ G v0 24)) G) else (gK G v0 = 11 ∧ wpX11_plus_262 Q v0 v5 v7 v9 v11 v16 v17 s0 ((gJ G v0 24) - v14) G)
def wpX11_plus_214 (Q : Wd → Prop) (v0 : Nat) (v5 : Int64) (v7 : Int64) (v9 : Int64) (v11 : Int32) (v12 : Int64) (v14 : Int64) (v16 : Int32) (s0 : Int32) (G : Wd) : Prop := if s0 = 0 then (gK G v0 = 11 ∧ wpX11_plus_238 Q v0 v5 v7 v9 v11 v14 v16 s0 (v12 - (gJ G v0 23)) G) else (gK G v0 = 11 ∧ wpX11_plus_238 Q v0 v5 v7 v9 v11 v14 v16 s0 ((gJ G v0 23) - v12) G)
def wpX11_plus_209 (Q : Wd → Prop) (v0 : Nat) (v5 : Int64) (v7 : Int64) (v9 : Int64) (v11 : Int32) (v12 : Int64) (v14 : Int64) (v16 : Int32) (G : Wd) : Prop := wpX11_plus_214 Q v0 v5 v7 v9 v11 v12 v14 v16 1 G
def wpX11_plus_213 (Q : Wd → Prop) (v0 : Nat) (v5 : Int64) (v7 : Int64) (v9 : Int64) (v11 : Int32) (v12 : Int64) (v14 : Int64) (v16 : Int32) (G : Wd) : Prop := wpX11_plus_214 Q v0 v5 v7 v9 v11 v12 v14 v16 0 G
def wpX11_plus_119 (Q : Wd → Prop) (v0 : Nat) (v5 : Int64) (v7 : Int64) (v9 : Int64) (v11 : Int32) (v12 : Int64) (v14 : Int64) (v16 : Int32) (s0 : Nat) (s1 : Int64) (G : Wd) : Prop := gK G s0 = 11 ∧ wpX11_multiply s0 s1 v7 G (fun G31 => gK G31 v0 = 11 ∧ wpX11_bound v0 G31 (fun G34 => if v11 = v16 then (gK G34 v0 = 11 ∧ ∀ x37 : Int64, x37 = (v12 + (gJ G34 v0 23)) → ∀ x38 : Int64, x38 = (v14 + (gJ G34 v0 24)) → if x38 < 1000000000000000 then (wpX11_plus_307 Q v0 v5 v7 v9 v11 x37 x38 G34) else (∀ x39 : Int64, x39 = (x38 - 1000000000000000) → ∀ x40 : Int64, x40 = (x37 + 1) → wpX11_plus_307 Q v0 v5 v7 v9 v11 x40 x39 G34)) else (gK G34 v0 = 11 ∧ if v12 < (gJ G34 v0 23) then (wpX11_plus_209 Q v0 v5 v7 v9 v11 v12 v14 v16 G34) else (if v12 = (gJ G34 v0 23) then (if v14 < (gJ G34 v0 24) then (wpX11_plus_209 Q v0 v5 v7 v9 v11 v12 v14 v16 G34) else (wpX11_plus_213 Q v0 v5 v7 v9 v11 v12 v14 v16 G34)) else (wpX11_plus_213 Q v0 v5 v7 v9 v11 v12 v14 v16 G34)))))
def wpX11_plus_105 (Q : Wd → Prop) (v0 : Nat) (v1 : Int64) (v5 : Int64) (v7 : Int64) (v9 : Int64) (v11 : Int32) (v12 : Int64) (v14 : Int64) (s0 : Int32) (G : Wd) : Prop := if s0 = 0 then (wpX11_plus_119 Q v0 v5 v7 v9 v11 v12 v14 s0 v0 v1 G) else (wpX11_plus_119 Q v0 v5 v7 v9 v11 v12 v14 s0 v0 (-v1) G)
def wpX11_plus_73 (Q : Wd → Prop) (v0 : Nat) (v1 : Int64) (v5 : Int64) (v7 : Int64) (v9 : Int64) (v11 : Int32) (s0 : Nat) (s1 : Int64) (G : Wd) : Prop := gK G s0 = 11 ∧ wpX11_multiply s0 s1 v9 G (fun G43 => gK G43 v0 = 11 ∧ wpX11_bound v0 G43 (fun G46 => gK G46 v0 = 11 ∧ ∀ x48 : Int64, x48 = gJ G46 v0 23 → ∀ x49 : Int64, x49 = gJ G46 v0 24 → if v1 < 0 then (wpX11_plus_105 Q v0 v1 v5 v7 v9 v11 x48 x49 1 G46) else (wpX11_plus_105 Q v0 v1 v5 v7 v9 v11 x48 x49 0 G46)))
def wpX11_plus_39 (Q : Wd → Prop) (v0 : Nat) (v1 : Int64) (v5 : Int64) (v7 : Int64) (v9 : Int64) (s0 : Int32) (G : Wd) : Prop := gK G v0 = 11 ∧ wpX11_multiply v0 (gJ G v0 21) v9 G (fun G52 => gK G52 v0 = 11 ∧ wpX11_bound v0 G52 (fun G55 => if s0 = 0 then (gK G55 v0 = 11 ∧ wpX11_plus_73 Q v0 v1 v5 v7 v9 s0 v0 (gJ G55 v0 20) G55) else (gK G55 v0 = 11 ∧ wpX11_plus_73 Q v0 v1 v5 v7 v9 s0 v0 (-(gJ G55 v0 20)) G55)))
set_option maxRecDepth 100000 in
def wpX11_plus (a0 : Nat) (p1 : Int64) (p3 : Int64) (G : Wd) (Q : Wd → Prop) : Prop := gK G a0 = 11 ∧ wpX11_common (gJ G a0 21) p3 G (fun r59 G60 => gK G60 a0 = 11 ∧ ¬ r59 = 0 ∧ ∀ x63 : Int64, x63 = ((gJ G60 a0 21) / r59) → ¬ r59 = 0 ∧ ∀ x65 : Int64, x65 = (p3 / r59) → if (gJ G60 a0 20) < 0 then (wpX11_plus_39 Q a0 p1 r59 x63 x65 1 G60) else (wpX11_plus_39 Q a0 p1 r59 x63 x65 0 G60))
abbrev rmX11_plus : Room := { frames := 1, cells := 0, slots := 0, locals := 36 }
def wpX11_isLess_170 (Q : Int32 → Wd → Prop) (v9 : Int32) (v14 : Int32) (s0 : Int32) (G : Wd) : Prop := if v9 = 0 then (isB v14 ∧ Q v14 G) else (isB s0 ∧ Q s0 G)
def wpX11_isLess_165 (Q : Int32 → Wd → Prop) (v9 : Int32) (v14 : Int32) (G : Wd) : Prop := wpX11_isLess_170 Q v9 v14 1 G
def wpX11_isLess_169 (Q : Int32 → Wd → Prop) (v9 : Int32) (v14 : Int32) (G : Wd) : Prop := wpX11_isLess_170 Q v9 v14 0 G
def wpX11_isLess_133 (Q : Int32 → Wd → Prop) (v0 : Nat) (v9 : Int32) (v10 : Int64) (v12 : Int64) (s0 : Int32) (G : Wd) : Prop := gK G v0 = 11 ∧ if (gJ G v0 23) < v10 then (wpX11_isLess_165 Q v9 s0 G) else (if v10 = (gJ G v0 23) then (if (gJ G v0 24) < v12 then (wpX11_isLess_165 Q v9 s0 G) else (wpX11_isLess_169 Q v9 s0 G)) else (wpX11_isLess_169 Q v9 s0 G))
def wpX11_isLess_128 (Q : Int32 → Wd → Prop) (v0 : Nat) (v9 : Int32) (v10 : Int64) (v12 : Int64) (G : Wd) : Prop := wpX11_isLess_133 Q v0 v9 v10 v12 1 G
def wpX11_isLess_132 (Q : Int32 → Wd → Prop) (v0 : Nat) (v9 : Int32) (v10 : Int64) (v12 : Int64) (G : Wd) : Prop := wpX11_isLess_133 Q v0 v9 v10 v12 0 G
def wpX11_isLess_94 (Q : Int32 → Wd → Prop) (v0 : Nat) (v3 : Int64) (v9 : Int32) (v10 : Int64) (v12 : Int64) (s0 : Nat) (s1 : Int64) (G : Wd) : Prop := gK G s0 = 11 ∧ wpX11_multiply s0 s1 v3 G (fun G4 => gK G4 v0 = 11 ∧ if v10 < (gJ G4 v0 23) then (wpX11_isLess_128 Q v0 v9 v10 v12 G4) else (if v10 = (gJ G4 v0 23) then (if v12 < (gJ G4 v0 24) then (wpX11_isLess_128 Q v0 v9 v10 v12 G4) else (wpX11_isLess_132 Q v0 v9 v10 v12 G4)) else (wpX11_isLess_132 Q v0 v9 v10 v12 G4)))
def wpX11_isLess_63 (Q : Int32 → Wd → Prop) (v0 : Nat) (v3 : Int64) (v5 : Int64) (v7 : Int64) (v9 : Int32) (s0 : Nat) (s1 : Int64) (G : Wd) : Prop := gK G s0 = 11 ∧ wpX11_multiply s0 s1 v7 G (fun G8 => gK G8 v0 = 11 ∧ ∀ x10 : Int64, x10 = gJ G8 v0 23 → ∀ x11 : Int64, x11 = gJ G8 v0 24 → if v9 = 0 then (wpX11_isLess_94 Q v0 v3 v9 x10 x11 v0 v5 G8) else (wpX11_isLess_94 Q v0 v3 v9 x10 x11 v0 (-v5) G8))
def wpX11_isLess_49 (Q : Int32 → Wd → Prop) (v0 : Nat) (v1 : Int64) (v3 : Int64) (v5 : Int64) (v7 : Int64) (s0 : Int32) (G : Wd) : Prop := if s0 = 0 then (wpX11_isLess_63 Q v0 v3 v5 v7 s0 v0 v1 G) else (wpX11_isLess_63 Q v0 v3 v5 v7 s0 v0 (-v1) G)
def wpX11_isLess_23 (Q : Int32 → Wd → Prop) (v0 : Nat) (v1 : Int64) (v3 : Int64) (v5 : Int64) (v7 : Int64) (s0 : Int32) (s1 : Int32) (G : Wd) : Prop := if s0 = s1 then (if v1 < 0 then (wpX11_isLess_49 Q v0 v1 v3 v5 v7 1 G) else (wpX11_isLess_49 Q v0 v1 v3 v5 v7 0 G)) else (if v1 < 0 then (Q 1 G) else (Q 0 G))
def wpX11_isLess_11 (Q : Int32 → Wd → Prop) (v0 : Nat) (v1 : Int64) (v3 : Int64) (v5 : Int64) (v7 : Int64) (s0 : Int32) (G : Wd) : Prop := if v5 < 0 then (wpX11_isLess_23 Q v0 v1 v3 v5 v7 s0 1 G) else (wpX11_isLess_23 Q v0 v1 v3 v5 v7 s0 0 G)
set_option maxRecDepth 100000 in
def wpX11_isLess (a0 : Nat) (p1 : Int64) (p3 : Int64) (p5 : Int64) (p7 : Int64) (G : Wd) (Q : Int32 → Wd → Prop) : Prop := if p1 < 0 then (wpX11_isLess_11 Q a0 p1 p3 p5 p7 1 G) else (wpX11_isLess_11 Q a0 p1 p3 p5 p7 0 G)
abbrev rmX11_isLess : Room := { frames := 1, cells := 0, slots := 0, locals := 36 }
set_option maxRecDepth 100000 in
def wpX11_lies (a0 : Nat) (p1 : Int32) (p2 : Int32) (G : Wd) (Q : Int64 → Wd → Prop) : Prop := wpX11_isIn ((p1).toInt64) 1 7 G (fun r1 G2 => if r1 = 0 then (Q (-9000000000000000001) G2) else (wpX11_isIn ((p2).toInt64) 0 (((p1 - 1)).toInt64) G2 (fun r3 G4 => if r3 = 0 then (Q (-9000000000000000001) G4) else (gK G4 a0 = 11 ∧ ∃ b6, gR G4 a0 0 = some b6 ∧ gK G4 b6 = 20 ∧ vp_in p1 (gN G4 b6) ∧ ∀ x10 : Int64, x10 = (gI G4 b6 (p1).toNatClampNeg).toInt64 → ∃ b11, gR G4 a0 0 = some b11 ∧ gK G4 b11 = 20 ∧ vp_in p1 (gN G4 b11) ∧ ∀ G15 : Wd, G15 = uI G4 b11 (p1).toNatClampNeg p2 → Q x10 G15))))
abbrev rmX11_lies : Room := { frames := 1, cells := 0, slots := 0, locals := 25 }
def wpX11_isWithin_2 (Q : Int32 → Wd → Prop) : Nat → Nat → Int32 → Int32 → Wd → Prop
  | 0, _, _, _, _ => False
  | n + 1, v0, v2, v3, G => if v3 ≤ v2 then (if v3 = v2 then (Q 1 G) else (Q 0 G)) else (gK G v0 = 11 ∧ ∃ b2, gR G v0 0 = some b2 ∧ gK G b2 = 20 ∧ vp_in v3 (gN G b2) ∧ ∀ x6 : Int32, x6 = gI G b2 (v3).toNatClampNeg → wpX11_isWithin_2 Q n v0 v2 x6 G)
set_option maxRecDepth 100000 in
def wpX11_isWithin (a0 : Nat) (p1 : Int32) (p2 : Int32) (G : Wd) (Q : Int32 → Wd → Prop) : Prop := ∃ m, wpX11_isWithin_2 Q m a0 p2 p1 G
abbrev rmX11_isWithin : Room := { frames := 0, cells := 0, slots := 0, locals := 0 }
set_option maxRecDepth 100000 in
def wpX11_isPlace (p0 : Int32) (G : Wd) (Q : Int32 → Wd → Prop) : Prop := wpX11_isIn ((p0).toInt64) 0 7 G (fun r1 G2 => isB r1 ∧ Q r1 G2)
abbrev rmX11_isPlace : Room := { frames := 1, cells := 0, slots := 0, locals := 25 }
set_option maxRecDepth 100000 in
def wpX11_within (a0 : Nat) (p1 : Int32) (p2 : Int32) (G : Wd) (Q : Int64 → Wd → Prop) : Prop := wpX11_isPlace p1 G (fun r1 G2 => if r1 = 0 then (Q (-9000000000000000001) G2) else (wpX11_isPlace p2 G2 (fun r3 G4 => if r3 = 0 then (Q (-9000000000000000001) G4) else (gK G4 a0 = 11 ∧ wpX11_isWithin a0 p1 p2 G4 (fun r6 G7 => if r6 = 0 then (Q 0 G7) else (Q 1 G7))))))
abbrev rmX11_within : Room := { frames := 2, cells := 0, slots := 0, locals := 45 }
set_option maxRecDepth 100000 in
def wpX11_isOne (a0 : Nat) (p1 : Int32) (G : Wd) (Q : Int32 → Wd → Prop) : Prop := gK G a0 = 11 ∧ wpX11_isIn ((p1).toInt64) 0 ((((gI G a0 1) - 1)).toInt64) G (fun r2 G3 => isB r2 ∧ Q r2 G3)
abbrev rmX11_isOne : Room := { frames := 1, cells := 0, slots := 0, locals := 25 }
set_option maxRecDepth 100000 in
def wpX11_likeness (a0 : Nat) (p1 : Int32) (p2 : Int32) (p3 : Int32) (p4 : Int32) (G : Wd) (Q : Int64 → Wd → Prop) : Prop := wpX11_isIn ((p1).toInt64) 0 4 G (fun r1 G2 => if r1 = 0 then (Q (-9000000000000000001) G2) else (wpX11_isIn ((p2).toInt64) 0 99 G2 (fun r3 G4 => if r3 = 0 then (Q (-9000000000000000001) G4) else (wpX11_isIn ((p3).toInt64) 1 1000 G4 (fun r5 G6 => if r5 = 0 then (Q (-9000000000000000001) G6) else (wpX11_isIn ((p4).toInt64) 1 1000 G6 (fun r7 G8 => if r7 = 0 then (Q (-9000000000000000001) G8) else (gK G8 a0 = 11 ∧ if (gI G8 a0 1) = 24 then (Q (-9000000000000000003) G8) else (∃ b10, gR G8 a0 2 = some b10 ∧ gK G8 b10 = 20 ∧ vp_in (gI G8 a0 1) (gN G8 b10) ∧ ∀ G14 : Wd, G14 = uI G8 b10 (gI G8 a0 1).toNatClampNeg p1 → ∃ b16, gR G14 a0 3 = some b16 ∧ gK G14 b16 = 20 ∧ vp_in (gI G14 a0 1) (gN G14 b16) ∧ ∀ G20 : Wd, G20 = uI G14 b16 (gI G14 a0 1).toNatClampNeg (p2 / 10) → ∃ b22, gR G20 a0 4 = some b22 ∧ gK G20 b22 = 20 ∧ vp_in (gI G20 a0 1) (gN G20 b22) ∧ ∀ G26 : Wd, G26 = uI G20 b22 (gI G20 a0 1).toNatClampNeg (p2 % 10) → ∃ b28, gR G26 a0 5 = some b28 ∧ gK G26 b28 = 20 ∧ vp_in (gI G26 a0 1) (gN G26 b28) ∧ ∀ G32 : Wd, G32 = uI G26 b28 (gI G26 a0 1).toNatClampNeg p3 → ∃ b34, gR G32 a0 6 = some b34 ∧ gK G32 b34 = 20 ∧ vp_in (gI G32 a0 1) (gN G32 b34) ∧ ∀ G38 : Wd, G38 = uI G32 b34 (gI G32 a0 1).toNatClampNeg p4 → ∃ b40, gR G38 a0 7 = some b40 ∧ gK G38 b40 = 20 ∧ vp_in (gI G38 a0 1) (gN G38 b40) ∧ ∀ G44 : Wd, G44 = uI G38 b40 (gI G38 a0 1).toNatClampNeg 0 → ∃ b46, gR G44 a0 8 = some b46 ∧ gK G44 b46 = 20 ∧ vp_in (gI G44 a0 1) (gN G44 b46) ∧ ∀ G50 : Wd, G50 = uI G44 b46 (gI G44 a0 1).toNatClampNeg 0 → ∃ b52, gR G50 a0 9 = some b52 ∧ gK G50 b52 = 20 ∧ vp_in (gI G50 a0 1) (gN G50 b52) ∧ ∀ G56 : Wd, G56 = uI G50 b52 (gI G50 a0 1).toNatClampNeg 9999 → ∃ b58, gR G56 a0 10 = some b58 ∧ gK G56 b58 = 20 ∧ vp_in (gI G56 a0 1) (gN G56 b58) ∧ ∀ G62 : Wd, G62 = uI G56 b58 (gI G56 a0 1).toNatClampNeg 1 → ∃ b64, gR G62 a0 11 = some b64 ∧ gK G62 b64 = 20 ∧ vp_in (gI G62 a0 1) (gN G62 b64) ∧ ∀ G68 : Wd, G68 = uI G62 b64 (gI G62 a0 1).toNatClampNeg 0 → ∃ b70, gR G68 a0 12 = some b70 ∧ gK G68 b70 = 22 ∧ vp_in (gI G68 a0 1) (gN G68 b70) ∧ ∀ G74 : Wd, G74 = uI G68 b70 (gI G68 a0 1).toNatClampNeg 0 → ∀ G76 : Wd, G76 = uI G74 a0 1 ((gI G74 a0 1) + 1) → Q ((((gI G76 a0 1) - 1)).toInt64) G76)))))))))
abbrev rmX11_likeness : Room := { frames := 1, cells := 0, slots := 0, locals := 25 }
set_option maxRecDepth 100000 in
theorem sX11_init {l : Launch} {D : Dx} {a0 : Nat} {G : Wd} {Q : Wd → Prop} (hw : wpX11_init a0 G Q) : Met l yX11_init (wM yX11_init cX11_init 2 none) rmX11_init (PM D [.ref a0] G) (QMv D Q) 26 1601 (Ab D) := by
  refine v_met (by decide) (Nat.le_of_ble_eq_true rfl) (fun X hl hR F => ?_)
  subst hl
  have F : Fx X D cX11_init 2 RX11 none "<init>" := F
  refine v_cast (L' := [(0, .ref a0)]) rfl rfl ?_
  unfold wpX11_init at hw
  refine v_aload_n F dX11_init_0 rfl 0 rfl ?_
  refine v_objInit F wd_872 wd_86 wd_87 (by rw [hR]; exact Nat.le_of_ble_eq_true rfl) (by rw [hR]; exact Nat.le_of_ble_eq_true rfl) dX11_init_1 ?_
  refine v_aload_n F dX11_init_4 rfl 0 rfl ?_
  refine v_bipush (v := 8) F dX11_init_5 (by decide) ?_
  refine v_newaI (N := 8) F wd_125 (by decide) (by decide) (by decide) (by rw [hR]; exact Nat.le_of_ble_eq_true rfl) (by rw [hR]; exact Nat.le_of_ble_eq_true rfl) dX11_init_7 ?_
  generalize hz2 : gZ G = z2
  refine v_nmG (fun G1 hG1 => ?_)
  have hw := hw z2 G1 hz2.symm hG1
  obtain ⟨kd3, hw⟩ := hw
  refine v_putR F fl_X11_7 (fun _ => rfl) ⟨rfl, rfl, fun _ => rfl⟩ kd3 dX11_init_9 ?_
  refine v_nmG (fun G4 hG4 => ?_)
  have hw := hw G4 hG4
  refine v_aload_n F dX11_init_12 rfl 0 rfl ?_
  refine v_bipush (v := 24) F dX11_init_13 (by decide) ?_
  refine v_newaI (N := 24) F wd_125 (by decide) (by decide) (by decide) (by rw [hR]; exact Nat.le_of_ble_eq_true rfl) (by rw [hR]; exact Nat.le_of_ble_eq_true rfl) dX11_init_15 ?_
  generalize hz6 : gZ G4 = z6
  refine v_nmG (fun G5 hG5 => ?_)
  have hw := hw z6 G5 hz6.symm hG5
  obtain ⟨kd7, hw⟩ := hw
  refine v_putR F fl_X11_13 (fun _ => rfl) ⟨rfl, rfl, fun _ => rfl⟩ kd7 dX11_init_17 ?_
  refine v_nmG (fun G8 hG8 => ?_)
  have hw := hw G8 hG8
  refine v_aload_n F dX11_init_20 rfl 0 rfl ?_
  refine v_bipush (v := 24) F dX11_init_21 (by decide) ?_
  refine v_newaI (N := 24) F wd_125 (by decide) (by decide) (by decide) (by rw [hR]; exact Nat.le_of_ble_eq_true rfl) (by rw [hR]; exact Nat.le_of_ble_eq_true rfl) dX11_init_23 ?_
  generalize hz10 : gZ G8 = z10
  refine v_nmG (fun G9 hG9 => ?_)
  have hw := hw z10 G9 hz10.symm hG9
  obtain ⟨kd11, hw⟩ := hw
  refine v_putR F fl_X11_16 (fun _ => rfl) ⟨rfl, rfl, fun _ => rfl⟩ kd11 dX11_init_25 ?_
  refine v_nmG (fun G12 hG12 => ?_)
  have hw := hw G12 hG12
  refine v_aload_n F dX11_init_28 rfl 0 rfl ?_
  refine v_bipush (v := 24) F dX11_init_29 (by decide) ?_
  refine v_newaI (N := 24) F wd_125 (by decide) (by decide) (by decide) (by rw [hR]; exact Nat.le_of_ble_eq_true rfl) (by rw [hR]; exact Nat.le_of_ble_eq_true rfl) dX11_init_31 ?_
  generalize hz14 : gZ G12 = z14
  refine v_nmG (fun G13 hG13 => ?_)
  have hw := hw z14 G13 hz14.symm hG13
  obtain ⟨kd15, hw⟩ := hw
  refine v_putR F fl_X11_19 (fun _ => rfl) ⟨rfl, rfl, fun _ => rfl⟩ kd15 dX11_init_33 ?_
  refine v_nmG (fun G16 hG16 => ?_)
  have hw := hw G16 hG16
  refine v_aload_n F dX11_init_36 rfl 0 rfl ?_
  refine v_bipush (v := 24) F dX11_init_37 (by decide) ?_
  refine v_newaI (N := 24) F wd_125 (by decide) (by decide) (by decide) (by rw [hR]; exact Nat.le_of_ble_eq_true rfl) (by rw [hR]; exact Nat.le_of_ble_eq_true rfl) dX11_init_39 ?_
  generalize hz18 : gZ G16 = z18
  refine v_nmG (fun G17 hG17 => ?_)
  have hw := hw z18 G17 hz18.symm hG17
  obtain ⟨kd19, hw⟩ := hw
  refine v_putR F fl_X11_22 (fun _ => rfl) ⟨rfl, rfl, fun _ => rfl⟩ kd19 dX11_init_41 ?_
  refine v_nmG (fun G20 hG20 => ?_)
  have hw := hw G20 hG20
  refine v_aload_n F dX11_init_44 rfl 0 rfl ?_
  refine v_bipush (v := 24) F dX11_init_45 (by decide) ?_
  refine v_newaI (N := 24) F wd_125 (by decide) (by decide) (by decide) (by rw [hR]; exact Nat.le_of_ble_eq_true rfl) (by rw [hR]; exact Nat.le_of_ble_eq_true rfl) dX11_init_47 ?_
  generalize hz22 : gZ G20 = z22
  refine v_nmG (fun G21 hG21 => ?_)
  have hw := hw z22 G21 hz22.symm hG21
  obtain ⟨kd23, hw⟩ := hw
  refine v_putR F fl_X11_25 (fun _ => rfl) ⟨rfl, rfl, fun _ => rfl⟩ kd23 dX11_init_49 ?_
  refine v_nmG (fun G24 hG24 => ?_)
  have hw := hw G24 hG24
  refine v_aload_n F dX11_init_52 rfl 0 rfl ?_
  refine v_bipush (v := 24) F dX11_init_53 (by decide) ?_
  refine v_newaI (N := 24) F wd_125 (by decide) (by decide) (by decide) (by rw [hR]; exact Nat.le_of_ble_eq_true rfl) (by rw [hR]; exact Nat.le_of_ble_eq_true rfl) dX11_init_55 ?_
  generalize hz26 : gZ G24 = z26
  refine v_nmG (fun G25 hG25 => ?_)
  have hw := hw z26 G25 hz26.symm hG25
  obtain ⟨kd27, hw⟩ := hw
  refine v_putR F fl_X11_28 (fun _ => rfl) ⟨rfl, rfl, fun _ => rfl⟩ kd27 dX11_init_57 ?_
  refine v_nmG (fun G28 hG28 => ?_)
  have hw := hw G28 hG28
  refine v_aload_n F dX11_init_60 rfl 0 rfl ?_
  refine v_bipush (v := 24) F dX11_init_61 (by decide) ?_
  refine v_newaI (N := 24) F wd_125 (by decide) (by decide) (by decide) (by rw [hR]; exact Nat.le_of_ble_eq_true rfl) (by rw [hR]; exact Nat.le_of_ble_eq_true rfl) dX11_init_63 ?_
  generalize hz30 : gZ G28 = z30
  refine v_nmG (fun G29 hG29 => ?_)
  have hw := hw z30 G29 hz30.symm hG29
  obtain ⟨kd31, hw⟩ := hw
  refine v_putR F fl_X11_31 (fun _ => rfl) ⟨rfl, rfl, fun _ => rfl⟩ kd31 dX11_init_65 ?_
  refine v_nmG (fun G32 hG32 => ?_)
  have hw := hw G32 hG32
  refine v_aload_n F dX11_init_68 rfl 0 rfl ?_
  refine v_bipush (v := 24) F dX11_init_69 (by decide) ?_
  refine v_newaI (N := 24) F wd_125 (by decide) (by decide) (by decide) (by rw [hR]; exact Nat.le_of_ble_eq_true rfl) (by rw [hR]; exact Nat.le_of_ble_eq_true rfl) dX11_init_71 ?_
  generalize hz34 : gZ G32 = z34
  refine v_nmG (fun G33 hG33 => ?_)
  have hw := hw z34 G33 hz34.symm hG33
  obtain ⟨kd35, hw⟩ := hw
  refine v_putR F fl_X11_34 (fun _ => rfl) ⟨rfl, rfl, fun _ => rfl⟩ kd35 dX11_init_73 ?_
  refine v_nmG (fun G36 hG36 => ?_)
  have hw := hw G36 hG36
  refine v_aload_n F dX11_init_76 rfl 0 rfl ?_
  refine v_bipush (v := 24) F dX11_init_77 (by decide) ?_
  refine v_newaI (N := 24) F wd_125 (by decide) (by decide) (by decide) (by rw [hR]; exact Nat.le_of_ble_eq_true rfl) (by rw [hR]; exact Nat.le_of_ble_eq_true rfl) dX11_init_79 ?_
  generalize hz38 : gZ G36 = z38
  refine v_nmG (fun G37 hG37 => ?_)
  have hw := hw z38 G37 hz38.symm hG37
  obtain ⟨kd39, hw⟩ := hw
  refine v_putR F fl_X11_37 (fun _ => rfl) ⟨rfl, rfl, fun _ => rfl⟩ kd39 dX11_init_81 ?_
  refine v_nmG (fun G40 hG40 => ?_)
  have hw := hw G40 hG40
  refine v_aload_n F dX11_init_84 rfl 0 rfl ?_
  refine v_bipush (v := 24) F dX11_init_85 (by decide) ?_
  refine v_newaI (N := 24) F wd_125 (by decide) (by decide) (by decide) (by rw [hR]; exact Nat.le_of_ble_eq_true rfl) (by rw [hR]; exact Nat.le_of_ble_eq_true rfl) dX11_init_87 ?_
  generalize hz42 : gZ G40 = z42
  refine v_nmG (fun G41 hG41 => ?_)
  have hw := hw z42 G41 hz42.symm hG41
  obtain ⟨kd43, hw⟩ := hw
  refine v_putR F fl_X11_40 (fun _ => rfl) ⟨rfl, rfl, fun _ => rfl⟩ kd43 dX11_init_89 ?_
  refine v_nmG (fun G44 hG44 => ?_)
  have hw := hw G44 hG44
  refine v_aload_n F dX11_init_92 rfl 0 rfl ?_
  refine v_bipush (v := 24) F dX11_init_93 (by decide) ?_
  refine v_newaZ (N := 24) F wd_266 (by decide) (by decide) (by decide) (by rw [hR]; exact Nat.le_of_ble_eq_true rfl) (by rw [hR]; exact Nat.le_of_ble_eq_true rfl) dX11_init_95 ?_
  generalize hz46 : gZ G44 = z46
  refine v_nmG (fun G45 hG45 => ?_)
  have hw := hw z46 G45 hz46.symm hG45
  obtain ⟨kd47, hw⟩ := hw
  refine v_putR F fl_X11_43 (fun _ => rfl) ⟨rfl, rfl, fun _ => rfl⟩ kd47 dX11_init_97 ?_
  refine v_nmG (fun G48 hG48 => ?_)
  have hw := hw G48 hG48
  refine v_aload_n F dX11_init_100 rfl 0 rfl ?_
  refine v_iconst (v := 4) F dX11_init_101 (by decide) ?_
  refine v_newaI (N := 4) F wd_125 (by decide) (by decide) (by decide) (by rw [hR]; exact Nat.le_of_ble_eq_true rfl) (by rw [hR]; exact Nat.le_of_ble_eq_true rfl) dX11_init_102 ?_
  generalize hz50 : gZ G48 = z50
  refine v_nmG (fun G49 hG49 => ?_)
  have hw := hw z50 G49 hz50.symm hG49
  obtain ⟨kd51, hw⟩ := hw
  refine v_putR F fl_X11_47 (fun _ => rfl) ⟨rfl, rfl, fun _ => rfl⟩ kd51 dX11_init_104 ?_
  refine v_nmG (fun G52 hG52 => ?_)
  have hw := hw G52 hG52
  refine v_aload_n F dX11_init_107 rfl 0 rfl ?_
  refine v_bipush (v := 20) F dX11_init_108 (by decide) ?_
  refine v_newaI (N := 20) F wd_125 (by decide) (by decide) (by decide) (by rw [hR]; exact Nat.le_of_ble_eq_true rfl) (by rw [hR]; exact Nat.le_of_ble_eq_true rfl) dX11_init_110 ?_
  generalize hz54 : gZ G52 = z54
  refine v_nmG (fun G53 hG53 => ?_)
  have hw := hw z54 G53 hz54.symm hG53
  obtain ⟨kd55, hw⟩ := hw
  refine v_putR F fl_X11_50 (fun _ => rfl) ⟨rfl, rfl, fun _ => rfl⟩ kd55 dX11_init_112 ?_
  refine v_nmG (fun G56 hG56 => ?_)
  have hw := hw G56 hG56
  refine v_aload_n F dX11_init_115 rfl 0 rfl ?_
  refine v_bipush (v := 20) F dX11_init_116 (by decide) ?_
  refine v_newaI (N := 20) F wd_125 (by decide) (by decide) (by decide) (by rw [hR]; exact Nat.le_of_ble_eq_true rfl) (by rw [hR]; exact Nat.le_of_ble_eq_true rfl) dX11_init_118 ?_
  generalize hz58 : gZ G56 = z58
  refine v_nmG (fun G57 hG57 => ?_)
  have hw := hw z58 G57 hz58.symm hG57
  obtain ⟨kd59, hw⟩ := hw
  refine v_putR F fl_X11_53 (fun _ => rfl) ⟨rfl, rfl, fun _ => rfl⟩ kd59 dX11_init_120 ?_
  refine v_nmG (fun G60 hG60 => ?_)
  have hw := hw G60 hG60
  refine v_aload_n F dX11_init_123 rfl 0 rfl ?_
  refine v_bipush (v := 20) F dX11_init_124 (by decide) ?_
  refine v_newaI (N := 20) F wd_125 (by decide) (by decide) (by decide) (by rw [hR]; exact Nat.le_of_ble_eq_true rfl) (by rw [hR]; exact Nat.le_of_ble_eq_true rfl) dX11_init_126 ?_
  generalize hz62 : gZ G60 = z62
  refine v_nmG (fun G61 hG61 => ?_)
  have hw := hw z62 G61 hz62.symm hG61
  obtain ⟨kd63, hw⟩ := hw
  refine v_putR F fl_X11_56 (fun _ => rfl) ⟨rfl, rfl, fun _ => rfl⟩ kd63 dX11_init_128 ?_
  refine v_nmG (fun G64 hG64 => ?_)
  have hw := hw G64 hG64
  refine v_aload_n F dX11_init_131 rfl 0 rfl ?_
  refine v_bipush (v := 20) F dX11_init_132 (by decide) ?_
  refine v_newaI (N := 20) F wd_125 (by decide) (by decide) (by decide) (by rw [hR]; exact Nat.le_of_ble_eq_true rfl) (by rw [hR]; exact Nat.le_of_ble_eq_true rfl) dX11_init_134 ?_
  generalize hz66 : gZ G64 = z66
  refine v_nmG (fun G65 hG65 => ?_)
  have hw := hw z66 G65 hz66.symm hG65
  obtain ⟨kd67, hw⟩ := hw
  refine v_putR F fl_X11_59 (fun _ => rfl) ⟨rfl, rfl, fun _ => rfl⟩ kd67 dX11_init_136 ?_
  refine v_nmG (fun G68 hG68 => ?_)
  have hw := hw G68 hG68
  refine v_aload_n F dX11_init_139 rfl 0 rfl ?_
  refine v_bipush (v := 20) F dX11_init_140 (by decide) ?_
  refine v_newaI (N := 20) F wd_125 (by decide) (by decide) (by decide) (by rw [hR]; exact Nat.le_of_ble_eq_true rfl) (by rw [hR]; exact Nat.le_of_ble_eq_true rfl) dX11_init_142 ?_
  generalize hz70 : gZ G68 = z70
  refine v_nmG (fun G69 hG69 => ?_)
  have hw := hw z70 G69 hz70.symm hG69
  obtain ⟨kd71, hw⟩ := hw
  refine v_putR F fl_X11_62 (fun _ => rfl) ⟨rfl, rfl, fun _ => rfl⟩ kd71 dX11_init_144 ?_
  refine v_nmG (fun G72 hG72 => ?_)
  have hw := hw G72 hG72
  refine v_aload_n F dX11_init_147 rfl 0 rfl ?_
  refine v_bipush (v := 12) F dX11_init_148 (by decide) ?_
  refine v_newaJ (N := 12) F wd_1012 (by decide) (by decide) (by decide) (by rw [hR]; exact Nat.le_of_ble_eq_true rfl) (by rw [hR]; exact Nat.le_of_ble_eq_true rfl) dX11_init_150 ?_
  generalize hz74 : gZ G72 = z74
  refine v_nmG (fun G73 hG73 => ?_)
  have hw := hw z74 G73 hz74.symm hG73
  obtain ⟨kd75, hw⟩ := hw
  refine v_putR F fl_X11_65 (fun _ => rfl) ⟨rfl, rfl, fun _ => rfl⟩ kd75 dX11_init_152 ?_
  refine v_nmG (fun G76 hG76 => ?_)
  have hw := hw G76 hG76
  refine v_aload_n F dX11_init_155 rfl 0 rfl ?_
  refine v_bipush (v := 24) F dX11_init_156 (by decide) ?_
  refine v_newaZ (N := 24) F wd_266 (by decide) (by decide) (by decide) (by rw [hR]; exact Nat.le_of_ble_eq_true rfl) (by rw [hR]; exact Nat.le_of_ble_eq_true rfl) dX11_init_158 ?_
  generalize hz78 : gZ G76 = z78
  refine v_nmG (fun G77 hG77 => ?_)
  have hw := hw z78 G77 hz78.symm hG77
  obtain ⟨kd79, hw⟩ := hw
  refine v_putR F fl_X11_69 (fun _ => rfl) ⟨rfl, rfl, fun _ => rfl⟩ kd79 dX11_init_160 ?_
  refine v_nmG (fun G80 hG80 => ?_)
  have hw := hw G80 hG80
  refine v_aload_n F dX11_init_163 rfl 0 rfl ?_
  refine v_bipush (v := 11) F dX11_init_164 (by decide) ?_
  refine v_newaI (N := 11) F wd_125 (by decide) (by decide) (by decide) (by rw [hR]; exact Nat.le_of_ble_eq_true rfl) (by rw [hR]; exact Nat.le_of_ble_eq_true rfl) dX11_init_166 ?_
  generalize hz82 : gZ G80 = z82
  refine v_nmG (fun G81 hG81 => ?_)
  have hw := hw z82 G81 hz82.symm hG81
  obtain ⟨kd83, hw⟩ := hw
  refine v_putR F fl_X11_72 (fun _ => rfl) ⟨rfl, rfl, fun _ => rfl⟩ kd83 dX11_init_168 ?_
  refine v_nmG (fun G84 hG84 => ?_)
  have hw := hw G84 hG84
  refine v_aload_n F dX11_init_171 rfl 0 rfl ?_
  refine v_bipush (v := 25) F dX11_init_172 (by decide) ?_
  refine v_newaI (N := 25) F wd_125 (by decide) (by decide) (by decide) (by rw [hR]; exact Nat.le_of_ble_eq_true rfl) (by rw [hR]; exact Nat.le_of_ble_eq_true rfl) dX11_init_174 ?_
  generalize hz86 : gZ G84 = z86
  refine v_nmG (fun G85 hG85 => ?_)
  have hw := hw z86 G85 hz86.symm hG85
  obtain ⟨kd87, hw⟩ := hw
  refine v_putR F fl_X11_75 (fun _ => rfl) ⟨rfl, rfl, fun _ => rfl⟩ kd87 dX11_init_176 ?_
  refine v_nmG (fun G88 hG88 => ?_)
  have hw := hw G88 hG88
  refine v_aload_n F dX11_init_179 rfl 0 rfl ?_
  refine v_bipush (v := 25) F dX11_init_180 (by decide) ?_
  refine v_newaI (N := 25) F wd_125 (by decide) (by decide) (by decide) (by rw [hR]; exact Nat.le_of_ble_eq_true rfl) (by rw [hR]; exact Nat.le_of_ble_eq_true rfl) dX11_init_182 ?_
  generalize hz90 : gZ G88 = z90
  refine v_nmG (fun G89 hG89 => ?_)
  have hw := hw z90 G89 hz90.symm hG89
  obtain ⟨kd91, hw⟩ := hw
  refine v_putR F fl_X11_78 (fun _ => rfl) ⟨rfl, rfl, fun _ => rfl⟩ kd91 dX11_init_184 ?_
  refine v_nmG (fun G92 hG92 => ?_)
  have hw := hw G92 hG92
  refine v_aload_n F dX11_init_187 rfl 0 rfl ?_
  refine v_sipush (v := 1024) F dX11_init_188 (by decide) ?_
  refine v_newaZ (N := 1024) F wd_266 (by decide) (by decide) (by decide) (by rw [hR]; exact Nat.le_of_ble_eq_true rfl) (by rw [hR]; exact Nat.le_of_ble_eq_true rfl) dX11_init_191 ?_
  generalize hz94 : gZ G92 = z94
  refine v_nmG (fun G93 hG93 => ?_)
  have hw := hw z94 G93 hz94.symm hG93
  obtain ⟨kd95, hw⟩ := hw
  refine v_putR F fl_X11_81 (fun _ => rfl) ⟨rfl, rfl, fun _ => rfl⟩ kd95 dX11_init_193 ?_
  refine v_nmG (fun G96 hG96 => ?_)
  have hw := hw G96 hG96
  refine v_aload_n F dX11_init_196 rfl 0 rfl ?_
  refine v_bipush (v := 24) F dX11_init_197 (by decide) ?_
  refine v_newaI (N := 24) F wd_125 (by decide) (by decide) (by decide) (by rw [hR]; exact Nat.le_of_ble_eq_true rfl) (by rw [hR]; exact Nat.le_of_ble_eq_true rfl) dX11_init_199 ?_
  generalize hz98 : gZ G96 = z98
  refine v_nmG (fun G97 hG97 => ?_)
  have hw := hw z98 G97 hz98.symm hG97
  obtain ⟨kd99, hw⟩ := hw
  refine v_putR F fl_X11_84 (fun _ => rfl) ⟨rfl, rfl, fun _ => rfl⟩ kd99 dX11_init_201 ?_
  refine v_nmG (fun G100 hG100 => ?_)
  have hw := hw G100 hG100
  refine v_aload_n F dX11_init_204 rfl 0 rfl ?_
  refine v_bipush (v := 80) F dX11_init_205 (by decide) ?_
  refine v_newaJ (N := 80) F wd_1012 (by decide) (by decide) (by decide) (by rw [hR]; exact Nat.le_of_ble_eq_true rfl) (by rw [hR]; exact Nat.le_of_ble_eq_true rfl) dX11_init_207 ?_
  generalize hz102 : gZ G100 = z102
  refine v_nmG (fun G101 hG101 => ?_)
  have hw := hw z102 G101 hz102.symm hG101
  obtain ⟨kd103, hw⟩ := hw
  refine v_putR F fl_X11_87 (fun _ => rfl) ⟨rfl, rfl, fun _ => rfl⟩ kd103 dX11_init_209 ?_
  refine v_nmG (fun G104 hG104 => ?_)
  have hw := hw G104 hG104
  refine v_iconst (v := 0) F dX11_init_212 (by decide) ?_
  refine v_istore_n (L' := [(1, .int 0), (0, .ref a0)]) F dX11_init_213 rfl (by decide) rfl ?_
  refine v_iload_n F dX11_init_214 rfl 0 rfl ?_
  refine v_iconst (v := 4) F dX11_init_215 (by decide) ?_
  refine v_icmp_ge (tgt := 232) F dX11_init_216 (by decide) (fun h => absurd h (by decide)) (fun _ => ?_)
  refine v_aload_n F dX11_init_219 rfl 1 rfl ?_
  have kd105 : gK G104 a0 = 11 := by rw [hG104]; exact kd103
  obtain ⟨b106, hr107, hw⟩ := hw
  refine v_getS F fl_X11_47 (fun _ => rfl) kd105 hr107 dX11_init_220 ?_
  refine v_iload_n F dX11_init_223 rfl 0 rfl ?_
  refine v_iconst (v := (-1)) F dX11_init_224 (by decide) ?_
  obtain ⟨kd108, hw⟩ := hw
  obtain ⟨hi109, hw⟩ := hw
  refine v_iastE F (k := 0) (by decide) kd108 hi109 dX11_init_225 (fun G110 hG110 => ?_)
  have hw := hw G110 hG110
  refine v_iinc (v := 1) (L' := [(1, .int 1), (0, .ref a0)]) F dX11_init_226 0 rfl (by decide) (by decide) rfl ?_
  refine v_goto (tgt := 214) F dX11_init_229 (by decide) ?_
  refine v_iload_n F dX11_init_214 rfl 0 rfl ?_
  refine v_iconst (v := 4) F dX11_init_215 (by decide) ?_
  refine v_icmp_ge (tgt := 232) F dX11_init_216 (by decide) (fun h => absurd h (by decide)) (fun _ => ?_)
  refine v_aload_n F dX11_init_219 rfl 1 rfl ?_
  have kd111 : gK G110 a0 = 11 := by rw [hG110]; exact kd105
  obtain ⟨b112, hr113, hw⟩ := hw
  refine v_getS F fl_X11_47 (fun _ => rfl) kd111 hr113 dX11_init_220 ?_
  refine v_iload_n F dX11_init_223 rfl 0 rfl ?_
  refine v_iconst (v := (-1)) F dX11_init_224 (by decide) ?_
  obtain ⟨kd114, hw⟩ := hw
  obtain ⟨hi115, hw⟩ := hw
  refine v_iastE F (k := 1) (by decide) kd114 hi115 dX11_init_225 (fun G116 hG116 => ?_)
  have hw := hw G116 hG116
  refine v_iinc (v := 2) (L' := [(1, .int 2), (0, .ref a0)]) F dX11_init_226 0 rfl (by decide) (by decide) rfl ?_
  refine v_goto (tgt := 214) F dX11_init_229 (by decide) ?_
  refine v_iload_n F dX11_init_214 rfl 0 rfl ?_
  refine v_iconst (v := 4) F dX11_init_215 (by decide) ?_
  refine v_icmp_ge (tgt := 232) F dX11_init_216 (by decide) (fun h => absurd h (by decide)) (fun _ => ?_)
  refine v_aload_n F dX11_init_219 rfl 1 rfl ?_
  have kd117 : gK G116 a0 = 11 := by rw [hG116]; exact kd111
  obtain ⟨b118, hr119, hw⟩ := hw
  refine v_getS F fl_X11_47 (fun _ => rfl) kd117 hr119 dX11_init_220 ?_
  refine v_iload_n F dX11_init_223 rfl 0 rfl ?_
  refine v_iconst (v := (-1)) F dX11_init_224 (by decide) ?_
  obtain ⟨kd120, hw⟩ := hw
  obtain ⟨hi121, hw⟩ := hw
  refine v_iastE F (k := 2) (by decide) kd120 hi121 dX11_init_225 (fun G122 hG122 => ?_)
  have hw := hw G122 hG122
  refine v_iinc (v := 3) (L' := [(1, .int 3), (0, .ref a0)]) F dX11_init_226 0 rfl (by decide) (by decide) rfl ?_
  refine v_goto (tgt := 214) F dX11_init_229 (by decide) ?_
  refine v_iload_n F dX11_init_214 rfl 0 rfl ?_
  refine v_iconst (v := 4) F dX11_init_215 (by decide) ?_
  refine v_icmp_ge (tgt := 232) F dX11_init_216 (by decide) (fun h => absurd h (by decide)) (fun _ => ?_)
  refine v_aload_n F dX11_init_219 rfl 1 rfl ?_
  have kd123 : gK G122 a0 = 11 := by rw [hG122]; exact kd117
  obtain ⟨b124, hr125, hw⟩ := hw
  refine v_getS F fl_X11_47 (fun _ => rfl) kd123 hr125 dX11_init_220 ?_
  refine v_iload_n F dX11_init_223 rfl 0 rfl ?_
  refine v_iconst (v := (-1)) F dX11_init_224 (by decide) ?_
  obtain ⟨kd126, hw⟩ := hw
  obtain ⟨hi127, hw⟩ := hw
  refine v_iastE F (k := 3) (by decide) kd126 hi127 dX11_init_225 (fun G128 hG128 => ?_)
  have hw := hw G128 hG128
  refine v_iinc (v := 4) (L' := [(1, .int 4), (0, .ref a0)]) F dX11_init_226 0 rfl (by decide) (by decide) rfl ?_
  refine v_goto (tgt := 214) F dX11_init_229 (by decide) ?_
  refine v_iload_n F dX11_init_214 rfl 0 rfl ?_
  refine v_iconst (v := 4) F dX11_init_215 (by decide) ?_
  refine v_icmp_ge (tgt := 232) F dX11_init_216 (by decide) (fun _ => ?_) (fun h => absurd h (by decide))
  refine v_widen (c' := 26) (s' := 1601) (by decide) (by decide) ?_
  exact v_vret F hw dX11_init_232
set_option maxRecDepth 100000 in
theorem sX11_isIn {l : Launch} {D : Dx} {p0 : Int64} {p2 : Int64} {p4 : Int64} {G : Wd} {Q : Int32 → Wd → Prop} (hw : wpX11_isIn p0 p2 p4 G Q) : Met l yX11_isIn (wM yX11_isIn cX11_isIn 6 (some .boolean)) rmX11_isIn (PM D [.long p0, .long p2, .long p4] G) (QMi D Q) 0 0 (Ab D) := by
  refine v_met (by decide) (Nat.le_of_ble_eq_true rfl) (fun X hl hR F => ?_)
  subst hl
  have F : Fx X D cX11_isIn 6 RX11 (some .boolean) "isIn" := F
  refine v_cast (L' := [(0, .long p0), (2, .long p2), (4, .long p4)]) rfl rfl ?_
  unfold wpX11_isIn at hw
  refine v_lload_n F dX11_isIn_0 rfl 0 rfl ?_
  refine v_lload_n F dX11_isIn_1 rfl 1 rfl ?_
  refine v_lcmp F dX11_isIn_2 ?_
  refine v_lif_lt (tgt := 17) F dX11_isIn_3 (by decide) (fun h => ?_) (fun h => ?_)
  · rw [if_pos h] at hw
    refine v_iconst (v := 0) F dX11_isIn_17 (by decide) ?_
    exact v_zret F (Or.inl rfl) hw dX11_isIn_18
  · rw [if_neg h] at hw
    refine v_lload_n F dX11_isIn_6 rfl 0 rfl ?_
    refine v_lload F dX11_isIn_7 2 rfl ?_
    refine v_lcmp F dX11_isIn_9 ?_
    refine v_lif_gt (tgt := 17) F dX11_isIn_10 (by decide) (fun h => ?_) (fun h => ?_)
    · rw [if_pos h] at hw
      refine v_iconst (v := 0) F dX11_isIn_17 (by decide) ?_
      exact v_zret F (Or.inl rfl) hw dX11_isIn_18
    · rw [if_neg h] at hw
      refine v_iconst (v := 1) F dX11_isIn_13 (by decide) ?_
      refine v_goto (tgt := 18) F dX11_isIn_14 (by decide) ?_
      exact v_zret F (Or.inr rfl) hw dX11_isIn_18
set_option maxRecDepth 100000 in
theorem sbX11_common_28 {X : Cx} {D : Dx} (hR : X.2.2.2.1 = rmX11_common) (F : Fx X D cX11_common 10 RX11 (some .long) "common") {Q : Int64 → Wd → Prop} : ∀ (n : Nat) (v4 : Int64) (v6 : Int64) (G : Wd), wpX11_common_28 Q  n v4 v6 G → V X D 10 (ZM X D (QMl D Q) 0 0) G 0 0 28 [(4, .long v4), (6, .long v6)] [] := by
  intro n
  induction n with
  | zero => intro v4 v6 G hw; exact hw.elim
  | succ n ih =>
    intro v4 v6 G hw
    simp only [wpX11_common_28] at hw
    refine v_lload F dX11_common_28 1 rfl ?_
    refine v_lconst (v := 0) F dX11_common_30 rfl ?_
    refine v_lcmp F dX11_common_31 ?_
    refine v_lif_eq (tgt := 53) F dX11_common_32 (by decide) (fun h => ?_) (fun h => ?_)
    · rw [if_pos h] at hw
      refine v_lload F dX11_common_53 0 rfl ?_
      exact v_lret F hw dX11_common_55
    · rw [if_neg h] at hw
      refine v_lload F dX11_common_35 0 rfl ?_
      refine v_lload F dX11_common_37 1 rfl ?_
      obtain ⟨hn1, hw⟩ := hw
      refine v_lremE F dX11_common_39 hn1 ?_
      refine v_topl (fun x2 hx2 => ?_)
      have hw := hw x2 hx2
      refine v_lstore (L' := [(8, .long x2), (4, .long v4), (6, .long v6)]) F dX11_common_40 (by decide) rfl ?_
      refine v_lload F dX11_common_42 2 rfl ?_
      refine v_lstore (L' := [(4, .long v6), (8, .long x2), (6, .long v6)]) F dX11_common_44 (by decide) rfl ?_
      refine v_lload F dX11_common_46 1 rfl ?_
      refine v_lstore (L' := [(6, .long x2), (4, .long v6), (8, .long x2)]) F dX11_common_48 (by decide) rfl ?_
      refine v_goto (tgt := 28) F dX11_common_50 (by decide) ?_
      exact v_loc [1, 0] rfl (ih _ _ _ hw)
set_option maxRecDepth 100000 in
theorem sbX11_common_26 {X : Cx} {D : Dx} (hR : X.2.2.2.1 = rmX11_common) (F : Fx X D cX11_common 10 RX11 (some .long) "common") {Q : Int64 → Wd → Prop} {v4 : Int64} {s0 : Int64} {G : Wd} (hw : wpX11_common_26 Q  v4 s0 G) : V X D 10 (ZM X D (QMl D Q) 0 0) G 0 0 26 [(4, .long v4)] [.long s0] := by
  unfold wpX11_common_26 at hw
  refine v_lstore (L' := [(6, .long s0), (4, .long v4)]) F dX11_common_26 (by decide) rfl ?_
  obtain ⟨m, hw⟩ := hw
  exact v_loc [1, 0] rfl (sbX11_common_28 hR F  m _ _ _ hw)
set_option maxRecDepth 100000 in
theorem sbX11_common_12 {X : Cx} {D : Dx} (hR : X.2.2.2.1 = rmX11_common) (F : Fx X D cX11_common 10 RX11 (some .long) "common") {Q : Int64 → Wd → Prop} {v2 : Int64} {s0 : Int64} {G : Wd} (hw : wpX11_common_12 Q  v2 s0 G) : V X D 10 (ZM X D (QMl D Q) 0 0) G 0 0 12 [(2, .long v2)] [.long s0] := by
  unfold wpX11_common_12 at hw
  refine v_lstore (L' := [(4, .long s0), (2, .long v2)]) F dX11_common_12 (by decide) rfl ?_
  refine v_lload_n F dX11_common_14 rfl 1 rfl ?_
  refine v_lconst (v := 0) F dX11_common_15 rfl ?_
  refine v_lcmp F dX11_common_16 ?_
  refine v_lif_ge (tgt := 25) F dX11_common_17 (by decide) (fun h => ?_) (fun h => ?_)
  · rw [if_neg h] at hw
    refine v_lload_n F dX11_common_25 rfl 1 rfl ?_
    exact v_loc [0] rfl (sbX11_common_26 hR F  hw)
  · rw [if_pos h] at hw
    refine v_lload_n F dX11_common_20 rfl 1 rfl ?_
    refine v_lneg F dX11_common_21 ?_
    refine v_goto (tgt := 26) F dX11_common_22 (by decide) ?_
    exact v_loc [0] rfl (sbX11_common_26 hR F  hw)
set_option maxRecDepth 100000 in
theorem sX11_common {l : Launch} {D : Dx} {p0 : Int64} {p2 : Int64} {G : Wd} {Q : Int64 → Wd → Prop} (hw : wpX11_common p0 p2 G Q) : Met l yX11_common (wM yX11_common cX11_common 10 (some .long)) rmX11_common (PM D [.long p0, .long p2] G) (QMl D Q) 0 0 (Ab D) := by
  refine v_met (by decide) (Nat.le_of_ble_eq_true rfl) (fun X hl hR F => ?_)
  subst hl
  have F : Fx X D cX11_common 10 RX11 (some .long) "common" := F
  refine v_cast (L' := [(0, .long p0), (2, .long p2)]) rfl rfl ?_
  unfold wpX11_common at hw
  refine v_lload_n F dX11_common_0 rfl 0 rfl ?_
  refine v_lconst (v := 0) F dX11_common_1 rfl ?_
  refine v_lcmp F dX11_common_2 ?_
  refine v_lif_ge (tgt := 11) F dX11_common_3 (by decide) (fun h => ?_) (fun h => ?_)
  · rw [if_neg h] at hw
    refine v_lload_n F dX11_common_11 rfl 0 rfl ?_
    exact v_loc [1] rfl (sbX11_common_12 hR F  hw)
  · rw [if_pos h] at hw
    refine v_lload_n F dX11_common_6 rfl 0 rfl ?_
    refine v_lneg F dX11_common_7 ?_
    refine v_goto (tgt := 12) F dX11_common_8 (by decide) ?_
    exact v_loc [1] rfl (sbX11_common_12 hR F  hw)
set_option maxRecDepth 100000 in
theorem sX11_set {l : Launch} {D : Dx} {a0 : Nat} {p1 : Int64} {p3 : Int64} {G : Wd} {Q : Wd → Prop} (hw : wpX11_set a0 p1 p3 G Q) : Met l yX11_set (wM yX11_set cX11_set 7 none) rmX11_set (PM D [.ref a0, .long p1, .long p3] G) (QMv D Q) 0 0 (Ab D) := by
  refine v_met (by decide) (Nat.le_of_ble_eq_true rfl) (fun X hl hR F => ?_)
  subst hl
  have F : Fx X D cX11_set 7 RX11 none "set" := F
  refine v_cast (L' := [(0, .ref a0), (1, .long p1), (3, .long p3)]) rfl rfl ?_
  unfold wpX11_set at hw
  refine v_lload_n F dX11_set_0 rfl 1 rfl ?_
  refine v_lload_n F dX11_set_1 rfl 2 rfl ?_
  refine v_calll (r_S F ls_X11_90 (sX11_common hw) (mkRm hR rfl rfl rfl rfl rfl rfl) rfl rfl (Nat.le_of_ble_eq_true rfl) dX11_set_2) (fun r1 G2 hw => ?_)
  refine v_lstore (L' := [(5, .long r1), (0, .ref a0), (1, .long p1), (3, .long p3)]) F dX11_set_5 (by decide) rfl ?_
  refine v_aload_n F dX11_set_7 rfl 1 rfl ?_
  refine v_lload_n F dX11_set_8 rfl 2 rfl ?_
  refine v_lload F dX11_set_9 0 rfl ?_
  obtain ⟨hn3, hw⟩ := hw
  refine v_ldiv F dX11_set_11 hn3 ?_
  obtain ⟨kd4, hw⟩ := hw
  refine v_putJ F fl_X11_94 (fun h => absurd h (by decide)) rfl kd4 dX11_set_12 ?_
  refine v_nmG (fun G5 hG5 => ?_)
  have hw := hw G5 hG5
  refine v_aload_n F dX11_set_15 rfl 1 rfl ?_
  refine v_lload_n F dX11_set_16 rfl 3 rfl ?_
  refine v_lload F dX11_set_17 0 rfl ?_
  obtain ⟨hn6, hw⟩ := hw
  refine v_ldiv F dX11_set_19 hn6 ?_
  have kd7 : gK G5 a0 = 11 := by rw [hG5]; exact kd4
  refine v_putJ F fl_X11_98 (fun h => absurd h (by decide)) rfl kd7 dX11_set_20 ?_
  refine v_nmG (fun G8 hG8 => ?_)
  have hw := hw G8 hG8
  refine v_widen (c' := 0) (s' := 0) (by decide) (by decide) ?_
  exact v_vret F hw dX11_set_23
set_option maxRecDepth 100000 in
theorem sbX11_below_26 {X : Cx} {D : Dx} (hR : X.2.2.2.1 = rmX11_below) (F : Fx X D cX11_below 9 RX11 (some .long) "below") {Q : Int64 → Wd → Prop} {v0 : Nat} {v1 : Int64} {v3 : Int64} {v5 : Int64} {s0 : Int64} {G : Wd} (hw : wpX11_below_26 Q  v0 v1 v3 v5 s0 G) : V X D 9 (ZM X D (QMl D Q) 0 0) G 0 0 26 [(0, .ref v0), (1, .long v1), (3, .long v3), (5, .long v5)] [.long s0] := by
  unfold wpX11_below_26 at hw
  refine v_lstore (L' := [(7, .long s0), (0, .ref v0), (1, .long v1), (3, .long v3), (5, .long v5)]) F dX11_below_26 (by decide) rfl ?_
  refine v_lload F dX11_below_28 4 rfl ?_
  refine v_lconst (v := 0) F dX11_below_30 rfl ?_
  refine v_lcmp F dX11_below_31 ?_
  refine v_lif_eq (tgt := 54) F dX11_below_32 (by decide) (fun h => ?_) (fun h => ?_)
  · rw [if_pos h] at hw
    refine v_lload_n F dX11_below_54 rfl 2 rfl ?_
    refine v_lload_n F dX11_below_55 rfl 3 rfl ?_
    refine v_lmul F dX11_below_56 ?_
    exact v_lret F hw dX11_below_57
  · rw [if_neg h] at hw
    refine v_lload F dX11_below_35 0 rfl ?_
    refine v_ldc2 (v := 999999999999999) F wd_1148 dX11_below_37 ?_
    refine v_lload F dX11_below_40 4 rfl ?_
    obtain ⟨hn1, hw⟩ := hw
    refine v_ldiv F dX11_below_42 hn1 ?_
    refine v_lcmp F dX11_below_43 ?_
    refine v_lif_le (tgt := 54) F dX11_below_44 (by decide) (fun h => ?_) (fun h => ?_)
    · rw [if_neg h] at hw
      refine v_lload_n F dX11_below_54 rfl 2 rfl ?_
      refine v_lload_n F dX11_below_55 rfl 3 rfl ?_
      refine v_lmul F dX11_below_56 ?_
      exact v_lret F hw dX11_below_57
    · rw [if_pos h] at hw
      refine v_aload_n F dX11_below_47 rfl 1 rfl ?_
      refine v_iconst (v := 1) F dX11_below_48 (by decide) ?_
      obtain ⟨kd2, hw⟩ := hw
      refine v_putZ F fl_X11_103 (fun h => absurd h (by decide)) rfl (Or.inr rfl) kd2 dX11_below_49 ?_
      refine v_nmG (fun G3 hG3 => ?_)
      have hw := hw G3 hG3
      refine v_lconst (v := 1) F dX11_below_52 rfl ?_
      exact v_lret F hw dX11_below_53
set_option maxRecDepth 100000 in
theorem sbX11_below_12 {X : Cx} {D : Dx} (hR : X.2.2.2.1 = rmX11_below) (F : Fx X D cX11_below 9 RX11 (some .long) "below") {Q : Int64 → Wd → Prop} {v0 : Nat} {v1 : Int64} {v3 : Int64} {s0 : Int64} {G : Wd} (hw : wpX11_below_12 Q  v0 v1 v3 s0 G) : V X D 9 (ZM X D (QMl D Q) 0 0) G 0 0 12 [(0, .ref v0), (1, .long v1), (3, .long v3)] [.long s0] := by
  unfold wpX11_below_12 at hw
  refine v_lstore (L' := [(5, .long s0), (0, .ref v0), (1, .long v1), (3, .long v3)]) F dX11_below_12 (by decide) rfl ?_
  refine v_lload_n F dX11_below_14 rfl 3 rfl ?_
  refine v_lconst (v := 0) F dX11_below_15 rfl ?_
  refine v_lcmp F dX11_below_16 ?_
  refine v_lif_ge (tgt := 25) F dX11_below_17 (by decide) (fun h => ?_) (fun h => ?_)
  · rw [if_neg h] at hw
    refine v_lload_n F dX11_below_25 rfl 3 rfl ?_
    exact v_loc [1, 2, 3, 0] rfl (sbX11_below_26 hR F  hw)
  · rw [if_pos h] at hw
    refine v_lload_n F dX11_below_20 rfl 3 rfl ?_
    refine v_lneg F dX11_below_21 ?_
    refine v_goto (tgt := 26) F dX11_below_22 (by decide) ?_
    exact v_loc [1, 2, 3, 0] rfl (sbX11_below_26 hR F  hw)
set_option maxRecDepth 100000 in
theorem sX11_below {l : Launch} {D : Dx} {a0 : Nat} {p1 : Int64} {p3 : Int64} {G : Wd} {Q : Int64 → Wd → Prop} (hw : wpX11_below a0 p1 p3 G Q) : Met l yX11_below (wM yX11_below cX11_below 9 (some .long)) rmX11_below (PM D [.ref a0, .long p1, .long p3] G) (QMl D Q) 0 0 (Ab D) := by
  refine v_met (by decide) (Nat.le_of_ble_eq_true rfl) (fun X hl hR F => ?_)
  subst hl
  have F : Fx X D cX11_below 9 RX11 (some .long) "below" := F
  refine v_cast (L' := [(0, .ref a0), (1, .long p1), (3, .long p3)]) rfl rfl ?_
  unfold wpX11_below at hw
  refine v_lload_n F dX11_below_0 rfl 1 rfl ?_
  refine v_lconst (v := 0) F dX11_below_1 rfl ?_
  refine v_lcmp F dX11_below_2 ?_
  refine v_lif_ge (tgt := 11) F dX11_below_3 (by decide) (fun h => ?_) (fun h => ?_)
  · rw [if_neg h] at hw
    refine v_lload_n F dX11_below_11 rfl 1 rfl ?_
    exact v_loc [0, 1, 2] rfl (sbX11_below_12 hR F  hw)
  · rw [if_pos h] at hw
    refine v_lload_n F dX11_below_6 rfl 1 rfl ?_
    refine v_lneg F dX11_below_7 ?_
    refine v_goto (tgt := 12) F dX11_below_8 (by decide) ?_
    exact v_loc [0, 1, 2] rfl (sbX11_below_12 hR F  hw)
set_option maxRecDepth 100000 in
theorem sX11_times {l : Launch} {D : Dx} {a0 : Nat} {p1 : Int64} {p3 : Int64} {G : Wd} {Q : Wd → Prop} (hw : wpX11_times a0 p1 p3 G Q) : Met l yX11_times (wM yX11_times cX11_times 13 none) rmX11_times (PM D [.ref a0, .long p1, .long p3] G) (QMv D Q) 0 0 (Ab D) := by
  refine v_met (by decide) (Nat.le_of_ble_eq_true rfl) (fun X hl hR F => ?_)
  subst hl
  have F : Fx X D cX11_times 13 RX11 none "times" := F
  refine v_cast (L' := [(0, .ref a0), (1, .long p1), (3, .long p3)]) rfl rfl ?_
  unfold wpX11_times at hw
  refine v_aload_n F dX11_times_0 rfl 0 rfl ?_
  obtain ⟨kd1, hw⟩ := hw
  refine v_get F fl_X11_94 kd1 rfl dX11_times_1 ?_
  refine v_lload_n F dX11_times_4 rfl 2 rfl ?_
  refine v_calll (r_S F ls_X11_90 (sX11_common hw) (mkRm hR rfl rfl rfl rfl rfl rfl) rfl rfl (Nat.le_of_ble_eq_true rfl) dX11_times_5) (fun r2 G3 hw => ?_)
  refine v_lstore (L' := [(5, .long r2), (0, .ref a0), (1, .long p1), (3, .long p3)]) F dX11_times_8 (by decide) rfl ?_
  refine v_lload_n F dX11_times_10 rfl 2 rfl ?_
  refine v_aload_n F dX11_times_11 rfl 1 rfl ?_
  obtain ⟨kd4, hw⟩ := hw
  refine v_get F fl_X11_98 kd4 rfl dX11_times_12 ?_
  refine v_calll (r_S F ls_X11_90 (sX11_common hw) (mkRm hR rfl rfl rfl rfl rfl rfl) rfl rfl (Nat.le_of_ble_eq_true rfl) dX11_times_15) (fun r5 G6 hw => ?_)
  refine v_lstore (L' := [(7, .long r5), (5, .long r2), (0, .ref a0), (1, .long p1), (3, .long p3)]) F dX11_times_18 (by decide) rfl ?_
  refine v_aload_n F dX11_times_20 rfl 2 rfl ?_
  obtain ⟨kd7, hw⟩ := hw
  refine v_get F fl_X11_94 kd7 rfl dX11_times_21 ?_
  refine v_lload F dX11_times_24 1 rfl ?_
  obtain ⟨hn8, hw⟩ := hw
  refine v_ldiv F dX11_times_26 hn8 ?_
  refine v_topl (fun x9 hx9 => ?_)
  have hw := hw x9 hx9
  refine v_lstore (L' := [(9, .long x9), (7, .long r5), (5, .long r2), (0, .ref a0), (1, .long p1), (3, .long p3)]) F dX11_times_27 (by decide) rfl ?_
  refine v_aload_n F dX11_times_29 rfl 3 rfl ?_
  refine v_get F fl_X11_98 kd7 rfl dX11_times_30 ?_
  refine v_lload F dX11_times_33 1 rfl ?_
  obtain ⟨hn10, hw⟩ := hw
  refine v_ldiv F dX11_times_35 hn10 ?_
  refine v_topl (fun x11 hx11 => ?_)
  have hw := hw x11 hx11
  refine v_lstore (L' := [(11, .long x11), (9, .long x9), (7, .long r5), (5, .long r2), (0, .ref a0), (1, .long p1), (3, .long p3)]) F dX11_times_36 (by decide) rfl ?_
  refine v_aload_n F dX11_times_38 rfl 4 rfl ?_
  refine v_aload_n F dX11_times_39 rfl 4 rfl ?_
  refine v_lload F dX11_times_40 1 rfl ?_
  refine v_lload_n F dX11_times_42 rfl 5 rfl ?_
  refine v_lload F dX11_times_43 2 rfl ?_
  obtain ⟨hn12, hw⟩ := hw
  refine v_ldiv F dX11_times_45 hn12 ?_
  refine v_calll (r_V F lk_X11_107 kd7 (sX11_below hw) (mkRm hR rfl rfl rfl rfl rfl rfl) rfl rfl (Nat.le_of_ble_eq_true rfl) dX11_times_46) (fun r13 G14 hw => ?_)
  obtain ⟨kd15, hw⟩ := hw
  refine v_putJ F fl_X11_94 (fun h => absurd h (by decide)) rfl kd15 dX11_times_49 ?_
  refine v_nmG (fun G16 hG16 => ?_)
  have hw := hw G16 hG16
  refine v_aload_n F dX11_times_52 rfl 4 rfl ?_
  refine v_aload_n F dX11_times_53 rfl 4 rfl ?_
  refine v_lload F dX11_times_54 0 rfl ?_
  refine v_lload_n F dX11_times_56 rfl 6 rfl ?_
  refine v_lload F dX11_times_57 3 rfl ?_
  obtain ⟨hn17, hw⟩ := hw
  refine v_ldiv F dX11_times_59 hn17 ?_
  have kd18 : gK G16 a0 = 11 := by rw [hG16]; exact kd15
  refine v_calll (r_V F lk_X11_107 kd18 (sX11_below hw) (mkRm hR rfl rfl rfl rfl rfl rfl) rfl rfl (Nat.le_of_ble_eq_true rfl) dX11_times_60) (fun r19 G20 hw => ?_)
  obtain ⟨kd21, hw⟩ := hw
  refine v_putJ F fl_X11_98 (fun h => absurd h (by decide)) rfl kd21 dX11_times_63 ?_
  refine v_nmG (fun G22 hG22 => ?_)
  have hw := hw G22 hG22
  refine v_widen (c' := 0) (s' := 0) (by decide) (by decide) ?_
  exact v_vret F hw dX11_times_66
set_option maxRecDepth 100000 in
theorem sX11_multiply {l : Launch} {D : Dx} {a0 : Nat} {p1 : Int64} {p3 : Int64} {G : Wd} {Q : Wd → Prop} (hw : wpX11_multiply a0 p1 p3 G Q) : Met l yX11_multiply (wM yX11_multiply cX11_multiply 17 none) rmX11_multiply (PM D [.ref a0, .long p1, .long p3] G) (QMv D Q) 0 0 (Ab D) := by
  refine v_met (by decide) (Nat.le_of_ble_eq_true rfl) (fun X hl hR F => ?_)
  subst hl
  have F : Fx X D cX11_multiply 17 RX11 none "multiply" := F
  refine v_cast (L' := [(0, .ref a0), (1, .long p1), (3, .long p3)]) rfl rfl ?_
  unfold wpX11_multiply at hw
  refine v_lload_n F dX11_multiply_0 rfl 1 rfl ?_
  refine v_ldc2 (v := 100000000) F wd_1157 dX11_multiply_1 ?_
  refine v_ldiv F dX11_multiply_4 (by decide) ?_
  refine v_topl (fun x1 hx1 => ?_)
  have hw := hw x1 hx1
  refine v_lstore (L' := [(5, .long x1), (0, .ref a0), (1, .long p1), (3, .long p3)]) F dX11_multiply_5 (by decide) rfl ?_
  refine v_lload_n F dX11_multiply_7 rfl 2 rfl ?_
  refine v_ldc2 (v := 100000000) F wd_1157 dX11_multiply_8 ?_
  refine v_lremE F dX11_multiply_11 (by decide) ?_
  refine v_topl (fun x2 hx2 => ?_)
  have hw := hw x2 hx2
  refine v_lstore (L' := [(7, .long x2), (5, .long x1), (0, .ref a0), (1, .long p1), (3, .long p3)]) F dX11_multiply_12 (by decide) rfl ?_
  refine v_lload_n F dX11_multiply_14 rfl 4 rfl ?_
  refine v_ldc2 (v := 100000000) F wd_1157 dX11_multiply_15 ?_
  refine v_ldiv F dX11_multiply_18 (by decide) ?_
  refine v_topl (fun x3 hx3 => ?_)
  have hw := hw x3 hx3
  refine v_lstore (L' := [(9, .long x3), (7, .long x2), (5, .long x1), (0, .ref a0), (1, .long p1), (3, .long p3)]) F dX11_multiply_19 (by decide) rfl ?_
  refine v_lload_n F dX11_multiply_21 rfl 5 rfl ?_
  refine v_ldc2 (v := 100000000) F wd_1157 dX11_multiply_22 ?_
  refine v_lremE F dX11_multiply_25 (by decide) ?_
  refine v_topl (fun x4 hx4 => ?_)
  have hw := hw x4 hx4
  refine v_lstore (L' := [(11, .long x4), (9, .long x3), (7, .long x2), (5, .long x1), (0, .ref a0), (1, .long p1), (3, .long p3)]) F dX11_multiply_26 (by decide) rfl ?_
  refine v_lload F dX11_multiply_28 3 rfl ?_
  refine v_lload F dX11_multiply_30 0 rfl ?_
  refine v_lmul F dX11_multiply_32 ?_
  refine v_lload F dX11_multiply_33 2 rfl ?_
  refine v_lload F dX11_multiply_35 1 rfl ?_
  refine v_lmul F dX11_multiply_37 ?_
  refine v_ladd F dX11_multiply_38 ?_
  refine v_topl (fun x5 hx5 => ?_)
  have hw := hw x5 hx5
  refine v_lstore (L' := [(13, .long x5), (11, .long x4), (9, .long x3), (7, .long x2), (5, .long x1), (0, .ref a0), (1, .long p1), (3, .long p3)]) F dX11_multiply_39 (by decide) rfl ?_
  refine v_lload F dX11_multiply_41 3 rfl ?_
  refine v_lload F dX11_multiply_43 1 rfl ?_
  refine v_lmul F dX11_multiply_45 ?_
  refine v_topl (fun x6 hx6 => ?_)
  have hw := hw x6 hx6
  refine v_lstore (L' := [(15, .long x6), (13, .long x5), (11, .long x4), (9, .long x3), (7, .long x2), (5, .long x1), (0, .ref a0), (1, .long p1), (3, .long p3)]) F dX11_multiply_46 (by decide) rfl ?_
  refine v_aload_n F dX11_multiply_48 rfl 6 rfl ?_
  refine v_lload F dX11_multiply_49 5 rfl ?_
  refine v_lload F dX11_multiply_51 3 rfl ?_
  refine v_lmul F dX11_multiply_53 ?_
  refine v_ldc2 (v := 10) F wd_1073 dX11_multiply_54 ?_
  refine v_lmul F dX11_multiply_57 ?_
  refine v_lload F dX11_multiply_58 1 rfl ?_
  refine v_ldc2 (v := 10000000) F wd_1158 dX11_multiply_60 ?_
  refine v_ldiv F dX11_multiply_63 (by decide) ?_
  refine v_ladd F dX11_multiply_64 ?_
  refine v_lload F dX11_multiply_65 0 rfl ?_
  refine v_ldc2 (v := 1000000000000000) F wd_1159 dX11_multiply_67 ?_
  refine v_ldiv F dX11_multiply_70 (by decide) ?_
  refine v_ladd F dX11_multiply_71 ?_
  obtain ⟨kd7, hw⟩ := hw
  refine v_putJ F fl_X11_118 (fun h => absurd h (by decide)) rfl kd7 dX11_multiply_72 ?_
  refine v_nmG (fun G8 hG8 => ?_)
  have hw := hw G8 hG8
  refine v_aload_n F dX11_multiply_75 rfl 6 rfl ?_
  refine v_lload F dX11_multiply_76 1 rfl ?_
  refine v_ldc2 (v := 10000000) F wd_1158 dX11_multiply_78 ?_
  refine v_lremE F dX11_multiply_81 (by decide) ?_
  refine v_ldc2 (v := 100000000) F wd_1157 dX11_multiply_82 ?_
  refine v_lmul F dX11_multiply_85 ?_
  refine v_lload F dX11_multiply_86 0 rfl ?_
  refine v_ldc2 (v := 1000000000000000) F wd_1159 dX11_multiply_88 ?_
  refine v_lremE F dX11_multiply_91 (by decide) ?_
  refine v_ladd F dX11_multiply_92 ?_
  have kd9 : gK G8 a0 = 11 := by rw [hG8]; exact kd7
  refine v_putJ F fl_X11_121 (fun h => absurd h (by decide)) rfl kd9 dX11_multiply_93 ?_
  refine v_nmG (fun G10 hG10 => ?_)
  have hw := hw G10 hG10
  refine v_aload_n F dX11_multiply_96 rfl 6 rfl ?_
  have kd11 : gK G10 a0 = 11 := by rw [hG10]; exact kd9
  refine v_get F fl_X11_121 kd11 rfl dX11_multiply_97 ?_
  refine v_ldc2 (v := 1000000000000000) F wd_1159 dX11_multiply_100 ?_
  refine v_lcmp F dX11_multiply_103 ?_
  refine v_lif_lt (tgt := 129) F dX11_multiply_104 (by decide) (fun h => ?_) (fun h => ?_)
  · rw [if_pos h] at hw
    exact v_vret F hw dX11_multiply_129
  · rw [if_neg h] at hw
    refine v_aload_n F dX11_multiply_107 rfl 6 rfl ?_
    refine v_dup F dX11_multiply_108 rfl ?_
    refine v_get F fl_X11_121 kd11 rfl dX11_multiply_109 ?_
    refine v_ldc2 (v := 1000000000000000) F wd_1159 dX11_multiply_112 ?_
    refine v_lsub F dX11_multiply_115 ?_
    refine v_putJ F fl_X11_121 (fun h => absurd h (by decide)) rfl kd11 dX11_multiply_116 ?_
    refine v_nmG (fun G12 hG12 => ?_)
    have hw := hw G12 hG12
    refine v_aload_n F dX11_multiply_119 rfl 6 rfl ?_
    refine v_dup F dX11_multiply_120 rfl ?_
    have kd13 : gK G12 a0 = 11 := by rw [hG12]; exact kd11
    refine v_get F fl_X11_118 kd13 rfl dX11_multiply_121 ?_
    refine v_lconst (v := 1) F dX11_multiply_124 rfl ?_
    refine v_ladd F dX11_multiply_125 ?_
    refine v_putJ F fl_X11_118 (fun h => absurd h (by decide)) rfl kd13 dX11_multiply_126 ?_
    refine v_nmG (fun G14 hG14 => ?_)
    have hw := hw G14 hG14
    exact v_vret F hw dX11_multiply_129
set_option maxRecDepth 100000 in
theorem sbX11_spell_45 {X : Cx} {D : Dx} (hR : X.2.2.2.1 = rmX11_spell) (F : Fx X D cX11_spell 8 RX11 none "spell") {Q : Wd → Prop} : ∀ (n : Nat) (v0 : Nat) (v5 : Int64) (v7 : Int32) (G : Wd), wpX11_spell_45 Q  n v0 v5 v7 G → V X D 8 (ZM X D (QMv D Q) 0 0) G 0 0 45 [(0, .ref v0), (5, .long v5), (7, .int v7)] [] := by
  intro n
  induction n with
  | zero => intro v0 v5 v7 G hw; exact hw.elim
  | succ n ih =>
    intro v0 v5 v7 G hw
    simp only [wpX11_spell_45] at hw
    refine v_iload F dX11_spell_45 2 rfl ?_
    refine v_bipush (v := 12) F dX11_spell_47 (by decide) ?_
    refine v_icmp_ge (tgt := 79) F dX11_spell_49 (by decide) (fun h => ?_) (fun h => ?_)
    · rw [if_pos h] at hw
      exact v_vret F hw dX11_spell_79
    · rw [if_neg h] at hw
      refine v_aload_n F dX11_spell_52 rfl 0 rfl ?_
      obtain ⟨kd1, hw⟩ := hw
      obtain ⟨b2, hr3, hw⟩ := hw
      refine v_getS F fl_X11_65 (fun _ => rfl) kd1 hr3 dX11_spell_53 ?_
      refine v_iload F dX11_spell_56 2 rfl ?_
      refine v_lload F dX11_spell_58 1 rfl ?_
      refine v_ldc2 (v := 1000) F wd_1039 dX11_spell_60 ?_
      refine v_lremE F dX11_spell_63 (by decide) ?_
      obtain ⟨kd4, hw⟩ := hw
      obtain ⟨hi5, hw⟩ := hw
      refine v_lastE F rfl kd4 hi5 dX11_spell_64 (fun G6 hG6 => ?_)
      have hw := hw G6 hG6
      refine v_lload F dX11_spell_65 1 rfl ?_
      refine v_ldc2 (v := 1000) F wd_1039 dX11_spell_67 ?_
      refine v_ldiv F dX11_spell_70 (by decide) ?_
      refine v_topl (fun x7 hx7 => ?_)
      have hw := hw x7 hx7
      refine v_lstore (L' := [(5, .long x7), (0, .ref v0), (7, .int v7)]) F dX11_spell_71 (by decide) rfl ?_
      refine v_iincN (c := 1) F dX11_spell_73 2 rfl (by decide) (by decide) (fun x8 hx8 => ?_)
      refine v_cast (L' := [(7, .int x8), (5, .long x7), (0, .ref v0)]) rfl rfl ?_
      have hw := hw x8 hx8
      refine v_goto (tgt := 45) F dX11_spell_76 (by decide) ?_
      exact v_loc [2, 1, 0] rfl (ih _ _ _ _ hw)
set_option maxRecDepth 100000 in
theorem sbX11_spell_6 {X : Cx} {D : Dx} (hR : X.2.2.2.1 = rmX11_spell) (F : Fx X D cX11_spell 8 RX11 none "spell") {Q : Wd → Prop} : ∀ (n : Nat) (v0 : Nat) (v1 : Int64) (v5 : Int64) (v7 : Int32) (G : Wd), wpX11_spell_6 Q  n v0 v1 v5 v7 G → V X D 8 (ZM X D (QMv D Q) 0 0) G 0 0 6 [(0, .ref v0), (1, .long v1), (5, .long v5), (7, .int v7)] [] := by
  intro n
  induction n with
  | zero => intro v0 v1 v5 v7 G hw; exact hw.elim
  | succ n ih =>
    intro v0 v1 v5 v7 G hw
    simp only [wpX11_spell_6] at hw
    refine v_iload F dX11_spell_6 3 rfl ?_
    refine v_iconst (v := 5) F dX11_spell_8 (by decide) ?_
    refine v_icmp_ge (tgt := 39) F dX11_spell_9 (by decide) (fun h => ?_) (fun h => ?_)
    · rw [if_pos h] at hw
      refine v_lload_n F dX11_spell_39 rfl 1 rfl ?_
      refine v_lstore (L' := [(5, .long v1), (0, .ref v0), (1, .long v1), (7, .int v7)]) F dX11_spell_40 (by decide) rfl ?_
      refine v_iconst (v := 5) F dX11_spell_42 (by decide) ?_
      refine v_istore (L' := [(7, .int 5), (5, .long v1), (0, .ref v0), (1, .long v1)]) F dX11_spell_43 (by decide) rfl ?_
      obtain ⟨m, hw⟩ := hw
      exact v_loc [2, 1, 0] rfl (sbX11_spell_45 hR F  m _ _ _ _ hw)
    · rw [if_neg h] at hw
      refine v_aload_n F dX11_spell_12 rfl 0 rfl ?_
      obtain ⟨kd9, hw⟩ := hw
      obtain ⟨b10, hr11, hw⟩ := hw
      refine v_getS F fl_X11_65 (fun _ => rfl) kd9 hr11 dX11_spell_13 ?_
      refine v_iload F dX11_spell_16 3 rfl ?_
      refine v_lload F dX11_spell_18 2 rfl ?_
      refine v_ldc2 (v := 1000) F wd_1039 dX11_spell_20 ?_
      refine v_lremE F dX11_spell_23 (by decide) ?_
      obtain ⟨kd12, hw⟩ := hw
      obtain ⟨hi13, hw⟩ := hw
      refine v_lastE F rfl kd12 hi13 dX11_spell_24 (fun G14 hG14 => ?_)
      have hw := hw G14 hG14
      refine v_lload F dX11_spell_25 2 rfl ?_
      refine v_ldc2 (v := 1000) F wd_1039 dX11_spell_27 ?_
      refine v_ldiv F dX11_spell_30 (by decide) ?_
      refine v_topl (fun x15 hx15 => ?_)
      have hw := hw x15 hx15
      refine v_lstore (L' := [(5, .long x15), (0, .ref v0), (1, .long v1), (7, .int v7)]) F dX11_spell_31 (by decide) rfl ?_
      refine v_iincN (c := 1) F dX11_spell_33 3 rfl (by decide) (by decide) (fun x16 hx16 => ?_)
      refine v_cast (L' := [(7, .int x16), (5, .long x15), (0, .ref v0), (1, .long v1)]) rfl rfl ?_
      have hw := hw x16 hx16
      refine v_goto (tgt := 6) F dX11_spell_36 (by decide) ?_
      exact v_loc [2, 3, 1, 0] rfl (ih _ _ _ _ _ hw)
set_option maxRecDepth 100000 in
theorem sX11_spell {l : Launch} {D : Dx} {a0 : Nat} {p1 : Int64} {p3 : Int64} {G : Wd} {Q : Wd → Prop} (hw : wpX11_spell a0 p1 p3 G Q) : Met l yX11_spell (wM yX11_spell cX11_spell 8 none) rmX11_spell (PM D [.ref a0, .long p1, .long p3] G) (QMv D Q) 0 0 (Ab D) := by
  refine v_met (by decide) (Nat.le_of_ble_eq_true rfl) (fun X hl hR F => ?_)
  subst hl
  have F : Fx X D cX11_spell 8 RX11 none "spell" := F
  refine v_cast (L' := [(0, .ref a0), (1, .long p1), (3, .long p3)]) rfl rfl ?_
  unfold wpX11_spell at hw
  refine v_lload_n F dX11_spell_0 rfl 2 rfl ?_
  refine v_lstore (L' := [(5, .long p3), (0, .ref a0), (1, .long p1), (3, .long p3)]) F dX11_spell_1 (by decide) rfl ?_
  refine v_iconst (v := 0) F dX11_spell_3 (by decide) ?_
  refine v_istore (L' := [(7, .int 0), (5, .long p3), (0, .ref a0), (1, .long p1), (3, .long p3)]) F dX11_spell_4 (by decide) rfl ?_
  obtain ⟨m, hw⟩ := hw
  exact v_loc [2, 3, 1, 0] rfl (sbX11_spell_6 hR F  m _ _ _ _ _ hw)
set_option maxRecDepth 100000 in
theorem sbX11_restBy_6 {X : Cx} {D : Dx} (hR : X.2.2.2.1 = rmX11_restBy) (F : Fx X D cX11_restBy 6 RX11 (some .long) "restBy") {Q : Int64 → Wd → Prop} : ∀ (n : Nat) (v0 : Nat) (v1 : Int64) (v3 : Int64) (v5 : Int32) (G : Wd), wpX11_restBy_6 Q  n v0 v1 v3 v5 G → V X D 6 (ZM X D (QMl D Q) 0 0) G 0 0 6 [(0, .ref v0), (1, .long v1), (3, .long v3), (5, .int v5)] [] := by
  intro n
  induction n with
  | zero => intro v0 v1 v3 v5 G hw; exact hw.elim
  | succ n ih =>
    intro v0 v1 v3 v5 G hw
    simp only [wpX11_restBy_6] at hw
    refine v_iload F dX11_restBy_6 3 rfl ?_
    refine v_if_lt (tgt := 33) F dX11_restBy_8 (by decide) (fun h => ?_) (fun h => ?_)
    · rw [if_pos h] at hw
      refine v_lload_n F dX11_restBy_33 rfl 2 rfl ?_
      exact v_lret F hw dX11_restBy_34
    · rw [if_neg h] at hw
      refine v_lload_n F dX11_restBy_11 rfl 2 rfl ?_
      refine v_ldc2 (v := 1000) F wd_1039 dX11_restBy_12 ?_
      refine v_lmul F dX11_restBy_15 ?_
      refine v_aload_n F dX11_restBy_16 rfl 0 rfl ?_
      obtain ⟨kd1, hw⟩ := hw
      obtain ⟨b2, hr3, hw⟩ := hw
      refine v_getS F fl_X11_65 (fun _ => rfl) kd1 hr3 dX11_restBy_17 ?_
      refine v_iload F dX11_restBy_20 3 rfl ?_
      obtain ⟨kd4, hw⟩ := hw
      obtain ⟨hi5, hw⟩ := hw
      refine v_laldE F rfl kd4 hi5 dX11_restBy_22 ?_
      refine v_ladd F dX11_restBy_23 ?_
      refine v_lload_n F dX11_restBy_24 rfl 1 rfl ?_
      obtain ⟨hn6, hw⟩ := hw
      refine v_lremE F dX11_restBy_25 hn6 ?_
      refine v_topl (fun x7 hx7 => ?_)
      have hw := hw x7 hx7
      refine v_lstore_n (L' := [(3, .long x7), (0, .ref v0), (1, .long v1), (5, .int v5)]) F dX11_restBy_26 rfl (by decide) rfl ?_
      refine v_iincN (c := (-1)) F dX11_restBy_27 3 rfl (by decide) (by decide) (fun x8 hx8 => ?_)
      refine v_cast (L' := [(5, .int x8), (3, .long x7), (0, .ref v0), (1, .long v1)]) rfl rfl ?_
      have hw := hw x8 hx8
      refine v_goto (tgt := 6) F dX11_restBy_30 (by decide) ?_
      exact v_loc [2, 3, 1, 0] rfl (ih _ _ _ _ _ hw)
set_option maxRecDepth 100000 in
theorem sX11_restBy {l : Launch} {D : Dx} {a0 : Nat} {p1 : Int64} {G : Wd} {Q : Int64 → Wd → Prop} (hw : wpX11_restBy a0 p1 G Q) : Met l yX11_restBy (wM yX11_restBy cX11_restBy 6 (some .long)) rmX11_restBy (PM D [.ref a0, .long p1] G) (QMl D Q) 0 0 (Ab D) := by
  refine v_met (by decide) (Nat.le_of_ble_eq_true rfl) (fun X hl hR F => ?_)
  subst hl
  have F : Fx X D cX11_restBy 6 RX11 (some .long) "restBy" := F
  refine v_cast (L' := [(0, .ref a0), (1, .long p1)]) rfl rfl ?_
  unfold wpX11_restBy at hw
  refine v_lconst (v := 0) F dX11_restBy_0 rfl ?_
  refine v_lstore_n (L' := [(3, .long 0), (0, .ref a0), (1, .long p1)]) F dX11_restBy_1 rfl (by decide) rfl ?_
  refine v_bipush (v := 11) F dX11_restBy_2 (by decide) ?_
  refine v_istore (L' := [(5, .int 11), (3, .long 0), (0, .ref a0), (1, .long p1)]) F dX11_restBy_4 (by decide) rfl ?_
  obtain ⟨m, hw⟩ := hw
  exact v_loc [2, 3, 1, 0] rfl (sbX11_restBy_6 hR F  m _ _ _ _ _ hw)
set_option maxRecDepth 100000 in
theorem sbX11_divided_9 {X : Cx} {D : Dx} (hR : X.2.2.2.1 = rmX11_divided) (F : Fx X D cX11_divided 8 RX11 (some .long) "divided") {Q : Int64 → Wd → Prop} : ∀ (n : Nat) (v0 : Nat) (v1 : Int64) (v3 : Int64) (v5 : Int64) (v7 : Int32) (G : Wd), wpX11_divided_9 Q  n v0 v1 v3 v5 v7 G → V X D 8 (ZM X D (QMl D Q) 0 0) G 0 0 9 [(0, .ref v0), (1, .long v1), (3, .long v3), (5, .long v5), (7, .int v7)] [] := by
  intro n
  induction n with
  | zero => intro v0 v1 v3 v5 v7 G hw; exact hw.elim
  | succ n ih =>
    intro v0 v1 v3 v5 v7 G hw
    simp only [wpX11_divided_9] at hw
    refine v_iload F dX11_divided_9 4 rfl ?_
    refine v_if_lt (tgt := 66) F dX11_divided_11 (by decide) (fun h => ?_) (fun h => ?_)
    · rw [if_pos h] at hw
      refine v_lload F dX11_divided_66 3 rfl ?_
      exact v_lret F hw dX11_divided_68
    · rw [if_neg h] at hw
      refine v_lload_n F dX11_divided_14 rfl 2 rfl ?_
      refine v_ldc2 (v := 1000) F wd_1039 dX11_divided_15 ?_
      refine v_lmul F dX11_divided_18 ?_
      refine v_aload_n F dX11_divided_19 rfl 0 rfl ?_
      obtain ⟨kd1, hw⟩ := hw
      obtain ⟨b2, hr3, hw⟩ := hw
      refine v_getS F fl_X11_65 (fun _ => rfl) kd1 hr3 dX11_divided_20 ?_
      refine v_iload F dX11_divided_23 4 rfl ?_
      obtain ⟨kd4, hw⟩ := hw
      obtain ⟨hi5, hw⟩ := hw
      refine v_laldE F rfl kd4 hi5 dX11_divided_25 ?_
      refine v_ladd F dX11_divided_26 ?_
      refine v_topl (fun x6 hx6 => ?_)
      have hw := hw x6 hx6
      refine v_lstore_n (L' := [(3, .long x6), (0, .ref v0), (1, .long v1), (5, .long v5), (7, .int v7)]) F dX11_divided_27 rfl (by decide) rfl ?_
      refine v_lload F dX11_divided_28 3 rfl ?_
      refine v_ldc2 (v := 1000) F wd_1039 dX11_divided_30 ?_
      refine v_lmul F dX11_divided_33 ?_
      refine v_lload_n F dX11_divided_34 rfl 0 rfl ?_
      refine v_lload_n F dX11_divided_35 rfl 2 rfl ?_
      obtain ⟨hn7, hw⟩ := hw
      refine v_ldiv F dX11_divided_36 hn7 ?_
      refine v_ladd F dX11_divided_37 ?_
      refine v_topl (fun x8 hx8 => ?_)
      have hw := hw x8 hx8
      refine v_lstore (L' := [(5, .long x8), (3, .long x6), (0, .ref v0), (1, .long v1), (7, .int v7)]) F dX11_divided_38 (by decide) rfl ?_
      refine v_lload_n F dX11_divided_40 rfl 1 rfl ?_
      refine v_lload_n F dX11_divided_41 rfl 3 rfl ?_
      obtain ⟨hn9, hw⟩ := hw
      refine v_lremE F dX11_divided_42 hn9 ?_
      refine v_topl (fun x10 hx10 => ?_)
      have hw := hw x10 hx10
      refine v_lstore_n (L' := [(3, .long x10), (5, .long x8), (0, .ref v0), (1, .long v1), (7, .int v7)]) F dX11_divided_43 rfl (by decide) rfl ?_
      refine v_lload F dX11_divided_44 1 rfl ?_
      refine v_ldc2 (v := 1000000000000000) F wd_1159 dX11_divided_46 ?_
      refine v_lcmp F dX11_divided_49 ?_
      refine v_lif_lt (tgt := 60) F dX11_divided_50 (by decide) (fun h => ?_) (fun h => ?_)
      · rw [if_pos h] at hw
        refine v_iincN (c := (-1)) F dX11_divided_60 4 rfl (by decide) (by decide) (fun x11 hx11 => ?_)
        refine v_cast (L' := [(7, .int x11), (3, .long x10), (5, .long x8), (0, .ref v0), (1, .long v1)]) rfl rfl ?_
        have hw := hw x11 hx11
        refine v_goto (tgt := 9) F dX11_divided_63 (by decide) ?_
        exact v_loc [3, 4, 1, 2, 0] rfl (ih _ _ _ _ _ _ hw)
      · rw [if_neg h] at hw
        refine v_aload_n F dX11_divided_53 rfl 2 rfl ?_
        refine v_iconst (v := 1) F dX11_divided_54 (by decide) ?_
        refine v_putZ F fl_X11_103 (fun h => absurd h (by decide)) rfl (Or.inr rfl) kd1 dX11_divided_55 ?_
        refine v_nmG (fun G12 hG12 => ?_)
        have hw := hw G12 hG12
        refine v_lconst (v := 1) F dX11_divided_58 rfl ?_
        exact v_lret F hw dX11_divided_59
set_option maxRecDepth 100000 in
theorem sX11_divided {l : Launch} {D : Dx} {a0 : Nat} {p1 : Int64} {G : Wd} {Q : Int64 → Wd → Prop} (hw : wpX11_divided a0 p1 G Q) : Met l yX11_divided (wM yX11_divided cX11_divided 8 (some .long)) rmX11_divided (PM D [.ref a0, .long p1] G) (QMl D Q) 0 0 (Ab D) := by
  refine v_met (by decide) (Nat.le_of_ble_eq_true rfl) (fun X hl hR F => ?_)
  subst hl
  have F : Fx X D cX11_divided 8 RX11 (some .long) "divided" := F
  refine v_cast (L' := [(0, .ref a0), (1, .long p1)]) rfl rfl ?_
  unfold wpX11_divided at hw
  refine v_lconst (v := 0) F dX11_divided_0 rfl ?_
  refine v_lstore_n (L' := [(3, .long 0), (0, .ref a0), (1, .long p1)]) F dX11_divided_1 rfl (by decide) rfl ?_
  refine v_lconst (v := 0) F dX11_divided_2 rfl ?_
  refine v_lstore (L' := [(5, .long 0), (3, .long 0), (0, .ref a0), (1, .long p1)]) F dX11_divided_3 (by decide) rfl ?_
  refine v_bipush (v := 11) F dX11_divided_5 (by decide) ?_
  refine v_istore (L' := [(7, .int 11), (5, .long 0), (3, .long 0), (0, .ref a0), (1, .long p1)]) F dX11_divided_7 (by decide) rfl ?_
  obtain ⟨m, hw⟩ := hw
  exact v_loc [3, 4, 2, 1, 0] rfl (sbX11_divided_9 hR F  m _ _ _ _ _ _ hw)
set_option maxRecDepth 100000 in
theorem sbX11_bound_24 {X : Cx} {D : Dx} (hR : X.2.2.2.1 = rmX11_bound) (F : Fx X D cX11_bound 1 RX11 none "bound") {Q : Wd → Prop} {s0 : Nat} {s1 : Int32} {G : Wd} (hw : wpX11_bound_24 Q  s0 s1 G) : V X D 1 (ZM X D (QMv D Q) 0 0) G 0 0 24 [] [.int s1, .ref s0] := by
  unfold wpX11_bound_24 at hw
  obtain ⟨kd1, hw⟩ := hw
  obtain ⟨hB3, hw⟩ := hw
  refine v_putZ F fl_X11_103 (fun h => absurd h (by decide)) rfl hB3 kd1 dX11_bound_24 ?_
  refine v_nmG (fun G2 hG2 => ?_)
  have hw := hw G2 hG2
  exact v_vret F hw dX11_bound_27
set_option maxRecDepth 100000 in
theorem sbX11_bound_19 {X : Cx} {D : Dx} (hR : X.2.2.2.1 = rmX11_bound) (F : Fx X D cX11_bound 1 RX11 none "bound") {Q : Wd → Prop} {s0 : Nat} {G : Wd} (hw : wpX11_bound_19 Q  s0 G) : V X D 1 (ZM X D (QMv D Q) 0 0) G 0 0 19 [] [.ref s0] := by
  unfold wpX11_bound_19 at hw
  refine v_iconst (v := 1) F dX11_bound_19 (by decide) ?_
  refine v_goto (tgt := 24) F dX11_bound_20 (by decide) ?_
  exact v_loc [] rfl (sbX11_bound_24 hR F  hw)
set_option maxRecDepth 100000 in
theorem sX11_bound {l : Launch} {D : Dx} {a0 : Nat} {G : Wd} {Q : Wd → Prop} (hw : wpX11_bound a0 G Q) : Met l yX11_bound (wM yX11_bound cX11_bound 1 none) rmX11_bound (PM D [.ref a0] G) (QMv D Q) 0 0 (Ab D) := by
  refine v_met (by decide) (Nat.le_of_ble_eq_true rfl) (fun X hl hR F => ?_)
  subst hl
  have F : Fx X D cX11_bound 1 RX11 none "bound" := F
  refine v_cast (L' := [(0, .ref a0)]) rfl rfl ?_
  unfold wpX11_bound at hw
  refine v_aload_n F dX11_bound_0 rfl 0 rfl ?_
  refine v_aload_n F dX11_bound_1 rfl 0 rfl ?_
  obtain ⟨kd4, hw⟩ := hw
  refine v_get F fl_X11_103 kd4 rfl dX11_bound_2 ?_
  refine v_if_ne (tgt := 19) F dX11_bound_5 (by decide) (fun h => ?_) (fun h => ?_)
  · rw [if_neg h] at hw
    exact v_loc [] rfl (sbX11_bound_19 hR F  hw)
  · rw [if_pos h] at hw
    refine v_aload_n F dX11_bound_8 rfl 0 rfl ?_
    refine v_get F fl_X11_118 kd4 rfl dX11_bound_9 ?_
    refine v_ldc2 (v := 1000) F wd_1039 dX11_bound_12 ?_
    refine v_lcmp F dX11_bound_15 ?_
    refine v_lif_lt (tgt := 23) F dX11_bound_16 (by decide) (fun h => ?_) (fun h => ?_)
    · rw [if_pos h] at hw
      refine v_iconst (v := 0) F dX11_bound_23 (by decide) ?_
      exact v_loc [] rfl (sbX11_bound_24 hR F  hw)
    · rw [if_neg h] at hw
      exact v_loc [] rfl (sbX11_bound_19 hR F  hw)
set_option maxRecDepth 100000 in
theorem sbX11_plus_369 {X : Cx} {D : Dx} (hR : X.2.2.2.1 = rmX11_plus) (F : Fx X D cX11_plus 23 RX11 none "plus") {Q : Wd → Prop} {v0 : Nat} {v21 : Int64} {s0 : Nat} {s1 : Int64} {G : Wd} (hw : wpX11_plus_369 Q  v0 v21 s0 s1 G) : V X D 23 (ZM X D (QMv D Q) 0 0) G 0 0 369 [(0, .ref v0), (21, .long v21)] [.long s1, .ref s0] := by
  unfold wpX11_plus_369 at hw
  obtain ⟨kd1, hw⟩ := hw
  refine v_putJ F fl_X11_94 (fun h => absurd h (by decide)) rfl kd1 dX11_plus_369 ?_
  refine v_nmG (fun G2 hG2 => ?_)
  have hw := hw G2 hG2
  refine v_aload_n F dX11_plus_372 rfl 0 rfl ?_
  refine v_lload F dX11_plus_373 1 rfl ?_
  obtain ⟨kd3, hw⟩ := hw
  refine v_putJ F fl_X11_98 (fun h => absurd h (by decide)) rfl kd3 dX11_plus_375 ?_
  refine v_nmG (fun G4 hG4 => ?_)
  have hw := hw G4 hG4
  exact v_vret F hw dX11_plus_378
set_option maxRecDepth 100000 in
theorem sbX11_plus_307 {X : Cx} {D : Dx} (hR : X.2.2.2.1 = rmX11_plus) (F : Fx X D cX11_plus 23 RX11 none "plus") {Q : Wd → Prop} {v0 : Nat} {v5 : Int64} {v7 : Int64} {v9 : Int64} {v11 : Int32} {v12 : Int64} {v14 : Int64} {G : Wd} (hw : wpX11_plus_307 Q  v0 v5 v7 v9 v11 v12 v14 G) : V X D 23 (ZM X D (QMv D Q) 0 0) G 0 0 307 [(0, .ref v0), (5, .long v5), (7, .long v7), (9, .long v9), (11, .int v11), (12, .long v12), (14, .long v14)] [] := by
  unfold wpX11_plus_307 at hw
  refine v_aload_n F dX11_plus_307 rfl 0 rfl ?_
  refine v_lload F dX11_plus_308 5 rfl ?_
  refine v_lload F dX11_plus_310 6 rfl ?_
  obtain ⟨kd5, hw⟩ := hw
  refine v_callv (r_V F lk_X11_133 kd5 (sX11_spell hw) (mkRm hR rfl rfl rfl rfl rfl rfl) rfl rfl (Nat.le_of_ble_eq_true rfl) dX11_plus_312) (fun G7 hw => ?_)
  refine v_lload F dX11_plus_315 1 rfl ?_
  refine v_aload_n F dX11_plus_317 rfl 0 rfl ?_
  refine v_lload F dX11_plus_318 1 rfl ?_
  obtain ⟨kd8, hw⟩ := hw
  refine v_calll (r_V F lk_X11_136 kd8 (sX11_restBy hw) (mkRm hR rfl rfl rfl rfl rfl rfl) rfl rfl (Nat.le_of_ble_eq_true rfl) dX11_plus_320) (fun r9 G10 hw => ?_)
  refine v_calll (r_S F ls_X11_90 (sX11_common hw) (mkRm hR rfl rfl rfl rfl rfl rfl) rfl rfl (Nat.le_of_ble_eq_true rfl) dX11_plus_323) (fun r11 G12 hw => ?_)
  refine v_lstore (L' := [(17, .long r11), (0, .ref v0), (5, .long v5), (7, .long v7), (9, .long v9), (11, .int v11), (12, .long v12), (14, .long v14)]) F dX11_plus_326 (by decide) rfl ?_
  refine v_aload_n F dX11_plus_328 rfl 1 rfl ?_
  refine v_lload F dX11_plus_329 0 rfl ?_
  obtain ⟨kd13, hw⟩ := hw
  refine v_calll (r_V F lk_X11_140 kd13 (sX11_divided hw) (mkRm hR rfl rfl rfl rfl rfl rfl) rfl rfl (Nat.le_of_ble_eq_true rfl) dX11_plus_331) (fun r14 G15 hw => ?_)
  refine v_lstore (L' := [(19, .long r14), (17, .long r11), (0, .ref v0), (5, .long v5), (7, .long v7), (9, .long v9), (11, .int v11), (12, .long v12), (14, .long v14)]) F dX11_plus_334 (by decide) rfl ?_
  refine v_aload_n F dX11_plus_336 rfl 2 rfl ?_
  refine v_aload_n F dX11_plus_337 rfl 2 rfl ?_
  refine v_lload F dX11_plus_338 4 rfl ?_
  refine v_lload F dX11_plus_340 5 rfl ?_
  obtain ⟨kd16, hw⟩ := hw
  refine v_calll (r_V F lk_X11_107 kd16 (sX11_below hw) (mkRm hR rfl rfl rfl rfl rfl rfl) rfl rfl (Nat.le_of_ble_eq_true rfl) dX11_plus_342) (fun r17 G18 hw => ?_)
  refine v_lload F dX11_plus_345 3 rfl ?_
  refine v_lload F dX11_plus_347 1 rfl ?_
  obtain ⟨hn19, hw⟩ := hw
  refine v_ldiv F dX11_plus_349 hn19 ?_
  obtain ⟨kd20, hw⟩ := hw
  refine v_calll (r_V F lk_X11_107 kd20 (sX11_below hw) (mkRm hR rfl rfl rfl rfl rfl rfl) rfl rfl (Nat.le_of_ble_eq_true rfl) dX11_plus_350) (fun r21 G22 hw => ?_)
  refine v_lstore (L' := [(21, .long r21), (19, .long r14), (17, .long r11), (0, .ref v0), (5, .long v5), (7, .long v7), (9, .long v9), (11, .int v11), (12, .long v12), (14, .long v14)]) F dX11_plus_353 (by decide) rfl ?_
  refine v_aload_n F dX11_plus_355 rfl 3 rfl ?_
  refine v_iload F dX11_plus_356 7 rfl ?_
  refine v_if_eq (tgt := 367) F dX11_plus_358 (by decide) (fun h => ?_) (fun h => ?_)
  · rw [if_pos h] at hw
    refine v_lload F dX11_plus_367 1 rfl ?_
    exact v_loc [3, 0] rfl (sbX11_plus_369 hR F  hw)
  · rw [if_neg h] at hw
    refine v_lload F dX11_plus_361 1 rfl ?_
    refine v_lneg F dX11_plus_363 ?_
    refine v_goto (tgt := 369) F dX11_plus_364 (by decide) ?_
    exact v_loc [3, 0] rfl (sbX11_plus_369 hR F  hw)
set_option maxRecDepth 100000 in
theorem sbX11_plus_299 {X : Cx} {D : Dx} (hR : X.2.2.2.1 = rmX11_plus) (F : Fx X D cX11_plus 23 RX11 none "plus") {Q : Wd → Prop} {v0 : Nat} {v5 : Int64} {v7 : Int64} {v9 : Int64} {v11 : Int32} {v18 : Int64} {v20 : Int64} {G : Wd} (hw : wpX11_plus_299 Q  v0 v5 v7 v9 v11 v18 v20 G) : V X D 23 (ZM X D (QMv D Q) 0 0) G 0 0 299 [(0, .ref v0), (5, .long v5), (7, .long v7), (9, .long v9), (11, .int v11), (18, .long v18), (20, .long v20)] [] := by
  unfold wpX11_plus_299 at hw
  refine v_lload F dX11_plus_299 5 rfl ?_
  refine v_lstore (L' := [(12, .long v18), (0, .ref v0), (5, .long v5), (7, .long v7), (9, .long v9), (11, .int v11), (18, .long v18), (20, .long v20)]) F dX11_plus_301 (by decide) rfl ?_
  refine v_lload F dX11_plus_303 7 rfl ?_
  refine v_lstore (L' := [(14, .long v20), (12, .long v18), (0, .ref v0), (5, .long v5), (7, .long v7), (9, .long v9), (11, .int v11), (18, .long v18), (20, .long v20)]) F dX11_plus_305 (by decide) rfl ?_
  exact v_loc [2, 3, 4, 5, 6, 1, 0] rfl (sbX11_plus_307 hR F  hw)
set_option maxRecDepth 100000 in
theorem sbX11_plus_276 {X : Cx} {D : Dx} (hR : X.2.2.2.1 = rmX11_plus) (F : Fx X D cX11_plus 23 RX11 none "plus") {Q : Wd → Prop} {v0 : Nat} {v5 : Int64} {v7 : Int64} {v9 : Int64} {v18 : Int64} {v20 : Int64} {s0 : Int32} {G : Wd} (hw : wpX11_plus_276 Q  v0 v5 v7 v9 v18 v20 s0 G) : V X D 23 (ZM X D (QMv D Q) 0 0) G 0 0 276 [(0, .ref v0), (5, .long v5), (7, .long v7), (9, .long v9), (18, .long v18), (20, .long v20)] [.int s0] := by
  unfold wpX11_plus_276 at hw
  refine v_istore (L' := [(11, .int s0), (0, .ref v0), (5, .long v5), (7, .long v7), (9, .long v9), (18, .long v18), (20, .long v20)]) F dX11_plus_276 (by decide) rfl ?_
  refine v_lload F dX11_plus_278 6 rfl ?_
  refine v_lconst (v := 0) F dX11_plus_280 rfl ?_
  refine v_lcmp F dX11_plus_281 ?_
  refine v_lif_ge (tgt := 299) F dX11_plus_282 (by decide) (fun h => ?_) (fun h => ?_)
  · rw [if_neg h] at hw
    exact v_loc [1, 2, 3, 4, 0, 5, 6] rfl (sbX11_plus_299 hR F  hw)
  · rw [if_pos h] at hw
    refine v_lload F dX11_plus_285 6 rfl ?_
    refine v_ldc2 (v := 1000000000000000) F wd_1159 dX11_plus_287 ?_
    refine v_ladd F dX11_plus_290 ?_
    refine v_topl (fun x23 hx23 => ?_)
    have hw := hw x23 hx23
    refine v_lstore (L' := [(20, .long x23), (11, .int s0), (0, .ref v0), (5, .long v5), (7, .long v7), (9, .long v9), (18, .long v18)]) F dX11_plus_291 (by decide) rfl ?_
    refine v_lload F dX11_plus_293 6 rfl ?_
    refine v_lconst (v := 1) F dX11_plus_295 rfl ?_
    refine v_lsub F dX11_plus_296 ?_
    refine v_topl (fun x24 hx24 => ?_)
    have hw := hw x24 hx24
    refine v_lstore (L' := [(18, .long x24), (20, .long x23), (11, .int s0), (0, .ref v0), (5, .long v5), (7, .long v7), (9, .long v9)]) F dX11_plus_297 (by decide) rfl ?_
    exact v_loc [3, 4, 5, 6, 2, 0, 1] rfl (sbX11_plus_299 hR F  hw)
set_option maxRecDepth 100000 in
theorem sbX11_plus_262 {X : Cx} {D : Dx} (hR : X.2.2.2.1 = rmX11_plus) (F : Fx X D cX11_plus 23 RX11 none "plus") {Q : Wd → Prop} {v0 : Nat} {v5 : Int64} {v7 : Int64} {v9 : Int64} {v11 : Int32} {v16 : Int32} {v17 : Int32} {v18 : Int64} {s0 : Int64} {G : Wd} (hw : wpX11_plus_262 Q  v0 v5 v7 v9 v11 v16 v17 v18 s0 G) : V X D 23 (ZM X D (QMv D Q) 0 0) G 0 0 262 [(0, .ref v0), (5, .long v5), (7, .long v7), (9, .long v9), (11, .int v11), (16, .int v16), (17, .int v17), (18, .long v18)] [.long s0] := by
  unfold wpX11_plus_262 at hw
  refine v_lstore (L' := [(20, .long s0), (0, .ref v0), (5, .long v5), (7, .long v7), (9, .long v9), (11, .int v11), (16, .int v16), (17, .int v17), (18, .long v18)]) F dX11_plus_262 (by decide) rfl ?_
  refine v_iload F dX11_plus_264 7 rfl ?_
  refine v_if_eq (tgt := 274) F dX11_plus_266 (by decide) (fun h => ?_) (fun h => ?_)
  · rw [if_pos h] at hw
    refine v_iload F dX11_plus_274 5 rfl ?_
    exact v_loc [1, 2, 3, 4, 8, 0] rfl (sbX11_plus_276 hR F  hw)
  · rw [if_neg h] at hw
    refine v_iload F dX11_plus_269 6 rfl ?_
    refine v_goto (tgt := 276) F dX11_plus_271 (by decide) ?_
    exact v_loc [1, 2, 3, 4, 8, 0] rfl (sbX11_plus_276 hR F  hw)
set_option maxRecDepth 100000 in
theorem sbX11_plus_238 {X : Cx} {D : Dx} (hR : X.2.2.2.1 = rmX11_plus) (F : Fx X D cX11_plus 23 RX11 none "plus") {Q : Wd → Prop} {v0 : Nat} {v5 : Int64} {v7 : Int64} {v9 : Int64} {v11 : Int32} {v14 : Int64} {v16 : Int32} {v17 : Int32} {s0 : Int64} {G : Wd} (hw : wpX11_plus_238 Q  v0 v5 v7 v9 v11 v14 v16 v17 s0 G) : V X D 23 (ZM X D (QMv D Q) 0 0) G 0 0 238 [(0, .ref v0), (5, .long v5), (7, .long v7), (9, .long v9), (11, .int v11), (14, .long v14), (16, .int v16), (17, .int v17)] [.long s0] := by
  unfold wpX11_plus_238 at hw
  refine v_lstore (L' := [(18, .long s0), (0, .ref v0), (5, .long v5), (7, .long v7), (9, .long v9), (11, .int v11), (14, .long v14), (16, .int v16), (17, .int v17)]) F dX11_plus_238 (by decide) rfl ?_
  refine v_iload F dX11_plus_240 8 rfl ?_
  refine v_if_eq (tgt := 255) F dX11_plus_242 (by decide) (fun h => ?_) (fun h => ?_)
  · rw [if_pos h] at hw
    refine v_lload F dX11_plus_255 6 rfl ?_
    refine v_aload_n F dX11_plus_257 rfl 1 rfl ?_
    obtain ⟨kd25, hw⟩ := hw
    refine v_get F fl_X11_121 kd25 rfl dX11_plus_258 ?_
    refine v_lsub F dX11_plus_261 ?_
    exact v_loc [1, 2, 3, 4, 5, 7, 8, 0] rfl (sbX11_plus_262 hR F  hw)
  · rw [if_neg h] at hw
    refine v_aload_n F dX11_plus_245 rfl 1 rfl ?_
    obtain ⟨kd26, hw⟩ := hw
    refine v_get F fl_X11_121 kd26 rfl dX11_plus_246 ?_
    refine v_lload F dX11_plus_249 6 rfl ?_
    refine v_lsub F dX11_plus_251 ?_
    refine v_goto (tgt := 262) F dX11_plus_252 (by decide) ?_
    exact v_loc [1, 2, 3, 4, 5, 7, 8, 0] rfl (sbX11_plus_262 hR F  hw)
set_option maxRecDepth 100000 in
theorem sbX11_plus_214 {X : Cx} {D : Dx} (hR : X.2.2.2.1 = rmX11_plus) (F : Fx X D cX11_plus 23 RX11 none "plus") {Q : Wd → Prop} {v0 : Nat} {v5 : Int64} {v7 : Int64} {v9 : Int64} {v11 : Int32} {v12 : Int64} {v14 : Int64} {v16 : Int32} {s0 : Int32} {G : Wd} (hw : wpX11_plus_214 Q  v0 v5 v7 v9 v11 v12 v14 v16 s0 G) : V X D 23 (ZM X D (QMv D Q) 0 0) G 0 0 214 [(0, .ref v0), (5, .long v5), (7, .long v7), (9, .long v9), (11, .int v11), (12, .long v12), (14, .long v14), (16, .int v16)] [.int s0] := by
  unfold wpX11_plus_214 at hw
  refine v_istore (L' := [(17, .int s0), (0, .ref v0), (5, .long v5), (7, .long v7), (9, .long v9), (11, .int v11), (12, .long v12), (14, .long v14), (16, .int v16)]) F dX11_plus_214 (by decide) rfl ?_
  refine v_iload F dX11_plus_216 0 rfl ?_
  refine v_if_eq (tgt := 231) F dX11_plus_218 (by decide) (fun h => ?_) (fun h => ?_)
  · rw [if_pos h] at hw
    refine v_lload F dX11_plus_231 6 rfl ?_
    refine v_aload_n F dX11_plus_233 rfl 1 rfl ?_
    obtain ⟨kd27, hw⟩ := hw
    refine v_get F fl_X11_118 kd27 rfl dX11_plus_234 ?_
    refine v_lsub F dX11_plus_237 ?_
    exact v_loc [1, 2, 3, 4, 5, 7, 8, 0] rfl (sbX11_plus_238 hR F  hw)
  · rw [if_neg h] at hw
    refine v_aload_n F dX11_plus_221 rfl 1 rfl ?_
    obtain ⟨kd28, hw⟩ := hw
    refine v_get F fl_X11_118 kd28 rfl dX11_plus_222 ?_
    refine v_lload F dX11_plus_225 6 rfl ?_
    refine v_lsub F dX11_plus_227 ?_
    refine v_goto (tgt := 238) F dX11_plus_228 (by decide) ?_
    exact v_loc [1, 2, 3, 4, 5, 7, 8, 0] rfl (sbX11_plus_238 hR F  hw)
set_option maxRecDepth 100000 in
theorem sbX11_plus_209 {X : Cx} {D : Dx} (hR : X.2.2.2.1 = rmX11_plus) (F : Fx X D cX11_plus 23 RX11 none "plus") {Q : Wd → Prop} {v0 : Nat} {v5 : Int64} {v7 : Int64} {v9 : Int64} {v11 : Int32} {v12 : Int64} {v14 : Int64} {v16 : Int32} {G : Wd} (hw : wpX11_plus_209 Q  v0 v5 v7 v9 v11 v12 v14 v16 G) : V X D 23 (ZM X D (QMv D Q) 0 0) G 0 0 209 [(0, .ref v0), (5, .long v5), (7, .long v7), (9, .long v9), (11, .int v11), (12, .long v12), (14, .long v14), (16, .int v16)] [] := by
  unfold wpX11_plus_209 at hw
  refine v_iconst (v := 1) F dX11_plus_209 (by decide) ?_
  refine v_goto (tgt := 214) F dX11_plus_210 (by decide) ?_
  exact v_loc [0, 1, 2, 3, 4, 5, 6, 7] rfl (sbX11_plus_214 hR F  hw)
set_option maxRecDepth 100000 in
theorem sbX11_plus_213 {X : Cx} {D : Dx} (hR : X.2.2.2.1 = rmX11_plus) (F : Fx X D cX11_plus 23 RX11 none "plus") {Q : Wd → Prop} {v0 : Nat} {v5 : Int64} {v7 : Int64} {v9 : Int64} {v11 : Int32} {v12 : Int64} {v14 : Int64} {v16 : Int32} {G : Wd} (hw : wpX11_plus_213 Q  v0 v5 v7 v9 v11 v12 v14 v16 G) : V X D 23 (ZM X D (QMv D Q) 0 0) G 0 0 213 [(0, .ref v0), (5, .long v5), (7, .long v7), (9, .long v9), (11, .int v11), (12, .long v12), (14, .long v14), (16, .int v16)] [] := by
  unfold wpX11_plus_213 at hw
  refine v_iconst (v := 0) F dX11_plus_213 (by decide) ?_
  exact v_loc [0, 1, 2, 3, 4, 5, 6, 7] rfl (sbX11_plus_214 hR F  hw)
set_option maxRecDepth 100000 in
theorem sbX11_plus_119 {X : Cx} {D : Dx} (hR : X.2.2.2.1 = rmX11_plus) (F : Fx X D cX11_plus 23 RX11 none "plus") {Q : Wd → Prop} {v0 : Nat} {v5 : Int64} {v7 : Int64} {v9 : Int64} {v11 : Int32} {v12 : Int64} {v14 : Int64} {v16 : Int32} {s0 : Nat} {s1 : Int64} {G : Wd} (hw : wpX11_plus_119 Q  v0 v5 v7 v9 v11 v12 v14 v16 s0 s1 G) : V X D 23 (ZM X D (QMv D Q) 0 0) G 0 0 119 [(0, .ref v0), (5, .long v5), (7, .long v7), (9, .long v9), (11, .int v11), (12, .long v12), (14, .long v14), (16, .int v16)] [.long s1, .ref s0] := by
  unfold wpX11_plus_119 at hw
  refine v_lload F dX11_plus_119 2 rfl ?_
  obtain ⟨kd29, hw⟩ := hw
  refine v_callv (r_V F lk_X11_126 kd29 (sX11_multiply hw) (mkRm hR rfl rfl rfl rfl rfl rfl) rfl rfl (Nat.le_of_ble_eq_true rfl) dX11_plus_121) (fun G31 hw => ?_)
  refine v_aload_n F dX11_plus_124 rfl 0 rfl ?_
  obtain ⟨kd32, hw⟩ := hw
  refine v_callv (r_V F lk_X11_130 kd32 (sX11_bound hw) (mkRm hR rfl rfl rfl rfl rfl rfl) rfl rfl (Nat.le_of_ble_eq_true rfl) dX11_plus_125) (fun G34 hw => ?_)
  refine v_iload F dX11_plus_128 4 rfl ?_
  refine v_iload F dX11_plus_130 7 rfl ?_
  refine v_icmp_ne (tgt := 179) F dX11_plus_132 (by decide) (fun h => ?_) (fun h => ?_)
  · rw [if_neg h] at hw
    refine v_lload F dX11_plus_179 5 rfl ?_
    refine v_aload_n F dX11_plus_181 rfl 0 rfl ?_
    obtain ⟨kd35, hw⟩ := hw
    refine v_get F fl_X11_118 kd35 rfl dX11_plus_182 ?_
    refine v_lcmp F dX11_plus_185 ?_
    refine v_lif_lt (tgt := 209) F dX11_plus_186 (by decide) (fun h => ?_) (fun h => ?_)
    · rw [if_pos h] at hw
      exact v_loc [0, 1, 2, 3, 4, 5, 6, 7] rfl (sbX11_plus_209 hR F  hw)
    · rw [if_neg h] at hw
      refine v_lload F dX11_plus_189 5 rfl ?_
      refine v_aload_n F dX11_plus_191 rfl 0 rfl ?_
      refine v_get F fl_X11_118 kd35 rfl dX11_plus_192 ?_
      refine v_lcmp F dX11_plus_195 ?_
      refine v_lif_ne (tgt := 213) F dX11_plus_196 (by decide) (fun h => ?_) (fun h => ?_)
      · rw [if_neg h] at hw
        exact v_loc [0, 1, 2, 3, 4, 5, 6, 7] rfl (sbX11_plus_213 hR F  hw)
      · rw [if_pos h] at hw
        refine v_lload F dX11_plus_199 6 rfl ?_
        refine v_aload_n F dX11_plus_201 rfl 0 rfl ?_
        refine v_get F fl_X11_121 kd35 rfl dX11_plus_202 ?_
        refine v_lcmp F dX11_plus_205 ?_
        refine v_lif_ge (tgt := 213) F dX11_plus_206 (by decide) (fun h => ?_) (fun h => ?_)
        · rw [if_neg h] at hw
          exact v_loc [0, 1, 2, 3, 4, 5, 6, 7] rfl (sbX11_plus_213 hR F  hw)
        · rw [if_pos h] at hw
          exact v_loc [0, 1, 2, 3, 4, 5, 6, 7] rfl (sbX11_plus_209 hR F  hw)
  · rw [if_pos h] at hw
    refine v_lload F dX11_plus_135 5 rfl ?_
    refine v_aload_n F dX11_plus_137 rfl 0 rfl ?_
    obtain ⟨kd36, hw⟩ := hw
    refine v_get F fl_X11_118 kd36 rfl dX11_plus_138 ?_
    refine v_ladd F dX11_plus_141 ?_
    refine v_topl (fun x37 hx37 => ?_)
    have hw := hw x37 hx37
    refine v_lstore (L' := [(12, .long x37), (0, .ref v0), (5, .long v5), (7, .long v7), (9, .long v9), (11, .int v11), (14, .long v14), (16, .int v16)]) F dX11_plus_142 (by decide) rfl ?_
    refine v_lload F dX11_plus_144 6 rfl ?_
    refine v_aload_n F dX11_plus_146 rfl 1 rfl ?_
    refine v_get F fl_X11_121 kd36 rfl dX11_plus_147 ?_
    refine v_ladd F dX11_plus_150 ?_
    refine v_topl (fun x38 hx38 => ?_)
    have hw := hw x38 hx38
    refine v_lstore (L' := [(14, .long x38), (12, .long x37), (0, .ref v0), (5, .long v5), (7, .long v7), (9, .long v9), (11, .int v11), (16, .int v16)]) F dX11_plus_151 (by decide) rfl ?_
    refine v_lload F dX11_plus_153 0 rfl ?_
    refine v_ldc2 (v := 1000000000000000) F wd_1159 dX11_plus_155 ?_
    refine v_lcmp F dX11_plus_158 ?_
    refine v_lif_lt (tgt := 307) F dX11_plus_159 (by decide) (fun h => ?_) (fun h => ?_)
    · rw [if_pos h] at hw
      exact v_loc [2, 3, 4, 5, 6, 1, 0] rfl (sbX11_plus_307 hR F  hw)
    · rw [if_neg h] at hw
      refine v_lload F dX11_plus_162 0 rfl ?_
      refine v_ldc2 (v := 1000000000000000) F wd_1159 dX11_plus_164 ?_
      refine v_lsub F dX11_plus_167 ?_
      refine v_topl (fun x39 hx39 => ?_)
      have hw := hw x39 hx39
      refine v_lstore (L' := [(14, .long x39), (12, .long x37), (0, .ref v0), (5, .long v5), (7, .long v7), (9, .long v9), (11, .int v11), (16, .int v16)]) F dX11_plus_168 (by decide) rfl ?_
      refine v_lload F dX11_plus_170 1 rfl ?_
      refine v_lconst (v := 1) F dX11_plus_172 rfl ?_
      refine v_ladd F dX11_plus_173 ?_
      refine v_topl (fun x40 hx40 => ?_)
      have hw := hw x40 hx40
      refine v_lstore (L' := [(12, .long x40), (14, .long x39), (0, .ref v0), (5, .long v5), (7, .long v7), (9, .long v9), (11, .int v11), (16, .int v16)]) F dX11_plus_174 (by decide) rfl ?_
      refine v_goto (tgt := 307) F dX11_plus_176 (by decide) ?_
      exact v_loc [2, 3, 4, 5, 6, 0, 1] rfl (sbX11_plus_307 hR F  hw)
set_option maxRecDepth 100000 in
theorem sbX11_plus_105 {X : Cx} {D : Dx} (hR : X.2.2.2.1 = rmX11_plus) (F : Fx X D cX11_plus 23 RX11 none "plus") {Q : Wd → Prop} {v0 : Nat} {v1 : Int64} {v5 : Int64} {v7 : Int64} {v9 : Int64} {v11 : Int32} {v12 : Int64} {v14 : Int64} {s0 : Int32} {G : Wd} (hw : wpX11_plus_105 Q  v0 v1 v5 v7 v9 v11 v12 v14 s0 G) : V X D 23 (ZM X D (QMv D Q) 0 0) G 0 0 105 [(0, .ref v0), (1, .long v1), (5, .long v5), (7, .long v7), (9, .long v9), (11, .int v11), (12, .long v12), (14, .long v14)] [.int s0] := by
  unfold wpX11_plus_105 at hw
  refine v_istore (L' := [(16, .int s0), (0, .ref v0), (1, .long v1), (5, .long v5), (7, .long v7), (9, .long v9), (11, .int v11), (12, .long v12), (14, .long v14)]) F dX11_plus_105 (by decide) rfl ?_
  refine v_aload_n F dX11_plus_107 rfl 1 rfl ?_
  refine v_iload F dX11_plus_108 0 rfl ?_
  refine v_if_eq (tgt := 118) F dX11_plus_110 (by decide) (fun h => ?_) (fun h => ?_)
  · rw [if_pos h] at hw
    refine v_lload_n F dX11_plus_118 rfl 2 rfl ?_
    exact v_loc [1, 3, 4, 5, 6, 7, 8, 0] rfl (sbX11_plus_119 hR F  hw)
  · rw [if_neg h] at hw
    refine v_lload_n F dX11_plus_113 rfl 2 rfl ?_
    refine v_lneg F dX11_plus_114 ?_
    refine v_goto (tgt := 119) F dX11_plus_115 (by decide) ?_
    exact v_loc [1, 3, 4, 5, 6, 7, 8, 0] rfl (sbX11_plus_119 hR F  hw)
set_option maxRecDepth 100000 in
theorem sbX11_plus_73 {X : Cx} {D : Dx} (hR : X.2.2.2.1 = rmX11_plus) (F : Fx X D cX11_plus 23 RX11 none "plus") {Q : Wd → Prop} {v0 : Nat} {v1 : Int64} {v5 : Int64} {v7 : Int64} {v9 : Int64} {v11 : Int32} {s0 : Nat} {s1 : Int64} {G : Wd} (hw : wpX11_plus_73 Q  v0 v1 v5 v7 v9 v11 s0 s1 G) : V X D 23 (ZM X D (QMv D Q) 0 0) G 0 0 73 [(0, .ref v0), (1, .long v1), (5, .long v5), (7, .long v7), (9, .long v9), (11, .int v11)] [.long s1, .ref s0] := by
  unfold wpX11_plus_73 at hw
  refine v_lload F dX11_plus_73 4 rfl ?_
  obtain ⟨kd41, hw⟩ := hw
  refine v_callv (r_V F lk_X11_126 kd41 (sX11_multiply hw) (mkRm hR rfl rfl rfl rfl rfl rfl) rfl rfl (Nat.le_of_ble_eq_true rfl) dX11_plus_75) (fun G43 hw => ?_)
  refine v_aload_n F dX11_plus_78 rfl 0 rfl ?_
  obtain ⟨kd44, hw⟩ := hw
  refine v_callv (r_V F lk_X11_130 kd44 (sX11_bound hw) (mkRm hR rfl rfl rfl rfl rfl rfl) rfl rfl (Nat.le_of_ble_eq_true rfl) dX11_plus_79) (fun G46 hw => ?_)
  refine v_aload_n F dX11_plus_82 rfl 0 rfl ?_
  obtain ⟨kd47, hw⟩ := hw
  refine v_get F fl_X11_118 kd47 rfl dX11_plus_83 ?_
  refine v_topl (fun x48 hx48 => ?_)
  have hw := hw x48 hx48
  refine v_lstore (L' := [(12, .long x48), (0, .ref v0), (1, .long v1), (5, .long v5), (7, .long v7), (9, .long v9), (11, .int v11)]) F dX11_plus_86 (by decide) rfl ?_
  refine v_aload_n F dX11_plus_88 rfl 1 rfl ?_
  refine v_get F fl_X11_121 kd47 rfl dX11_plus_89 ?_
  refine v_topl (fun x49 hx49 => ?_)
  have hw := hw x49 hx49
  refine v_lstore (L' := [(14, .long x49), (12, .long x48), (0, .ref v0), (1, .long v1), (5, .long v5), (7, .long v7), (9, .long v9), (11, .int v11)]) F dX11_plus_92 (by decide) rfl ?_
  refine v_lload_n F dX11_plus_94 rfl 3 rfl ?_
  refine v_lconst (v := 0) F dX11_plus_95 rfl ?_
  refine v_lcmp F dX11_plus_96 ?_
  refine v_lif_ge (tgt := 104) F dX11_plus_97 (by decide) (fun h => ?_) (fun h => ?_)
  · rw [if_neg h] at hw
    refine v_iconst (v := 0) F dX11_plus_104 (by decide) ?_
    exact v_loc [2, 3, 4, 5, 6, 7, 1, 0] rfl (sbX11_plus_105 hR F  hw)
  · rw [if_pos h] at hw
    refine v_iconst (v := 1) F dX11_plus_100 (by decide) ?_
    refine v_goto (tgt := 105) F dX11_plus_101 (by decide) ?_
    exact v_loc [2, 3, 4, 5, 6, 7, 1, 0] rfl (sbX11_plus_105 hR F  hw)
set_option maxRecDepth 100000 in
theorem sbX11_plus_39 {X : Cx} {D : Dx} (hR : X.2.2.2.1 = rmX11_plus) (F : Fx X D cX11_plus 23 RX11 none "plus") {Q : Wd → Prop} {v0 : Nat} {v1 : Int64} {v5 : Int64} {v7 : Int64} {v9 : Int64} {s0 : Int32} {G : Wd} (hw : wpX11_plus_39 Q  v0 v1 v5 v7 v9 s0 G) : V X D 23 (ZM X D (QMv D Q) 0 0) G 0 0 39 [(0, .ref v0), (1, .long v1), (5, .long v5), (7, .long v7), (9, .long v9)] [.int s0] := by
  unfold wpX11_plus_39 at hw
  refine v_istore (L' := [(11, .int s0), (0, .ref v0), (1, .long v1), (5, .long v5), (7, .long v7), (9, .long v9)]) F dX11_plus_39 (by decide) rfl ?_
  refine v_aload_n F dX11_plus_41 rfl 1 rfl ?_
  refine v_aload_n F dX11_plus_42 rfl 1 rfl ?_
  obtain ⟨kd50, hw⟩ := hw
  refine v_get F fl_X11_98 kd50 rfl dX11_plus_43 ?_
  refine v_lload F dX11_plus_46 5 rfl ?_
  refine v_callv (r_V F lk_X11_126 kd50 (sX11_multiply hw) (mkRm hR rfl rfl rfl rfl rfl rfl) rfl rfl (Nat.le_of_ble_eq_true rfl) dX11_plus_48) (fun G52 hw => ?_)
  refine v_aload_n F dX11_plus_51 rfl 1 rfl ?_
  obtain ⟨kd53, hw⟩ := hw
  refine v_callv (r_V F lk_X11_130 kd53 (sX11_bound hw) (mkRm hR rfl rfl rfl rfl rfl rfl) rfl rfl (Nat.le_of_ble_eq_true rfl) dX11_plus_52) (fun G55 hw => ?_)
  refine v_aload_n F dX11_plus_55 rfl 1 rfl ?_
  refine v_iload F dX11_plus_56 0 rfl ?_
  refine v_if_eq (tgt := 69) F dX11_plus_58 (by decide) (fun h => ?_) (fun h => ?_)
  · rw [if_pos h] at hw
    refine v_aload_n F dX11_plus_69 rfl 1 rfl ?_
    obtain ⟨kd56, hw⟩ := hw
    refine v_get F fl_X11_94 kd56 rfl dX11_plus_70 ?_
    exact v_loc [1, 2, 3, 4, 5, 0] rfl (sbX11_plus_73 hR F  hw)
  · rw [if_neg h] at hw
    refine v_aload_n F dX11_plus_61 rfl 1 rfl ?_
    obtain ⟨kd57, hw⟩ := hw
    refine v_get F fl_X11_94 kd57 rfl dX11_plus_62 ?_
    refine v_lneg F dX11_plus_65 ?_
    refine v_goto (tgt := 73) F dX11_plus_66 (by decide) ?_
    exact v_loc [1, 2, 3, 4, 5, 0] rfl (sbX11_plus_73 hR F  hw)
set_option maxRecDepth 100000 in
theorem sX11_plus {l : Launch} {D : Dx} {a0 : Nat} {p1 : Int64} {p3 : Int64} {G : Wd} {Q : Wd → Prop} (hw : wpX11_plus a0 p1 p3 G Q) : Met l yX11_plus (wM yX11_plus cX11_plus 23 none) rmX11_plus (PM D [.ref a0, .long p1, .long p3] G) (QMv D Q) 0 0 (Ab D) := by
  refine v_met (by decide) (Nat.le_of_ble_eq_true rfl) (fun X hl hR F => ?_)
  subst hl
  have F : Fx X D cX11_plus 23 RX11 none "plus" := F
  refine v_cast (L' := [(0, .ref a0), (1, .long p1), (3, .long p3)]) rfl rfl ?_
  unfold wpX11_plus at hw
  refine v_aload_n F dX11_plus_0 rfl 0 rfl ?_
  obtain ⟨kd58, hw⟩ := hw
  refine v_get F fl_X11_98 kd58 rfl dX11_plus_1 ?_
  refine v_lload_n F dX11_plus_4 rfl 2 rfl ?_
  refine v_calll (r_S F ls_X11_90 (sX11_common hw) (mkRm hR rfl rfl rfl rfl rfl rfl) rfl rfl (Nat.le_of_ble_eq_true rfl) dX11_plus_5) (fun r59 G60 hw => ?_)
  refine v_lstore (L' := [(5, .long r59), (0, .ref a0), (1, .long p1), (3, .long p3)]) F dX11_plus_8 (by decide) rfl ?_
  refine v_aload_n F dX11_plus_10 rfl 1 rfl ?_
  obtain ⟨kd61, hw⟩ := hw
  refine v_get F fl_X11_98 kd61 rfl dX11_plus_11 ?_
  refine v_lload F dX11_plus_14 0 rfl ?_
  obtain ⟨hn62, hw⟩ := hw
  refine v_ldiv F dX11_plus_16 hn62 ?_
  refine v_topl (fun x63 hx63 => ?_)
  have hw := hw x63 hx63
  refine v_lstore (L' := [(7, .long x63), (5, .long r59), (0, .ref a0), (1, .long p1), (3, .long p3)]) F dX11_plus_17 (by decide) rfl ?_
  refine v_lload_n F dX11_plus_19 rfl 4 rfl ?_
  refine v_lload F dX11_plus_20 1 rfl ?_
  obtain ⟨hn64, hw⟩ := hw
  refine v_ldiv F dX11_plus_22 hn64 ?_
  refine v_topl (fun x65 hx65 => ?_)
  have hw := hw x65 hx65
  refine v_lstore (L' := [(9, .long x65), (7, .long x63), (5, .long r59), (0, .ref a0), (1, .long p1), (3, .long p3)]) F dX11_plus_23 (by decide) rfl ?_
  refine v_aload_n F dX11_plus_25 rfl 3 rfl ?_
  refine v_get F fl_X11_94 kd61 rfl dX11_plus_26 ?_
  refine v_lconst (v := 0) F dX11_plus_29 rfl ?_
  refine v_lcmp F dX11_plus_30 ?_
  refine v_lif_ge (tgt := 38) F dX11_plus_31 (by decide) (fun h => ?_) (fun h => ?_)
  · rw [if_neg h] at hw
    refine v_iconst (v := 0) F dX11_plus_38 (by decide) ?_
    exact v_loc [3, 4, 2, 1, 0] rfl (sbX11_plus_39 hR F  hw)
  · rw [if_pos h] at hw
    refine v_iconst (v := 1) F dX11_plus_34 (by decide) ?_
    refine v_goto (tgt := 39) F dX11_plus_35 (by decide) ?_
    exact v_loc [3, 4, 2, 1, 0] rfl (sbX11_plus_39 hR F  hw)
set_option maxRecDepth 100000 in
theorem sbX11_isLess_170 {X : Cx} {D : Dx} (hR : X.2.2.2.1 = rmX11_isLess) (F : Fx X D cX11_isLess 16 RX11 (some .boolean) "isLess") {Q : Int32 → Wd → Prop} {v9 : Int32} {v14 : Int32} {s0 : Int32} {G : Wd} (hw : wpX11_isLess_170 Q  v9 v14 s0 G) : V X D 16 (ZM X D (QMi D Q) 0 0) G 0 0 170 [(9, .int v9), (14, .int v14)] [.int s0] := by
  unfold wpX11_isLess_170 at hw
  refine v_istore (L' := [(15, .int s0), (9, .int v9), (14, .int v14)]) F dX11_isLess_170 (by decide) rfl ?_
  refine v_iload F dX11_isLess_172 1 rfl ?_
  refine v_if_eq (tgt := 182) F dX11_isLess_174 (by decide) (fun h => ?_) (fun h => ?_)
  · rw [if_pos h] at hw
    refine v_iload F dX11_isLess_182 2 rfl ?_
    exact v_zret F hw.1 hw.2 dX11_isLess_184
  · rw [if_neg h] at hw
    refine v_iload F dX11_isLess_177 0 rfl ?_
    refine v_goto (tgt := 184) F dX11_isLess_179 (by decide) ?_
    exact v_zret F hw.1 hw.2 dX11_isLess_184
set_option maxRecDepth 100000 in
theorem sbX11_isLess_165 {X : Cx} {D : Dx} (hR : X.2.2.2.1 = rmX11_isLess) (F : Fx X D cX11_isLess 16 RX11 (some .boolean) "isLess") {Q : Int32 → Wd → Prop} {v9 : Int32} {v14 : Int32} {G : Wd} (hw : wpX11_isLess_165 Q  v9 v14 G) : V X D 16 (ZM X D (QMi D Q) 0 0) G 0 0 165 [(9, .int v9), (14, .int v14)] [] := by
  unfold wpX11_isLess_165 at hw
  refine v_iconst (v := 1) F dX11_isLess_165 (by decide) ?_
  refine v_goto (tgt := 170) F dX11_isLess_166 (by decide) ?_
  exact v_loc [0, 1] rfl (sbX11_isLess_170 hR F  hw)
set_option maxRecDepth 100000 in
theorem sbX11_isLess_169 {X : Cx} {D : Dx} (hR : X.2.2.2.1 = rmX11_isLess) (F : Fx X D cX11_isLess 16 RX11 (some .boolean) "isLess") {Q : Int32 → Wd → Prop} {v9 : Int32} {v14 : Int32} {G : Wd} (hw : wpX11_isLess_169 Q  v9 v14 G) : V X D 16 (ZM X D (QMi D Q) 0 0) G 0 0 169 [(9, .int v9), (14, .int v14)] [] := by
  unfold wpX11_isLess_169 at hw
  refine v_iconst (v := 0) F dX11_isLess_169 (by decide) ?_
  exact v_loc [0, 1] rfl (sbX11_isLess_170 hR F  hw)
set_option maxRecDepth 100000 in
theorem sbX11_isLess_133 {X : Cx} {D : Dx} (hR : X.2.2.2.1 = rmX11_isLess) (F : Fx X D cX11_isLess 16 RX11 (some .boolean) "isLess") {Q : Int32 → Wd → Prop} {v0 : Nat} {v9 : Int32} {v10 : Int64} {v12 : Int64} {s0 : Int32} {G : Wd} (hw : wpX11_isLess_133 Q  v0 v9 v10 v12 s0 G) : V X D 16 (ZM X D (QMi D Q) 0 0) G 0 0 133 [(0, .ref v0), (9, .int v9), (10, .long v10), (12, .long v12)] [.int s0] := by
  unfold wpX11_isLess_133 at hw
  refine v_istore (L' := [(14, .int s0), (0, .ref v0), (9, .int v9), (10, .long v10), (12, .long v12)]) F dX11_isLess_133 (by decide) rfl ?_
  refine v_lload F dX11_isLess_135 3 rfl ?_
  refine v_aload_n F dX11_isLess_137 rfl 1 rfl ?_
  obtain ⟨kd1, hw⟩ := hw
  refine v_get F fl_X11_118 kd1 rfl dX11_isLess_138 ?_
  refine v_lcmp F dX11_isLess_141 ?_
  refine v_lif_gt (tgt := 165) F dX11_isLess_142 (by decide) (fun h => ?_) (fun h => ?_)
  · rw [if_pos h] at hw
    exact v_loc [2, 0] rfl (sbX11_isLess_165 hR F  hw)
  · rw [if_neg h] at hw
    refine v_lload F dX11_isLess_145 3 rfl ?_
    refine v_aload_n F dX11_isLess_147 rfl 1 rfl ?_
    refine v_get F fl_X11_118 kd1 rfl dX11_isLess_148 ?_
    refine v_lcmp F dX11_isLess_151 ?_
    refine v_lif_ne (tgt := 169) F dX11_isLess_152 (by decide) (fun h => ?_) (fun h => ?_)
    · rw [if_neg h] at hw
      exact v_loc [2, 0] rfl (sbX11_isLess_169 hR F  hw)
    · rw [if_pos h] at hw
      refine v_lload F dX11_isLess_155 4 rfl ?_
      refine v_aload_n F dX11_isLess_157 rfl 1 rfl ?_
      refine v_get F fl_X11_121 kd1 rfl dX11_isLess_158 ?_
      refine v_lcmp F dX11_isLess_161 ?_
      refine v_lif_le (tgt := 169) F dX11_isLess_162 (by decide) (fun h => ?_) (fun h => ?_)
      · rw [if_neg h] at hw
        exact v_loc [2, 0] rfl (sbX11_isLess_169 hR F  hw)
      · rw [if_pos h] at hw
        exact v_loc [2, 0] rfl (sbX11_isLess_165 hR F  hw)
set_option maxRecDepth 100000 in
theorem sbX11_isLess_128 {X : Cx} {D : Dx} (hR : X.2.2.2.1 = rmX11_isLess) (F : Fx X D cX11_isLess 16 RX11 (some .boolean) "isLess") {Q : Int32 → Wd → Prop} {v0 : Nat} {v9 : Int32} {v10 : Int64} {v12 : Int64} {G : Wd} (hw : wpX11_isLess_128 Q  v0 v9 v10 v12 G) : V X D 16 (ZM X D (QMi D Q) 0 0) G 0 0 128 [(0, .ref v0), (9, .int v9), (10, .long v10), (12, .long v12)] [] := by
  unfold wpX11_isLess_128 at hw
  refine v_iconst (v := 1) F dX11_isLess_128 (by decide) ?_
  refine v_goto (tgt := 133) F dX11_isLess_129 (by decide) ?_
  exact v_loc [0, 1, 2, 3] rfl (sbX11_isLess_133 hR F  hw)
set_option maxRecDepth 100000 in
theorem sbX11_isLess_132 {X : Cx} {D : Dx} (hR : X.2.2.2.1 = rmX11_isLess) (F : Fx X D cX11_isLess 16 RX11 (some .boolean) "isLess") {Q : Int32 → Wd → Prop} {v0 : Nat} {v9 : Int32} {v10 : Int64} {v12 : Int64} {G : Wd} (hw : wpX11_isLess_132 Q  v0 v9 v10 v12 G) : V X D 16 (ZM X D (QMi D Q) 0 0) G 0 0 132 [(0, .ref v0), (9, .int v9), (10, .long v10), (12, .long v12)] [] := by
  unfold wpX11_isLess_132 at hw
  refine v_iconst (v := 0) F dX11_isLess_132 (by decide) ?_
  exact v_loc [0, 1, 2, 3] rfl (sbX11_isLess_133 hR F  hw)
set_option maxRecDepth 100000 in
theorem sbX11_isLess_94 {X : Cx} {D : Dx} (hR : X.2.2.2.1 = rmX11_isLess) (F : Fx X D cX11_isLess 16 RX11 (some .boolean) "isLess") {Q : Int32 → Wd → Prop} {v0 : Nat} {v3 : Int64} {v9 : Int32} {v10 : Int64} {v12 : Int64} {s0 : Nat} {s1 : Int64} {G : Wd} (hw : wpX11_isLess_94 Q  v0 v3 v9 v10 v12 s0 s1 G) : V X D 16 (ZM X D (QMi D Q) 0 0) G 0 0 94 [(0, .ref v0), (3, .long v3), (9, .int v9), (10, .long v10), (12, .long v12)] [.long s1, .ref s0] := by
  unfold wpX11_isLess_94 at hw
  refine v_lload_n F dX11_isLess_94 rfl 1 rfl ?_
  obtain ⟨kd2, hw⟩ := hw
  refine v_callv (r_V F lk_X11_126 kd2 (sX11_multiply hw) (mkRm hR rfl rfl rfl rfl rfl rfl) rfl rfl (Nat.le_of_ble_eq_true rfl) dX11_isLess_95) (fun G4 hw => ?_)
  refine v_lload F dX11_isLess_98 3 rfl ?_
  refine v_aload_n F dX11_isLess_100 rfl 0 rfl ?_
  obtain ⟨kd5, hw⟩ := hw
  refine v_get F fl_X11_118 kd5 rfl dX11_isLess_101 ?_
  refine v_lcmp F dX11_isLess_104 ?_
  refine v_lif_lt (tgt := 128) F dX11_isLess_105 (by decide) (fun h => ?_) (fun h => ?_)
  · rw [if_pos h] at hw
    exact v_loc [0, 2, 3, 4] rfl (sbX11_isLess_128 hR F  hw)
  · rw [if_neg h] at hw
    refine v_lload F dX11_isLess_108 3 rfl ?_
    refine v_aload_n F dX11_isLess_110 rfl 0 rfl ?_
    refine v_get F fl_X11_118 kd5 rfl dX11_isLess_111 ?_
    refine v_lcmp F dX11_isLess_114 ?_
    refine v_lif_ne (tgt := 132) F dX11_isLess_115 (by decide) (fun h => ?_) (fun h => ?_)
    · rw [if_neg h] at hw
      exact v_loc [0, 2, 3, 4] rfl (sbX11_isLess_132 hR F  hw)
    · rw [if_pos h] at hw
      refine v_lload F dX11_isLess_118 4 rfl ?_
      refine v_aload_n F dX11_isLess_120 rfl 0 rfl ?_
      refine v_get F fl_X11_121 kd5 rfl dX11_isLess_121 ?_
      refine v_lcmp F dX11_isLess_124 ?_
      refine v_lif_ge (tgt := 132) F dX11_isLess_125 (by decide) (fun h => ?_) (fun h => ?_)
      · rw [if_neg h] at hw
        exact v_loc [0, 2, 3, 4] rfl (sbX11_isLess_132 hR F  hw)
      · rw [if_pos h] at hw
        exact v_loc [0, 2, 3, 4] rfl (sbX11_isLess_128 hR F  hw)
set_option maxRecDepth 100000 in
theorem sbX11_isLess_63 {X : Cx} {D : Dx} (hR : X.2.2.2.1 = rmX11_isLess) (F : Fx X D cX11_isLess 16 RX11 (some .boolean) "isLess") {Q : Int32 → Wd → Prop} {v0 : Nat} {v3 : Int64} {v5 : Int64} {v7 : Int64} {v9 : Int32} {s0 : Nat} {s1 : Int64} {G : Wd} (hw : wpX11_isLess_63 Q  v0 v3 v5 v7 v9 s0 s1 G) : V X D 16 (ZM X D (QMi D Q) 0 0) G 0 0 63 [(0, .ref v0), (3, .long v3), (5, .long v5), (7, .long v7), (9, .int v9)] [.long s1, .ref s0] := by
  unfold wpX11_isLess_63 at hw
  refine v_lload F dX11_isLess_63 3 rfl ?_
  obtain ⟨kd6, hw⟩ := hw
  refine v_callv (r_V F lk_X11_126 kd6 (sX11_multiply hw) (mkRm hR rfl rfl rfl rfl rfl rfl) rfl rfl (Nat.le_of_ble_eq_true rfl) dX11_isLess_65) (fun G8 hw => ?_)
  refine v_aload_n F dX11_isLess_68 rfl 0 rfl ?_
  obtain ⟨kd9, hw⟩ := hw
  refine v_get F fl_X11_118 kd9 rfl dX11_isLess_69 ?_
  refine v_topl (fun x10 hx10 => ?_)
  have hw := hw x10 hx10
  refine v_lstore (L' := [(10, .long x10), (0, .ref v0), (3, .long v3), (5, .long v5), (7, .long v7), (9, .int v9)]) F dX11_isLess_72 (by decide) rfl ?_
  refine v_aload_n F dX11_isLess_74 rfl 1 rfl ?_
  refine v_get F fl_X11_121 kd9 rfl dX11_isLess_75 ?_
  refine v_topl (fun x11 hx11 => ?_)
  have hw := hw x11 hx11
  refine v_lstore (L' := [(12, .long x11), (10, .long x10), (0, .ref v0), (3, .long v3), (5, .long v5), (7, .long v7), (9, .int v9)]) F dX11_isLess_78 (by decide) rfl ?_
  refine v_aload_n F dX11_isLess_80 rfl 2 rfl ?_
  refine v_iload F dX11_isLess_81 6 rfl ?_
  refine v_if_eq (tgt := 92) F dX11_isLess_83 (by decide) (fun h => ?_) (fun h => ?_)
  · rw [if_pos h] at hw
    refine v_lload F dX11_isLess_92 4 rfl ?_
    exact v_loc [2, 3, 6, 1, 0] rfl (sbX11_isLess_94 hR F  hw)
  · rw [if_neg h] at hw
    refine v_lload F dX11_isLess_86 4 rfl ?_
    refine v_lneg F dX11_isLess_88 ?_
    refine v_goto (tgt := 94) F dX11_isLess_89 (by decide) ?_
    exact v_loc [2, 3, 6, 1, 0] rfl (sbX11_isLess_94 hR F  hw)
set_option maxRecDepth 100000 in
theorem sbX11_isLess_49 {X : Cx} {D : Dx} (hR : X.2.2.2.1 = rmX11_isLess) (F : Fx X D cX11_isLess 16 RX11 (some .boolean) "isLess") {Q : Int32 → Wd → Prop} {v0 : Nat} {v1 : Int64} {v3 : Int64} {v5 : Int64} {v7 : Int64} {s0 : Int32} {G : Wd} (hw : wpX11_isLess_49 Q  v0 v1 v3 v5 v7 s0 G) : V X D 16 (ZM X D (QMi D Q) 0 0) G 0 0 49 [(0, .ref v0), (1, .long v1), (3, .long v3), (5, .long v5), (7, .long v7)] [.int s0] := by
  unfold wpX11_isLess_49 at hw
  refine v_istore (L' := [(9, .int s0), (0, .ref v0), (1, .long v1), (3, .long v3), (5, .long v5), (7, .long v7)]) F dX11_isLess_49 (by decide) rfl ?_
  refine v_aload_n F dX11_isLess_51 rfl 1 rfl ?_
  refine v_iload F dX11_isLess_52 0 rfl ?_
  refine v_if_eq (tgt := 62) F dX11_isLess_54 (by decide) (fun h => ?_) (fun h => ?_)
  · rw [if_pos h] at hw
    refine v_lload_n F dX11_isLess_62 rfl 2 rfl ?_
    exact v_loc [1, 3, 4, 5, 0] rfl (sbX11_isLess_63 hR F  hw)
  · rw [if_neg h] at hw
    refine v_lload_n F dX11_isLess_57 rfl 2 rfl ?_
    refine v_lneg F dX11_isLess_58 ?_
    refine v_goto (tgt := 63) F dX11_isLess_59 (by decide) ?_
    exact v_loc [1, 3, 4, 5, 0] rfl (sbX11_isLess_63 hR F  hw)
set_option maxRecDepth 100000 in
theorem sbX11_isLess_23 {X : Cx} {D : Dx} (hR : X.2.2.2.1 = rmX11_isLess) (F : Fx X D cX11_isLess 16 RX11 (some .boolean) "isLess") {Q : Int32 → Wd → Prop} {v0 : Nat} {v1 : Int64} {v3 : Int64} {v5 : Int64} {v7 : Int64} {s0 : Int32} {s1 : Int32} {G : Wd} (hw : wpX11_isLess_23 Q  v0 v1 v3 v5 v7 s0 s1 G) : V X D 16 (ZM X D (QMi D Q) 0 0) G 0 0 23 [(0, .ref v0), (1, .long v1), (3, .long v3), (5, .long v5), (7, .long v7)] [.int s1, .int s0] := by
  unfold wpX11_isLess_23 at hw
  refine v_icmp_eq (tgt := 38) F dX11_isLess_23 (by decide) (fun h => ?_) (fun h => ?_)
  · rw [if_pos h] at hw
    refine v_lload_n F dX11_isLess_38 rfl 1 rfl ?_
    refine v_lconst (v := 0) F dX11_isLess_39 rfl ?_
    refine v_lcmp F dX11_isLess_40 ?_
    refine v_lif_ge (tgt := 48) F dX11_isLess_41 (by decide) (fun h => ?_) (fun h => ?_)
    · rw [if_neg h] at hw
      refine v_iconst (v := 0) F dX11_isLess_48 (by decide) ?_
      exact v_loc [0, 1, 2, 3, 4] rfl (sbX11_isLess_49 hR F  hw)
    · rw [if_pos h] at hw
      refine v_iconst (v := 1) F dX11_isLess_44 (by decide) ?_
      refine v_goto (tgt := 49) F dX11_isLess_45 (by decide) ?_
      exact v_loc [0, 1, 2, 3, 4] rfl (sbX11_isLess_49 hR F  hw)
  · rw [if_neg h] at hw
    refine v_lload_n F dX11_isLess_26 rfl 1 rfl ?_
    refine v_lconst (v := 0) F dX11_isLess_27 rfl ?_
    refine v_lcmp F dX11_isLess_28 ?_
    refine v_lif_ge (tgt := 36) F dX11_isLess_29 (by decide) (fun h => ?_) (fun h => ?_)
    · rw [if_neg h] at hw
      refine v_iconst (v := 0) F dX11_isLess_36 (by decide) ?_
      exact v_zret F (Or.inl rfl) hw dX11_isLess_37
    · rw [if_pos h] at hw
      refine v_iconst (v := 1) F dX11_isLess_32 (by decide) ?_
      refine v_goto (tgt := 37) F dX11_isLess_33 (by decide) ?_
      exact v_zret F (Or.inr rfl) hw dX11_isLess_37
set_option maxRecDepth 100000 in
theorem sbX11_isLess_11 {X : Cx} {D : Dx} (hR : X.2.2.2.1 = rmX11_isLess) (F : Fx X D cX11_isLess 16 RX11 (some .boolean) "isLess") {Q : Int32 → Wd → Prop} {v0 : Nat} {v1 : Int64} {v3 : Int64} {v5 : Int64} {v7 : Int64} {s0 : Int32} {G : Wd} (hw : wpX11_isLess_11 Q  v0 v1 v3 v5 v7 s0 G) : V X D 16 (ZM X D (QMi D Q) 0 0) G 0 0 11 [(0, .ref v0), (1, .long v1), (3, .long v3), (5, .long v5), (7, .long v7)] [.int s0] := by
  unfold wpX11_isLess_11 at hw
  refine v_lload F dX11_isLess_11 3 rfl ?_
  refine v_lconst (v := 0) F dX11_isLess_13 rfl ?_
  refine v_lcmp F dX11_isLess_14 ?_
  refine v_lif_ge (tgt := 22) F dX11_isLess_15 (by decide) (fun h => ?_) (fun h => ?_)
  · rw [if_neg h] at hw
    refine v_iconst (v := 0) F dX11_isLess_22 (by decide) ?_
    exact v_loc [0, 1, 2, 3, 4] rfl (sbX11_isLess_23 hR F  hw)
  · rw [if_pos h] at hw
    refine v_iconst (v := 1) F dX11_isLess_18 (by decide) ?_
    refine v_goto (tgt := 23) F dX11_isLess_19 (by decide) ?_
    exact v_loc [0, 1, 2, 3, 4] rfl (sbX11_isLess_23 hR F  hw)
set_option maxRecDepth 100000 in
theorem sX11_isLess {l : Launch} {D : Dx} {a0 : Nat} {p1 : Int64} {p3 : Int64} {p5 : Int64} {p7 : Int64} {G : Wd} {Q : Int32 → Wd → Prop} (hw : wpX11_isLess a0 p1 p3 p5 p7 G Q) : Met l yX11_isLess (wM yX11_isLess cX11_isLess 16 (some .boolean)) rmX11_isLess (PM D [.ref a0, .long p1, .long p3, .long p5, .long p7] G) (QMi D Q) 0 0 (Ab D) := by
  refine v_met (by decide) (Nat.le_of_ble_eq_true rfl) (fun X hl hR F => ?_)
  subst hl
  have F : Fx X D cX11_isLess 16 RX11 (some .boolean) "isLess" := F
  refine v_cast (L' := [(0, .ref a0), (1, .long p1), (3, .long p3), (5, .long p5), (7, .long p7)]) rfl rfl ?_
  unfold wpX11_isLess at hw
  refine v_lload_n F dX11_isLess_0 rfl 1 rfl ?_
  refine v_lconst (v := 0) F dX11_isLess_1 rfl ?_
  refine v_lcmp F dX11_isLess_2 ?_
  refine v_lif_ge (tgt := 10) F dX11_isLess_3 (by decide) (fun h => ?_) (fun h => ?_)
  · rw [if_neg h] at hw
    refine v_iconst (v := 0) F dX11_isLess_10 (by decide) ?_
    exact v_loc [0, 1, 2, 3, 4] rfl (sbX11_isLess_11 hR F  hw)
  · rw [if_pos h] at hw
    refine v_iconst (v := 1) F dX11_isLess_6 (by decide) ?_
    refine v_goto (tgt := 11) F dX11_isLess_7 (by decide) ?_
    exact v_loc [0, 1, 2, 3, 4] rfl (sbX11_isLess_11 hR F  hw)
set_option maxRecDepth 100000 in
theorem sX11_lies {l : Launch} {D : Dx} {a0 : Nat} {p1 : Int32} {p2 : Int32} {G : Wd} {Q : Int64 → Wd → Prop} (hw : wpX11_lies a0 p1 p2 G Q) : Met l yX11_lies (wM yX11_lies cX11_lies 5 (some .long)) rmX11_lies (PM D [.ref a0, .int p1, .int p2] G) (QMl D Q) 0 0 (Ab D) := by
  refine v_met (by decide) (Nat.le_of_ble_eq_true rfl) (fun X hl hR F => ?_)
  subst hl
  have F : Fx X D cX11_lies 5 RX11 (some .long) "lies" := F
  refine v_cast (L' := [(0, .ref a0), (1, .int p1), (2, .int p2)]) rfl rfl ?_
  unfold wpX11_lies at hw
  refine v_iload_n F dX11_lies_0 rfl 1 rfl ?_
  refine v_i2l F dX11_lies_1 ?_
  refine v_lconst (v := 1) F dX11_lies_2 rfl ?_
  refine v_ldc2 (v := 7) F wd_1017 dX11_lies_3 ?_
  refine v_calli (r_S F ls_X11_145 (sX11_isIn hw) (mkRm hR rfl rfl rfl rfl rfl rfl) rfl rfl (Nat.le_of_ble_eq_true rfl) dX11_lies_6) (fun r1 G2 hw => ?_)
  refine v_if_eq (tgt := 25) F dX11_lies_9 (by decide) (fun h => ?_) (fun h => ?_)
  · rw [if_pos h] at hw
    refine v_ldc2 (v := (-9000000000000000001)) F wd_1021 dX11_lies_25 ?_
    refine v_widen (c' := 0) (s' := 0) (by decide) (by decide) ?_
    exact v_lret F hw dX11_lies_28
  · rw [if_neg h] at hw
    refine v_iload_n F dX11_lies_12 rfl 2 rfl ?_
    refine v_i2l F dX11_lies_13 ?_
    refine v_lconst (v := 0) F dX11_lies_14 rfl ?_
    refine v_iload_n F dX11_lies_15 rfl 1 rfl ?_
    refine v_iconst (v := 1) F dX11_lies_16 (by decide) ?_
    refine v_isub F dX11_lies_17 ?_
    refine v_i2l F dX11_lies_18 ?_
    refine v_calli (r_S F ls_X11_145 (sX11_isIn hw) (mkRm hR rfl rfl rfl rfl rfl rfl) rfl rfl (Nat.le_of_ble_eq_true rfl) dX11_lies_19) (fun r3 G4 hw => ?_)
    refine v_if_ne (tgt := 29) F dX11_lies_22 (by decide) (fun h => ?_) (fun h => ?_)
    · rw [if_neg h] at hw
      refine v_aload_n F dX11_lies_29 rfl 0 rfl ?_
      obtain ⟨kd5, hw⟩ := hw
      obtain ⟨b6, hr7, hw⟩ := hw
      refine v_getS F fl_X11_7 (fun _ => rfl) kd5 hr7 dX11_lies_30 ?_
      refine v_iload_n F dX11_lies_33 rfl 1 rfl ?_
      obtain ⟨kd8, hw⟩ := hw
      obtain ⟨hi9, hw⟩ := hw
      refine v_ialdE F rfl kd8 hi9 dX11_lies_34 ?_
      refine v_i2l F dX11_lies_35 ?_
      refine v_topl (fun x10 hx10 => ?_)
      have hw := hw x10 hx10
      refine v_lstore_n (L' := [(3, .long x10), (0, .ref a0), (1, .int p1), (2, .int p2)]) F dX11_lies_36 rfl (by decide) rfl ?_
      refine v_aload_n F dX11_lies_37 rfl 1 rfl ?_
      obtain ⟨b11, hr12, hw⟩ := hw
      refine v_getS F fl_X11_7 (fun _ => rfl) kd5 hr12 dX11_lies_38 ?_
      refine v_iload_n F dX11_lies_41 rfl 2 rfl ?_
      refine v_iload_n F dX11_lies_42 rfl 3 rfl ?_
      obtain ⟨kd13, hw⟩ := hw
      obtain ⟨hi14, hw⟩ := hw
      refine v_iastE F rfl kd13 hi14 dX11_lies_43 (fun G15 hG15 => ?_)
      have hw := hw G15 hG15
      refine v_lload_n F dX11_lies_44 rfl 0 rfl ?_
      refine v_widen (c' := 0) (s' := 0) (by decide) (by decide) ?_
      exact v_lret F hw dX11_lies_45
    · rw [if_pos h] at hw
      refine v_ldc2 (v := (-9000000000000000001)) F wd_1021 dX11_lies_25 ?_
      refine v_widen (c' := 0) (s' := 0) (by decide) (by decide) ?_
      exact v_lret F hw dX11_lies_28
set_option maxRecDepth 100000 in
theorem sbX11_isWithin_2 {X : Cx} {D : Dx} (hR : X.2.2.2.1 = rmX11_isWithin) (F : Fx X D cX11_isWithin 4 RX11 (some .boolean) "isWithin") {Q : Int32 → Wd → Prop} : ∀ (n : Nat) (v0 : Nat) (v2 : Int32) (v3 : Int32) (G : Wd), wpX11_isWithin_2 Q  n v0 v2 v3 G → V X D 4 (ZM X D (QMi D Q) 0 0) G 0 0 2 [(0, .ref v0), (2, .int v2), (3, .int v3)] [] := by
  intro n
  induction n with
  | zero => intro v0 v2 v3 G hw; exact hw.elim
  | succ n ih =>
    intro v0 v2 v3 G hw
    simp only [wpX11_isWithin_2] at hw
    refine v_iload_n F dX11_isWithin_2 rfl 2 rfl ?_
    refine v_iload_n F dX11_isWithin_3 rfl 1 rfl ?_
    refine v_icmp_le (tgt := 17) F dX11_isWithin_4 (by decide) (fun h => ?_) (fun h => ?_)
    · rw [if_pos h] at hw
      refine v_iload_n F dX11_isWithin_17 rfl 2 rfl ?_
      refine v_iload_n F dX11_isWithin_18 rfl 1 rfl ?_
      refine v_icmp_ne (tgt := 26) F dX11_isWithin_19 (by decide) (fun h => ?_) (fun h => ?_)
      · rw [if_neg h] at hw
        refine v_iconst (v := 0) F dX11_isWithin_26 (by decide) ?_
        exact v_zret F (Or.inl rfl) hw dX11_isWithin_27
      · rw [if_pos h] at hw
        refine v_iconst (v := 1) F dX11_isWithin_22 (by decide) ?_
        refine v_goto (tgt := 27) F dX11_isWithin_23 (by decide) ?_
        exact v_zret F (Or.inr rfl) hw dX11_isWithin_27
    · rw [if_neg h] at hw
      refine v_aload_n F dX11_isWithin_7 rfl 0 rfl ?_
      obtain ⟨kd1, hw⟩ := hw
      obtain ⟨b2, hr3, hw⟩ := hw
      refine v_getS F fl_X11_7 (fun _ => rfl) kd1 hr3 dX11_isWithin_8 ?_
      refine v_iload_n F dX11_isWithin_11 rfl 2 rfl ?_
      obtain ⟨kd4, hw⟩ := hw
      obtain ⟨hi5, hw⟩ := hw
      refine v_ialdE F rfl kd4 hi5 dX11_isWithin_12 ?_
      refine v_topi (fun x6 hx6 => ?_)
      have hw := hw x6 hx6
      refine v_istore_n (L' := [(3, .int x6), (0, .ref v0), (2, .int v2)]) F dX11_isWithin_13 rfl (by decide) rfl ?_
      refine v_goto (tgt := 2) F dX11_isWithin_14 (by decide) ?_
      exact v_loc [1, 2, 0] rfl (ih _ _ _ _ hw)
set_option maxRecDepth 100000 in
theorem sX11_isWithin {l : Launch} {D : Dx} {a0 : Nat} {p1 : Int32} {p2 : Int32} {G : Wd} {Q : Int32 → Wd → Prop} (hw : wpX11_isWithin a0 p1 p2 G Q) : Met l yX11_isWithin (wM yX11_isWithin cX11_isWithin 4 (some .boolean)) rmX11_isWithin (PM D [.ref a0, .int p1, .int p2] G) (QMi D Q) 0 0 (Ab D) := by
  refine v_met (by decide) (Nat.le_of_ble_eq_true rfl) (fun X hl hR F => ?_)
  subst hl
  have F : Fx X D cX11_isWithin 4 RX11 (some .boolean) "isWithin" := F
  refine v_cast (L' := [(0, .ref a0), (1, .int p1), (2, .int p2)]) rfl rfl ?_
  unfold wpX11_isWithin at hw
  refine v_iload_n F dX11_isWithin_0 rfl 1 rfl ?_
  refine v_istore_n (L' := [(3, .int p1), (0, .ref a0), (1, .int p1), (2, .int p2)]) F dX11_isWithin_1 rfl (by decide) rfl ?_
  obtain ⟨m, hw⟩ := hw
  exact v_loc [1, 3, 0] rfl (sbX11_isWithin_2 hR F  m _ _ _ _ hw)
set_option maxRecDepth 100000 in
theorem sX11_isPlace {l : Launch} {D : Dx} {p0 : Int32} {G : Wd} {Q : Int32 → Wd → Prop} (hw : wpX11_isPlace p0 G Q) : Met l yX11_isPlace (wM yX11_isPlace cX11_isPlace 1 (some .boolean)) rmX11_isPlace (PM D [.int p0] G) (QMi D Q) 0 0 (Ab D) := by
  refine v_met (by decide) (Nat.le_of_ble_eq_true rfl) (fun X hl hR F => ?_)
  subst hl
  have F : Fx X D cX11_isPlace 1 RX11 (some .boolean) "isPlace" := F
  refine v_cast (L' := [(0, .int p0)]) rfl rfl ?_
  unfold wpX11_isPlace at hw
  refine v_iload_n F dX11_isPlace_0 rfl 0 rfl ?_
  refine v_i2l F dX11_isPlace_1 ?_
  refine v_lconst (v := 0) F dX11_isPlace_2 rfl ?_
  refine v_ldc2 (v := 7) F wd_1017 dX11_isPlace_3 ?_
  refine v_calli (r_S F ls_X11_145 (sX11_isIn hw) (mkRm hR rfl rfl rfl rfl rfl rfl) rfl rfl (Nat.le_of_ble_eq_true rfl) dX11_isPlace_6) (fun r1 G2 hw => ?_)
  refine v_widen (c' := 0) (s' := 0) (by decide) (by decide) ?_
  exact v_zret F hw.1 hw.2 dX11_isPlace_9
set_option maxRecDepth 100000 in
theorem sX11_within {l : Launch} {D : Dx} {a0 : Nat} {p1 : Int32} {p2 : Int32} {G : Wd} {Q : Int64 → Wd → Prop} (hw : wpX11_within a0 p1 p2 G Q) : Met l yX11_within (wM yX11_within cX11_within 3 (some .long)) rmX11_within (PM D [.ref a0, .int p1, .int p2] G) (QMl D Q) 0 0 (Ab D) := by
  refine v_met (by decide) (Nat.le_of_ble_eq_true rfl) (fun X hl hR F => ?_)
  subst hl
  have F : Fx X D cX11_within 3 RX11 (some .long) "within" := F
  refine v_cast (L' := [(0, .ref a0), (1, .int p1), (2, .int p2)]) rfl rfl ?_
  unfold wpX11_within at hw
  refine v_iload_n F dX11_within_0 rfl 1 rfl ?_
  refine v_calli (r_S F ls_X11_151 (sX11_isPlace hw) (mkRm hR rfl rfl rfl rfl rfl rfl) rfl rfl (Nat.le_of_ble_eq_true rfl) dX11_within_1) (fun r1 G2 hw => ?_)
  refine v_if_eq (tgt := 14) F dX11_within_4 (by decide) (fun h => ?_) (fun h => ?_)
  · rw [if_pos h] at hw
    refine v_ldc2 (v := (-9000000000000000001)) F wd_1021 dX11_within_14 ?_
    refine v_widen (c' := 0) (s' := 0) (by decide) (by decide) ?_
    exact v_lret F hw dX11_within_17
  · rw [if_neg h] at hw
    refine v_iload_n F dX11_within_7 rfl 2 rfl ?_
    refine v_calli (r_S F ls_X11_151 (sX11_isPlace hw) (mkRm hR rfl rfl rfl rfl rfl rfl) rfl rfl (Nat.le_of_ble_eq_true rfl) dX11_within_8) (fun r3 G4 hw => ?_)
    refine v_if_ne (tgt := 18) F dX11_within_11 (by decide) (fun h => ?_) (fun h => ?_)
    · rw [if_neg h] at hw
      refine v_aload_n F dX11_within_18 rfl 0 rfl ?_
      refine v_iload_n F dX11_within_19 rfl 1 rfl ?_
      refine v_iload_n F dX11_within_20 rfl 2 rfl ?_
      obtain ⟨kd5, hw⟩ := hw
      refine v_calli (r_V F lk_X11_155 kd5 (sX11_isWithin hw) (mkRm hR rfl rfl rfl rfl rfl rfl) rfl rfl (Nat.le_of_ble_eq_true rfl) dX11_within_21) (fun r6 G7 hw => ?_)
      refine v_if_eq (tgt := 31) F dX11_within_24 (by decide) (fun h => ?_) (fun h => ?_)
      · rw [if_pos h] at hw
        refine v_lconst (v := 0) F dX11_within_31 rfl ?_
        refine v_widen (c' := 0) (s' := 0) (by decide) (by decide) ?_
        exact v_lret F hw dX11_within_32
      · rw [if_neg h] at hw
        refine v_lconst (v := 1) F dX11_within_27 rfl ?_
        refine v_goto (tgt := 32) F dX11_within_28 (by decide) ?_
        refine v_widen (c' := 0) (s' := 0) (by decide) (by decide) ?_
        exact v_lret F hw dX11_within_32
    · rw [if_pos h] at hw
      refine v_ldc2 (v := (-9000000000000000001)) F wd_1021 dX11_within_14 ?_
      refine v_widen (c' := 0) (s' := 0) (by decide) (by decide) ?_
      exact v_lret F hw dX11_within_17
set_option maxRecDepth 100000 in
theorem sX11_isOne {l : Launch} {D : Dx} {a0 : Nat} {p1 : Int32} {G : Wd} {Q : Int32 → Wd → Prop} (hw : wpX11_isOne a0 p1 G Q) : Met l yX11_isOne (wM yX11_isOne cX11_isOne 2 (some .boolean)) rmX11_isOne (PM D [.ref a0, .int p1] G) (QMi D Q) 0 0 (Ab D) := by
  refine v_met (by decide) (Nat.le_of_ble_eq_true rfl) (fun X hl hR F => ?_)
  subst hl
  have F : Fx X D cX11_isOne 2 RX11 (some .boolean) "isOne" := F
  refine v_cast (L' := [(0, .ref a0), (1, .int p1)]) rfl rfl ?_
  unfold wpX11_isOne at hw
  refine v_iload_n F dX11_isOne_0 rfl 1 rfl ?_
  refine v_i2l F dX11_isOne_1 ?_
  refine v_lconst (v := 0) F dX11_isOne_2 rfl ?_
  refine v_aload_n F dX11_isOne_3 rfl 0 rfl ?_
  obtain ⟨kd1, hw⟩ := hw
  refine v_get F fl_X11_159 kd1 rfl dX11_isOne_4 ?_
  refine v_iconst (v := 1) F dX11_isOne_7 (by decide) ?_
  refine v_isub F dX11_isOne_8 ?_
  refine v_i2l F dX11_isOne_9 ?_
  refine v_calli (r_S F ls_X11_145 (sX11_isIn hw) (mkRm hR rfl rfl rfl rfl rfl rfl) rfl rfl (Nat.le_of_ble_eq_true rfl) dX11_isOne_10) (fun r2 G3 hw => ?_)
  refine v_widen (c' := 0) (s' := 0) (by decide) (by decide) ?_
  exact v_zret F hw.1 hw.2 dX11_isOne_13
set_option maxRecDepth 100000 in
theorem sX11_likeness {l : Launch} {D : Dx} {a0 : Nat} {p1 : Int32} {p2 : Int32} {p3 : Int32} {p4 : Int32} {G : Wd} {Q : Int64 → Wd → Prop} (hw : wpX11_likeness a0 p1 p2 p3 p4 G Q) : Met l yX11_likeness (wM yX11_likeness cX11_likeness 5 (some .long)) rmX11_likeness (PM D [.ref a0, .int p1, .int p2, .int p3, .int p4] G) (QMl D Q) 0 0 (Ab D) := by
  refine v_met (by decide) (Nat.le_of_ble_eq_true rfl) (fun X hl hR F => ?_)
  subst hl
  have F : Fx X D cX11_likeness 5 RX11 (some .long) "likeness" := F
  refine v_cast (L' := [(0, .ref a0), (1, .int p1), (2, .int p2), (3, .int p3), (4, .int p4)]) rfl rfl ?_
  unfold wpX11_likeness at hw
  refine v_iload_n F dX11_likeness_0 rfl 1 rfl ?_
  refine v_i2l F dX11_likeness_1 ?_
  refine v_lconst (v := 0) F dX11_likeness_2 rfl ?_
  refine v_ldc2 (v := 4) F wd_1037 dX11_likeness_3 ?_
  refine v_calli (r_S F ls_X11_145 (sX11_isIn hw) (mkRm hR rfl rfl rfl rfl rfl rfl) rfl rfl (Nat.le_of_ble_eq_true rfl) dX11_likeness_6) (fun r1 G2 hw => ?_)
  refine v_if_eq (tgt := 49) F dX11_likeness_9 (by decide) (fun h => ?_) (fun h => ?_)
  · rw [if_pos h] at hw
    refine v_ldc2 (v := (-9000000000000000001)) F wd_1021 dX11_likeness_49 ?_
    refine v_widen (c' := 0) (s' := 0) (by decide) (by decide) ?_
    exact v_lret F hw dX11_likeness_52
  · rw [if_neg h] at hw
    refine v_iload_n F dX11_likeness_12 rfl 2 rfl ?_
    refine v_i2l F dX11_likeness_13 ?_
    refine v_lconst (v := 0) F dX11_likeness_14 rfl ?_
    refine v_ldc2 (v := 99) F wd_1038 dX11_likeness_15 ?_
    refine v_calli (r_S F ls_X11_145 (sX11_isIn hw) (mkRm hR rfl rfl rfl rfl rfl rfl) rfl rfl (Nat.le_of_ble_eq_true rfl) dX11_likeness_18) (fun r3 G4 hw => ?_)
    refine v_if_eq (tgt := 49) F dX11_likeness_21 (by decide) (fun h => ?_) (fun h => ?_)
    · rw [if_pos h] at hw
      refine v_ldc2 (v := (-9000000000000000001)) F wd_1021 dX11_likeness_49 ?_
      refine v_widen (c' := 0) (s' := 0) (by decide) (by decide) ?_
      exact v_lret F hw dX11_likeness_52
    · rw [if_neg h] at hw
      refine v_iload_n F dX11_likeness_24 rfl 3 rfl ?_
      refine v_i2l F dX11_likeness_25 ?_
      refine v_lconst (v := 1) F dX11_likeness_26 rfl ?_
      refine v_ldc2 (v := 1000) F wd_1039 dX11_likeness_27 ?_
      refine v_calli (r_S F ls_X11_145 (sX11_isIn hw) (mkRm hR rfl rfl rfl rfl rfl rfl) rfl rfl (Nat.le_of_ble_eq_true rfl) dX11_likeness_30) (fun r5 G6 hw => ?_)
      refine v_if_eq (tgt := 49) F dX11_likeness_33 (by decide) (fun h => ?_) (fun h => ?_)
      · rw [if_pos h] at hw
        refine v_ldc2 (v := (-9000000000000000001)) F wd_1021 dX11_likeness_49 ?_
        refine v_widen (c' := 0) (s' := 0) (by decide) (by decide) ?_
        exact v_lret F hw dX11_likeness_52
      · rw [if_neg h] at hw
        refine v_iload F dX11_likeness_36 4 rfl ?_
        refine v_i2l F dX11_likeness_38 ?_
        refine v_lconst (v := 1) F dX11_likeness_39 rfl ?_
        refine v_ldc2 (v := 1000) F wd_1039 dX11_likeness_40 ?_
        refine v_calli (r_S F ls_X11_145 (sX11_isIn hw) (mkRm hR rfl rfl rfl rfl rfl rfl) rfl rfl (Nat.le_of_ble_eq_true rfl) dX11_likeness_43) (fun r7 G8 hw => ?_)
        refine v_if_ne (tgt := 53) F dX11_likeness_46 (by decide) (fun h => ?_) (fun h => ?_)
        · rw [if_neg h] at hw
          refine v_aload_n F dX11_likeness_53 rfl 0 rfl ?_
          obtain ⟨kd9, hw⟩ := hw
          refine v_get F fl_X11_159 kd9 rfl dX11_likeness_54 ?_
          refine v_bipush (v := 24) F dX11_likeness_57 (by decide) ?_
          refine v_icmp_ne (tgt := 66) F dX11_likeness_59 (by decide) (fun h => ?_) (fun h => ?_)
          · rw [if_neg h] at hw
            refine v_aload_n F dX11_likeness_66 rfl 0 rfl ?_
            obtain ⟨b10, hr11, hw⟩ := hw
            refine v_getS F fl_X11_13 (fun _ => rfl) kd9 hr11 dX11_likeness_67 ?_
            refine v_aload_n F dX11_likeness_70 rfl 0 rfl ?_
            refine v_get F fl_X11_159 kd9 rfl dX11_likeness_71 ?_
            refine v_iload_n F dX11_likeness_74 rfl 1 rfl ?_
            obtain ⟨kd12, hw⟩ := hw
            obtain ⟨hi13, hw⟩ := hw
            refine v_iastE F rfl kd12 hi13 dX11_likeness_75 (fun G14 hG14 => ?_)
            have hw := hw G14 hG14
            refine v_aload_n F dX11_likeness_76 rfl 0 rfl ?_
            have kd15 : gK G14 a0 = 11 := by rw [hG14]; exact kd9
            obtain ⟨b16, hr17, hw⟩ := hw
            refine v_getS F fl_X11_16 (fun _ => rfl) kd15 hr17 dX11_likeness_77 ?_
            refine v_aload_n F dX11_likeness_80 rfl 0 rfl ?_
            refine v_get F fl_X11_159 kd15 rfl dX11_likeness_81 ?_
            refine v_iload_n F dX11_likeness_84 rfl 2 rfl ?_
            refine v_bipush (v := 10) F dX11_likeness_85 (by decide) ?_
            refine v_idiv F dX11_likeness_87 (by decide) ?_
            obtain ⟨kd18, hw⟩ := hw
            obtain ⟨hi19, hw⟩ := hw
            refine v_iastE F rfl kd18 hi19 dX11_likeness_88 (fun G20 hG20 => ?_)
            have hw := hw G20 hG20
            refine v_aload_n F dX11_likeness_89 rfl 0 rfl ?_
            have kd21 : gK G20 a0 = 11 := by rw [hG20]; exact kd15
            obtain ⟨b22, hr23, hw⟩ := hw
            refine v_getS F fl_X11_19 (fun _ => rfl) kd21 hr23 dX11_likeness_90 ?_
            refine v_aload_n F dX11_likeness_93 rfl 0 rfl ?_
            refine v_get F fl_X11_159 kd21 rfl dX11_likeness_94 ?_
            refine v_iload_n F dX11_likeness_97 rfl 2 rfl ?_
            refine v_bipush (v := 10) F dX11_likeness_98 (by decide) ?_
            refine v_iremE F dX11_likeness_100 (by decide) ?_
            obtain ⟨kd24, hw⟩ := hw
            obtain ⟨hi25, hw⟩ := hw
            refine v_iastE F rfl kd24 hi25 dX11_likeness_101 (fun G26 hG26 => ?_)
            have hw := hw G26 hG26
            refine v_aload_n F dX11_likeness_102 rfl 0 rfl ?_
            have kd27 : gK G26 a0 = 11 := by rw [hG26]; exact kd21
            obtain ⟨b28, hr29, hw⟩ := hw
            refine v_getS F fl_X11_22 (fun _ => rfl) kd27 hr29 dX11_likeness_103 ?_
            refine v_aload_n F dX11_likeness_106 rfl 0 rfl ?_
            refine v_get F fl_X11_159 kd27 rfl dX11_likeness_107 ?_
            refine v_iload_n F dX11_likeness_110 rfl 3 rfl ?_
            obtain ⟨kd30, hw⟩ := hw
            obtain ⟨hi31, hw⟩ := hw
            refine v_iastE F rfl kd30 hi31 dX11_likeness_111 (fun G32 hG32 => ?_)
            have hw := hw G32 hG32
            refine v_aload_n F dX11_likeness_112 rfl 0 rfl ?_
            have kd33 : gK G32 a0 = 11 := by rw [hG32]; exact kd27
            obtain ⟨b34, hr35, hw⟩ := hw
            refine v_getS F fl_X11_25 (fun _ => rfl) kd33 hr35 dX11_likeness_113 ?_
            refine v_aload_n F dX11_likeness_116 rfl 0 rfl ?_
            refine v_get F fl_X11_159 kd33 rfl dX11_likeness_117 ?_
            refine v_iload F dX11_likeness_120 4 rfl ?_
            obtain ⟨kd36, hw⟩ := hw
            obtain ⟨hi37, hw⟩ := hw
            refine v_iastE F rfl kd36 hi37 dX11_likeness_122 (fun G38 hG38 => ?_)
            have hw := hw G38 hG38
            refine v_aload_n F dX11_likeness_123 rfl 0 rfl ?_
            have kd39 : gK G38 a0 = 11 := by rw [hG38]; exact kd33
            obtain ⟨b40, hr41, hw⟩ := hw
            refine v_getS F fl_X11_28 (fun _ => rfl) kd39 hr41 dX11_likeness_124 ?_
            refine v_aload_n F dX11_likeness_127 rfl 0 rfl ?_
            refine v_get F fl_X11_159 kd39 rfl dX11_likeness_128 ?_
            refine v_iconst (v := 0) F dX11_likeness_131 (by decide) ?_
            obtain ⟨kd42, hw⟩ := hw
            obtain ⟨hi43, hw⟩ := hw
            refine v_iastE F rfl kd42 hi43 dX11_likeness_132 (fun G44 hG44 => ?_)
            have hw := hw G44 hG44
            refine v_aload_n F dX11_likeness_133 rfl 0 rfl ?_
            have kd45 : gK G44 a0 = 11 := by rw [hG44]; exact kd39
            obtain ⟨b46, hr47, hw⟩ := hw
            refine v_getS F fl_X11_31 (fun _ => rfl) kd45 hr47 dX11_likeness_134 ?_
            refine v_aload_n F dX11_likeness_137 rfl 0 rfl ?_
            refine v_get F fl_X11_159 kd45 rfl dX11_likeness_138 ?_
            refine v_iconst (v := 0) F dX11_likeness_141 (by decide) ?_
            obtain ⟨kd48, hw⟩ := hw
            obtain ⟨hi49, hw⟩ := hw
            refine v_iastE F rfl kd48 hi49 dX11_likeness_142 (fun G50 hG50 => ?_)
            have hw := hw G50 hG50
            refine v_aload_n F dX11_likeness_143 rfl 0 rfl ?_
            have kd51 : gK G50 a0 = 11 := by rw [hG50]; exact kd45
            obtain ⟨b52, hr53, hw⟩ := hw
            refine v_getS F fl_X11_34 (fun _ => rfl) kd51 hr53 dX11_likeness_144 ?_
            refine v_aload_n F dX11_likeness_147 rfl 0 rfl ?_
            refine v_get F fl_X11_159 kd51 rfl dX11_likeness_148 ?_
            refine v_sipush (v := 9999) F dX11_likeness_151 (by decide) ?_
            obtain ⟨kd54, hw⟩ := hw
            obtain ⟨hi55, hw⟩ := hw
            refine v_iastE F rfl kd54 hi55 dX11_likeness_154 (fun G56 hG56 => ?_)
            have hw := hw G56 hG56
            refine v_aload_n F dX11_likeness_155 rfl 0 rfl ?_
            have kd57 : gK G56 a0 = 11 := by rw [hG56]; exact kd51
            obtain ⟨b58, hr59, hw⟩ := hw
            refine v_getS F fl_X11_37 (fun _ => rfl) kd57 hr59 dX11_likeness_156 ?_
            refine v_aload_n F dX11_likeness_159 rfl 0 rfl ?_
            refine v_get F fl_X11_159 kd57 rfl dX11_likeness_160 ?_
            refine v_iconst (v := 1) F dX11_likeness_163 (by decide) ?_
            obtain ⟨kd60, hw⟩ := hw
            obtain ⟨hi61, hw⟩ := hw
            refine v_iastE F rfl kd60 hi61 dX11_likeness_164 (fun G62 hG62 => ?_)
            have hw := hw G62 hG62
            refine v_aload_n F dX11_likeness_165 rfl 0 rfl ?_
            have kd63 : gK G62 a0 = 11 := by rw [hG62]; exact kd57
            obtain ⟨b64, hr65, hw⟩ := hw
            refine v_getS F fl_X11_40 (fun _ => rfl) kd63 hr65 dX11_likeness_166 ?_
            refine v_aload_n F dX11_likeness_169 rfl 0 rfl ?_
            refine v_get F fl_X11_159 kd63 rfl dX11_likeness_170 ?_
            refine v_iconst (v := 0) F dX11_likeness_173 (by decide) ?_
            obtain ⟨kd66, hw⟩ := hw
            obtain ⟨hi67, hw⟩ := hw
            refine v_iastE F rfl kd66 hi67 dX11_likeness_174 (fun G68 hG68 => ?_)
            have hw := hw G68 hG68
            refine v_aload_n F dX11_likeness_175 rfl 0 rfl ?_
            have kd69 : gK G68 a0 = 11 := by rw [hG68]; exact kd63
            obtain ⟨b70, hr71, hw⟩ := hw
            refine v_getS F fl_X11_43 (fun _ => rfl) kd69 hr71 dX11_likeness_176 ?_
            refine v_aload_n F dX11_likeness_179 rfl 0 rfl ?_
            refine v_get F fl_X11_159 kd69 rfl dX11_likeness_180 ?_
            refine v_iconst (v := 0) F dX11_likeness_183 (by decide) ?_
            obtain ⟨kd72, hw⟩ := hw
            obtain ⟨hi73, hw⟩ := hw
            refine v_zastE F rfl (Or.inl rfl) kd72 hi73 dX11_likeness_184 (fun G74 hG74 => ?_)
            have hw := hw G74 hG74
            refine v_aload_n F dX11_likeness_185 rfl 0 rfl ?_
            refine v_dup F dX11_likeness_186 rfl ?_
            have kd75 : gK G74 a0 = 11 := by rw [hG74]; exact kd69
            refine v_get F fl_X11_159 kd75 rfl dX11_likeness_187 ?_
            refine v_iconst (v := 1) F dX11_likeness_190 (by decide) ?_
            refine v_iadd F dX11_likeness_191 ?_
            refine v_putI F fl_X11_159 (fun h => absurd h (by decide)) rfl kd75 dX11_likeness_192 ?_
            refine v_nmG (fun G76 hG76 => ?_)
            have hw := hw G76 hG76
            refine v_aload_n F dX11_likeness_195 rfl 0 rfl ?_
            have kd77 : gK G76 a0 = 11 := by rw [hG76]; exact kd75
            refine v_get F fl_X11_159 kd77 rfl dX11_likeness_196 ?_
            refine v_iconst (v := 1) F dX11_likeness_199 (by decide) ?_
            refine v_isub F dX11_likeness_200 ?_
            refine v_i2l F dX11_likeness_201 ?_
            refine v_widen (c' := 0) (s' := 0) (by decide) (by decide) ?_
            exact v_lret F hw dX11_likeness_202
          · rw [if_pos h] at hw
            refine v_ldc2 (v := (-9000000000000000003)) F wd_1040 dX11_likeness_62 ?_
            refine v_widen (c' := 0) (s' := 0) (by decide) (by decide) ?_
            exact v_lret F hw dX11_likeness_65
        · rw [if_pos h] at hw
          refine v_ldc2 (v := (-9000000000000000001)) F wd_1021 dX11_likeness_49 ?_
          refine v_widen (c' := 0) (s' := 0) (by decide) (by decide) ?_
          exact v_lret F hw dX11_likeness_52
