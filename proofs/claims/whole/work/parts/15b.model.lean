set_option maxRecDepth 100000 in
def wpX11_holds (a0 : Nat) (p1 : Int32) (p2 : Int32) (p3 : Int32) (p4 : Int32) (G : Wd) (Q : Int64 → Wd → Prop) : Prop := gK G a0 = 11 ∧ wpX11_isOne a0 p1 G (fun r2 G3 => if r2 = 0 then (Q (-9000000000000000001) G3) else (wpX11_isPlace p2 G3 (fun r4 G5 => if r4 = 0 then (Q (-9000000000000000001) G5) else (wpX11_isIn ((p3).toInt64) 0 9999 G5 (fun r6 G7 => if r6 = 0 then (Q (-9000000000000000001) G7) else (wpX11_isIn ((p4).toInt64) ((p3).toInt64) 9999 G7 (fun r8 G9 => if r8 = 0 then (Q (-9000000000000000001) G9) else (gK G9 a0 = 11 ∧ ∃ b11, gR G9 a0 7 = some b11 ∧ gK G9 b11 = 20 ∧ vp_in p1 (gN G9 b11) ∧ ∀ G15 : Wd, G15 = uI G9 b11 (p1).toNatClampNeg p2 → ∃ b17, gR G15 a0 8 = some b17 ∧ gK G15 b17 = 20 ∧ vp_in p1 (gN G15 b17) ∧ ∀ G21 : Wd, G21 = uI G15 b17 (p1).toNatClampNeg p3 → ∃ b23, gR G21 a0 9 = some b23 ∧ gK G21 b23 = 20 ∧ vp_in p1 (gN G21 b23) ∧ ∀ G27 : Wd, G27 = uI G21 b23 (p1).toNatClampNeg p4 → Q 0 G27))))))))
abbrev rmX11_holds : Room := { frames := 2, cells := 0, slots := 0, locals := 46 }
set_option maxRecDepth 100000 in
def wpX11_doubt (a0 : Nat) (p1 : Int32) (p2 : Int32) (p3 : Int32) (G : Wd) (Q : Int64 → Wd → Prop) : Prop := gK G a0 = 11 ∧ wpX11_isOne a0 p1 G (fun r2 G3 => if r2 = 0 then (Q (-9000000000000000001) G3) else (wpX11_isIn ((p2).toInt64) 0 100 G3 (fun r4 G5 => if r4 = 0 then (Q (-9000000000000000001) G5) else (wpX11_isIn ((p3).toInt64) 0 500 G5 (fun r6 G7 => if r6 = 0 then (Q (-9000000000000000001) G7) else (gK G7 a0 = 11 ∧ ∃ b9, gR G7 a0 10 = some b9 ∧ gK G7 b9 = 20 ∧ vp_in p1 (gN G7 b9) ∧ ∀ G13 : Wd, G13 = uI G7 b9 (p1).toNatClampNeg p2 → ∃ b15, gR G13 a0 11 = some b15 ∧ gK G13 b15 = 20 ∧ vp_in p1 (gN G13 b15) ∧ ∀ G19 : Wd, G19 = uI G13 b15 (p1).toNatClampNeg p3 → Q 0 G19))))))
abbrev rmX11_doubt : Room := { frames := 2, cells := 0, slots := 0, locals := 46 }
def wpX11_isDoubtful_20 (Q : Int32 → Wd → Prop)  (G : Wd) : Prop := Q 1 G
set_option maxRecDepth 100000 in
def wpX11_isDoubtful (a0 : Nat) (p1 : Int32) (G : Wd) (Q : Int32 → Wd → Prop) : Prop := gK G a0 = 11 ∧ ∃ b2, gR G a0 2 = some b2 ∧ gK G b2 = 20 ∧ vp_in p1 (gN G b2) ∧ if (gI G b2 (p1).toNatClampNeg) = 2 then (wpX11_isDoubtful_20 Q  G) else (∃ b6, gR G a0 2 = some b6 ∧ gK G b6 = 20 ∧ vp_in p1 (gN G b6) ∧ if (gI G b6 (p1).toNatClampNeg) = 4 then (wpX11_isDoubtful_20 Q  G) else (Q 0 G))
abbrev rmX11_isDoubtful : Room := { frames := 0, cells := 0, slots := 0, locals := 0 }
def wpX11_isHeaped_20 (Q : Int32 → Wd → Prop)  (G : Wd) : Prop := Q 1 G
set_option maxRecDepth 100000 in
def wpX11_isHeaped (a0 : Nat) (p1 : Int32) (G : Wd) (Q : Int32 → Wd → Prop) : Prop := gK G a0 = 11 ∧ ∃ b2, gR G a0 2 = some b2 ∧ gK G b2 = 20 ∧ vp_in p1 (gN G b2) ∧ if (gI G b2 (p1).toNatClampNeg) = 1 then (wpX11_isHeaped_20 Q  G) else (∃ b6, gR G a0 2 = some b6 ∧ gK G b6 = 20 ∧ vp_in p1 (gN G b6) ∧ if (gI G b6 (p1).toNatClampNeg) = 3 then (wpX11_isHeaped_20 Q  G) else (Q 0 G))
abbrev rmX11_isHeaped : Room := { frames := 0, cells := 0, slots := 0, locals := 0 }
def wpX11_drop_56 (Q : Int64 → Wd → Prop) (v3 : Int32) (s0 : Nat) (s1 : Int32) (s2 : Int32) (G : Wd) : Prop := gK G s0 = 22 ∧ vp_in s1 (gN G s0) ∧ isB s2 ∧ ∀ G3 : Wd, G3 = uI G s0 (s1).toNatClampNeg s2 → if v3 = 0 then (Q 0 G3) else (Q 1 G3)
set_option maxRecDepth 100000 in
def wpX11_drop (a0 : Nat) (p1 : Int32) (p2 : Int32) (G : Wd) (Q : Int64 → Wd → Prop) : Prop := gK G a0 = 11 ∧ wpX11_isOne a0 p1 G (fun r6 G7 => if r6 = 0 then (Q (-9000000000000000001) G7) else (wpX11_isIn ((p2).toInt64) 0 1 G7 (fun r8 G9 => if r8 = 0 then (Q (-9000000000000000001) G9) else (gK G9 a0 = 11 ∧ wpX11_isDoubtful a0 p1 G9 (fun r11 G12 => if r11 = 0 then (Q (-9000000000000000002) G12) else (gK G12 a0 = 11 ∧ ∃ b14, gR G12 a0 12 = some b14 ∧ gK G12 b14 = 22 ∧ vp_in p1 (gN G12 b14) ∧ ∀ x18 : Int32, x18 = gI G12 b14 (p1).toNatClampNeg → ∃ b19, gR G12 a0 12 = some b19 ∧ if p2 = 1 then (wpX11_drop_56 Q x18 b19 p1 1 G12) else (wpX11_drop_56 Q x18 b19 p1 0 G12)))))))
abbrev rmX11_drop : Room := { frames := 2, cells := 0, slots := 0, locals := 46 }
set_option maxRecDepth 100000 in
def wpX11_forget (a0 : Nat) (G : Wd) (Q : Int64 → Wd → Prop) : Prop := gK G a0 = 11 ∧ if (gI G a0 1) = 0 then (Q (-9000000000000000002) G) else (∀ G2 : Wd, G2 = uI G a0 1 ((gI G a0 1) - 1) → Q ((gI G2 a0 1).toInt64) G2)
abbrev rmX11_forget : Room := { frames := 0, cells := 0, slots := 0, locals := 0 }
set_option maxRecDepth 100000 in
def wpX11_told (a0 : Nat) (p1 : Int32) (p2 : Int32) (G : Wd) (Q : Int64 → Wd → Prop) : Prop := gK G a0 = 11 ∧ wpX11_isOne a0 p1 G (fun r2 G3 => if r2 = 0 then (Q (-9000000000000000001) G3) else (wpX11_isIn ((p2).toInt64) 0 10 G3 (fun r4 G5 => if r4 = 0 then (Q (-9000000000000000001) G5) else (if p2 = 0 then (gK G5 a0 = 11 ∧ ∃ b7, gR G5 a0 2 = some b7 ∧ gK G5 b7 = 20 ∧ vp_in p1 (gN G5 b7) ∧ Q ((gI G5 b7 (p1).toNatClampNeg).toInt64) G5) else (if p2 = 1 then (gK G5 a0 = 11 ∧ ∃ b12, gR G5 a0 3 = some b12 ∧ gK G5 b12 = 20 ∧ vp_in p1 (gN G5 b12) ∧ Q ((gI G5 b12 (p1).toNatClampNeg).toInt64) G5) else (if p2 = 2 then (gK G5 a0 = 11 ∧ ∃ b17, gR G5 a0 4 = some b17 ∧ gK G5 b17 = 20 ∧ vp_in p1 (gN G5 b17) ∧ Q ((gI G5 b17 (p1).toNatClampNeg).toInt64) G5) else (if p2 = 3 then (gK G5 a0 = 11 ∧ ∃ b22, gR G5 a0 5 = some b22 ∧ gK G5 b22 = 20 ∧ vp_in p1 (gN G5 b22) ∧ Q ((gI G5 b22 (p1).toNatClampNeg).toInt64) G5) else (if p2 = 4 then (gK G5 a0 = 11 ∧ ∃ b27, gR G5 a0 6 = some b27 ∧ gK G5 b27 = 20 ∧ vp_in p1 (gN G5 b27) ∧ Q ((gI G5 b27 (p1).toNatClampNeg).toInt64) G5) else (if p2 = 5 then (gK G5 a0 = 11 ∧ ∃ b32, gR G5 a0 7 = some b32 ∧ gK G5 b32 = 20 ∧ vp_in p1 (gN G5 b32) ∧ Q ((gI G5 b32 (p1).toNatClampNeg).toInt64) G5) else (if p2 = 6 then (gK G5 a0 = 11 ∧ ∃ b37, gR G5 a0 8 = some b37 ∧ gK G5 b37 = 20 ∧ vp_in p1 (gN G5 b37) ∧ Q ((gI G5 b37 (p1).toNatClampNeg).toInt64) G5) else (if p2 = 7 then (gK G5 a0 = 11 ∧ ∃ b42, gR G5 a0 9 = some b42 ∧ gK G5 b42 = 20 ∧ vp_in p1 (gN G5 b42) ∧ Q ((gI G5 b42 (p1).toNatClampNeg).toInt64) G5) else (if p2 = 8 then (gK G5 a0 = 11 ∧ ∃ b47, gR G5 a0 10 = some b47 ∧ gK G5 b47 = 20 ∧ vp_in p1 (gN G5 b47) ∧ Q ((gI G5 b47 (p1).toNatClampNeg).toInt64) G5) else (if p2 = 9 then (gK G5 a0 = 11 ∧ ∃ b52, gR G5 a0 11 = some b52 ∧ gK G5 b52 = 20 ∧ vp_in p1 (gN G5 b52) ∧ Q ((gI G5 b52 (p1).toNatClampNeg).toInt64) G5) else (gK G5 a0 = 11 ∧ ∃ b57, gR G5 a0 12 = some b57 ∧ gK G5 b57 = 22 ∧ vp_in p1 (gN G5 b57) ∧ if (gI G5 b57 (p1).toNatClampNeg) = 0 then (Q 0 G5) else (Q 1 G5)))))))))))))))
abbrev rmX11_told : Room := { frames := 2, cells := 0, slots := 0, locals := 46 }
def wpX11_isOf_64 (Q : Int64 → Wd → Prop)  (G : Wd) : Prop := Q 1 G
def wpX11_isOf_51 (Q : Int64 → Wd → Prop) (v0 : Nat) (v1 : Int32) (v2 : Int32) (G : Wd) : Prop := if v2 = 2 then (gK G v0 = 11 ∧ wpX11_isDoubtful v0 v1 G (fun r2 G3 => if r2 = 0 then (Q 0 G3) else (wpX11_isOf_64 Q  G3))) else (Q 0 G)
set_option maxRecDepth 100000 in
def wpX11_isOf (a0 : Nat) (p1 : Int32) (p2 : Int32) (G : Wd) (Q : Int64 → Wd → Prop) : Prop := gK G a0 = 11 ∧ wpX11_isOne a0 p1 G (fun r5 G6 => if r5 = 0 then (Q (-9000000000000000001) G6) else (wpX11_isIn ((p2).toInt64) 0 4 G6 (fun r7 G8 => if r7 = 0 then (Q (-9000000000000000001) G8) else (if p2 = 0 then (wpX11_isOf_64 Q  G8) else (gK G8 a0 = 11 ∧ ∃ b10, gR G8 a0 2 = some b10 ∧ gK G8 b10 = 20 ∧ vp_in p1 (gN G8 b10) ∧ if (gI G8 b10 (p1).toNatClampNeg) = p2 then (wpX11_isOf_64 Q  G8) else (if p2 = 1 then (wpX11_isHeaped a0 p1 G8 (fun r14 G15 => if r14 = 0 then (wpX11_isOf_51 Q a0 p1 p2 G15) else (wpX11_isOf_64 Q  G15))) else (wpX11_isOf_51 Q a0 p1 p2 G8)))))))
abbrev rmX11_isOf : Room := { frames := 2, cells := 0, slots := 0, locals := 46 }
def wpX11_endOf_160 (Q : Wd → Prop) (s0 : Nat) (s1 : Int64) (s2 : Int64) (G : Wd) : Prop := gK G s0 = 11 ∧ wpX11_set s0 s1 s2 G (fun G3 => Q G3)
def wpX11_endOf_141 (Q : Wd → Prop) (v0 : Nat) (v2 : Int32) (s0 : Nat) (s1 : Int64) (G : Wd) : Prop := if v2 = 0 then (gK G v0 = 11 ∧ wpX11_endOf_160 Q s0 s1 (2 * (gJ G v0 21)) G) else (gK G v0 = 11 ∧ wpX11_endOf_160 Q s0 s1 (gJ G v0 21) G)
def wpX11_endOf_111 (Q : Wd → Prop) (v0 : Nat) (v1 : Int32) (v2 : Int32) (G : Wd) : Prop := gK G v0 = 11 ∧ ∃ b7, gR G v0 2 = some b7 ∧ gK G b7 = 20 ∧ vp_in v1 (gN G b7) ∧ if (gI G b7 (v1).toNatClampNeg) = 4 then (if v2 = 0 then (wpX11_endOf_141 Q v0 v2 v0 (gJ G v0 20) G) else (wpX11_endOf_141 Q v0 v2 v0 (2 * (gJ G v0 20)) G)) else (Q G)
def wpX11_endOf_99 (Q : Wd → Prop) (v0 : Nat) (v1 : Int32) (v2 : Int32) (s0 : Nat) (s1 : Int64) (s2 : Int64) (G : Wd) : Prop := gK G v0 = 11 ∧ gK G s0 = 11 ∧ wpX11_set s0 (s1 * s2) ((gJ G v0 21) * 1000) G (fun G14 => wpX11_endOf_111 Q v0 v1 v2 G14)
set_option maxRecDepth 100000 in
def wpX11_endOf (a0 : Nat) (p1 : Int32) (p2 : Int32) (G : Wd) (Q : Wd → Prop) : Prop := gK G a0 = 11 ∧ ∃ b16, gR G a0 5 = some b16 ∧ gK G b16 = 20 ∧ vp_in p1 (gN G b16) ∧ ∃ b20, gR G a0 6 = some b20 ∧ gK G b20 = 20 ∧ vp_in p1 (gN G b20) ∧ wpX11_set a0 ((gI G b16 (p1).toNatClampNeg).toInt64) ((gI G b20 (p1).toNatClampNeg).toInt64) G (fun G25 => gK G25 a0 = 11 ∧ wpX11_isHeaped a0 p1 G25 (fun r27 G28 => if r27 = 0 then (gK G28 a0 = 11 ∧ wpX11_isDoubtful a0 p1 G28 (fun r30 G31 => if r30 = 0 then (wpX11_endOf_111 Q a0 p1 p2 G31) else (gK G31 a0 = 11 ∧ if p2 = 0 then (∃ b37, gR G31 a0 11 = some b37 ∧ gK G31 b37 = 20 ∧ vp_in p1 (gN G31 b37) ∧ wpX11_endOf_99 Q a0 p1 p2 a0 (gJ G31 a0 20) (1000 - ((gI G31 b37 (p1).toNatClampNeg).toInt64)) G31) else (∃ b33, gR G31 a0 11 = some b33 ∧ gK G31 b33 = 20 ∧ vp_in p1 (gN G31 b33) ∧ wpX11_endOf_99 Q a0 p1 p2 a0 (gJ G31 a0 20) (1000 + ((gI G31 b33 (p1).toNatClampNeg).toInt64)) G31)))) else (gK G28 a0 = 11 ∧ ∃ b42, gR G28 a0 11 = some b42 ∧ gK G28 b42 = 20 ∧ vp_in p1 (gN G28 b42) ∧ wpX11_set a0 ((gJ G28 a0 20) * (1000 + ((gI G28 b42 (p1).toNatClampNeg).toInt64))) ((gJ G28 a0 21) * 1000) G28 (fun G47 => wpX11_endOf_111 Q a0 p1 p2 G47))))
abbrev rmX11_endOf : Room := { frames := 2, cells := 0, slots := 0, locals := 55 }
set_option maxRecDepth 100000 in
def wpX11_end (a0 : Nat) (p1 : Int32) (p2 : Int32) (p3 : Int32) (G : Wd) (Q : Int64 → Wd → Prop) : Prop := gK G a0 = 11 ∧ wpX11_isOne a0 p1 G (fun r2 G3 => if r2 = 0 then (Q (-9000000000000000001) G3) else (wpX11_isIn ((p2).toInt64) 0 1 G3 (fun r4 G5 => if r4 = 0 then (Q (-9000000000000000001) G5) else (wpX11_isIn ((p3).toInt64) 0 1 G5 (fun r6 G7 => if r6 = 0 then (Q (-9000000000000000001) G7) else (gK G7 a0 = 11 ∧ wpX11_endOf a0 p1 p2 G7 (fun G10 => if p3 = 0 then (gK G10 a0 = 11 ∧ Q (gJ G10 a0 20) G10) else (gK G10 a0 = 11 ∧ Q (gJ G10 a0 21) G10))))))))
abbrev rmX11_end : Room := { frames := 3, cells := 0, slots := 0, locals := 77 }
set_option maxRecDepth 100000 in
def wpX11_doesCount (a0 : Nat) (p1 : Int32) (p2 : Int32) (p3 : Int32) (G : Wd) (Q : Int32 → Wd → Prop) : Prop := gK G a0 = 11 ∧ ∃ b2, gR G a0 12 = some b2 ∧ gK G b2 = 22 ∧ vp_in p1 (gN G b2) ∧ if (gI G b2 (p1).toNatClampNeg) = 0 then (∃ b6, gR G a0 8 = some b6 ∧ gK G b6 = 20 ∧ vp_in p1 (gN G b6) ∧ if p3 < (gI G b6 (p1).toNatClampNeg) then (Q 0 G) else (∃ b10, gR G a0 9 = some b10 ∧ gK G b10 = 20 ∧ vp_in p1 (gN G b10) ∧ if p3 ≤ (gI G b10 (p1).toNatClampNeg) then (∃ b14, gR G a0 2 = some b14 ∧ gK G b14 = 20 ∧ vp_in p1 (gN G b14) ∧ if (gI G b14 (p1).toNatClampNeg) = 3 then (∃ b24, gR G a0 7 = some b24 ∧ gK G b24 = 20 ∧ vp_in p1 (gN G b24) ∧ if p2 = (gI G b24 (p1).toNatClampNeg) then (Q 1 G) else (Q 0 G)) else (∃ b18, gR G a0 7 = some b18 ∧ gK G b18 = 20 ∧ vp_in p1 (gN G b18) ∧ wpX11_isWithin a0 p2 (gI G b18 (p1).toNatClampNeg) G (fun r22 G23 => isB r22 ∧ Q r22 G23))) else (Q 0 G))) else (Q 0 G)
abbrev rmX11_doesCount : Room := { frames := 1, cells := 0, slots := 0, locals := 23 }
set_option maxRecDepth 100000 in
def wpX11_isDay (p0 : Int32) (G : Wd) (Q : Int32 → Wd → Prop) : Prop := wpX11_isIn ((p0).toInt64) 0 9999 G (fun r1 G2 => isB r1 ∧ Q r1 G2)
abbrev rmX11_isDay : Room := { frames := 1, cells := 0, slots := 0, locals := 25 }
set_option maxRecDepth 100000 in
def wpX11_counts (a0 : Nat) (p1 : Int32) (p2 : Int32) (p3 : Int32) (G : Wd) (Q : Int64 → Wd → Prop) : Prop := gK G a0 = 11 ∧ wpX11_isOne a0 p1 G (fun r2 G3 => if r2 = 0 then (Q (-9000000000000000001) G3) else (wpX11_isPlace p2 G3 (fun r4 G5 => if r4 = 0 then (Q (-9000000000000000001) G5) else (wpX11_isDay p3 G5 (fun r6 G7 => if r6 = 0 then (Q (-9000000000000000001) G7) else (gK G7 a0 = 11 ∧ wpX11_doesCount a0 p1 p2 p3 G7 (fun r9 G10 => if r9 = 0 then (Q 0 G10) else (Q 1 G10))))))))
abbrev rmX11_counts : Room := { frames := 2, cells := 0, slots := 0, locals := 46 }
def wpX11_findCounted_2 (Q : Wd → Prop) : Nat → Nat → Int32 → Int32 → Int32 → Wd → Prop
  | 0, _, _, _, _, _ => False
  | n + 1, v0, v1, v2, v3, G => gK G v0 = 11 ∧ if (gI G v0 1) ≤ v3 then (Q G) else (∃ b2, gR G v0 26 = some b2 ∧ wpX11_doesCount v0 v3 v1 v2 G (fun r4 G5 => gK G5 b2 = 22 ∧ vp_in v3 (gN G5 b2) ∧ isB r4 ∧ ∀ G8 : Wd, G8 = uI G5 b2 (v3).toNatClampNeg r4 → ∀ x10 : Int32, x10 = v3 + 1 → wpX11_findCounted_2 Q n v0 v1 v2 x10 G8))
set_option maxRecDepth 100000 in
def wpX11_findCounted (a0 : Nat) (p1 : Int32) (p2 : Int32) (G : Wd) (Q : Wd → Prop) : Prop := ∃ m, wpX11_findCounted_2 Q m a0 p1 p2 0 G
abbrev rmX11_findCounted : Room := { frames := 2, cells := 0, slots := 0, locals := 46 }
def wpX11_product_101 (Q : Wd → Prop) (k15 : Nat → Nat → Int32 → Int32 → Int64 → Int64 → Int32 → Wd → Prop) (v0 : Nat) (v1 : Nat) (v2 : Int32) (v3 : Int32) (v4 : Int64) (v6 : Int64) (v8 : Int32) (v10 : Int64) (s0 : Int64) (G : Wd) : Prop := gK G v0 = 11 ∧ ∀ G2 : Wd, G2 = uJ G v0 20 v4 → ∀ G4 : Wd, G4 = uJ G2 v0 21 v6 → wpX11_times v0 v10 s0 G4 (fun G7 => gK G7 v0 = 11 ∧ ∀ x9 : Int64, x9 = gJ G7 v0 20 → ∀ x10 : Int64, x10 = gJ G7 v0 21 → ∀ x11 : Int32, x11 = v8 + 1 → k15 v0 v1 v2 v3 x9 x10 x11 G7)
def wpX11_product_83 (Q : Wd → Prop) (k15 : Nat → Nat → Int32 → Int32 → Int64 → Int64 → Int32 → Wd → Prop) (v0 : Nat) (v1 : Nat) (v2 : Int32) (v3 : Int32) (v4 : Int64) (v6 : Int64) (v8 : Int32) (v9 : Int32) (s0 : Int64) (G : Wd) : Prop := if v9 = 0 then (gK G v0 = 11 ∧ wpX11_product_101 Q k15 v0 v1 v2 v3 v4 v6 v8 s0 (gJ G v0 21) G) else (gK G v0 = 11 ∧ wpX11_product_101 Q k15 v0 v1 v2 v3 v4 v6 v8 s0 (gJ G v0 20) G)
def wpX11_product_64 (Q : Wd → Prop) (k15 : Nat → Nat → Int32 → Int32 → Int64 → Int64 → Int32 → Wd → Prop) (v0 : Nat) (v1 : Nat) (v2 : Int32) (v3 : Int32) (v4 : Int64) (v6 : Int64) (v8 : Int32) (v9 : Int32) (s0 : Nat) (s1 : Int32) (s2 : Int32) (G : Wd) : Prop := gK G s0 = 11 ∧ wpX11_endOf s0 s1 s2 G (fun G16 => if v9 = 0 then (gK G16 v0 = 11 ∧ wpX11_product_83 Q k15 v0 v1 v2 v3 v4 v6 v8 v9 (gJ G16 v0 20) G16) else (gK G16 v0 = 11 ∧ wpX11_product_83 Q k15 v0 v1 v2 v3 v4 v6 v8 v9 (gJ G16 v0 21) G16))
def wpX11_product_42 (Q : Wd → Prop) (k15 : Nat → Nat → Int32 → Int32 → Int64 → Int64 → Int32 → Wd → Prop) (v0 : Nat) (v1 : Nat) (v2 : Int32) (v3 : Int32) (v4 : Int64) (v6 : Int64) (v8 : Int32) (s0 : Int32) (G : Wd) : Prop := gK G v1 = 20 ∧ vp_in v8 (gN G v1) ∧ if s0 = 0 then (wpX11_product_64 Q k15 v0 v1 v2 v3 v4 v6 v8 s0 v0 ((gI G v1 (v8).toNatClampNeg) % 100) v3 G) else (wpX11_product_64 Q k15 v0 v1 v2 v3 v4 v6 v8 s0 v0 ((gI G v1 (v8).toNatClampNeg) % 100) (1 - v3) G)
def wpX11_product_15 (Q : Wd → Prop) : Nat → Nat → Nat → Int32 → Int32 → Int64 → Int64 → Int32 → Wd → Prop
  | 0, _, _, _, _, _, _, _, _ => False
  | n + 1, v0, v1, v2, v3, v4, v6, v8, G => if v2 ≤ v8 then (Q G) else (gK G v0 = 11 ∧ if (gI G v0 22) = 0 then (gK G v1 = 20 ∧ vp_in v8 (gN G v1) ∧ if (gI G v1 (v8).toNatClampNeg) < 100 then (wpX11_product_42 Q (fun y0 y1 y2 y3 y4 y5 y6 y7 => wpX11_product_15 Q n y0 y1 y2 y3 y4 y5 y6 y7) v0 v1 v2 v3 v4 v6 v8 0 G) else (wpX11_product_42 Q (fun y0 y1 y2 y3 y4 y5 y6 y7 => wpX11_product_15 Q n y0 y1 y2 y3 y4 y5 y6 y7) v0 v1 v2 v3 v4 v6 v8 1 G)) else (Q G))
set_option maxRecDepth 100000 in
def wpX11_product (a0 : Nat) (a1 : Nat) (p2 : Int32) (p3 : Int32) (G : Wd) (Q : Wd → Prop) : Prop := gK G a0 = 11 ∧ wpX11_set a0 1 1 G (fun G26 => ∃ m, wpX11_product_15 Q m a0 a1 p2 p3 1 1 0 G26)
abbrev rmX11_product : Room := { frames := 3, cells := 0, slots := 0, locals := 77 }
def wpX11_widen_118 (Q : Wd → Prop) (v0 : Nat) (G : Wd) : Prop := gK G v0 = 11 ∧ ∀ G2 : Wd, G2 = uI G v0 36 1 → Q G2
def wpX11_widen_102 (Q : Wd → Prop) (v0 : Nat) (G : Wd) : Prop := gK G v0 = 11 ∧ ∀ G4 : Wd, G4 = uJ G v0 39 (gJ G v0 20) → ∀ G6 : Wd, G6 = uJ G4 v0 40 (gJ G4 v0 21) → wpX11_widen_118 Q v0 G6
def wpX11_widen_59 (Q : Wd → Prop) (v0 : Nat) (G : Wd) : Prop := gK G v0 = 11 ∧ ∃ b8, gR G v0 28 = some b8 ∧ wpX11_product v0 b8 (gI G v0 29) 1 G (fun G11 => gK G11 v0 = 11 ∧ if (gI G11 v0 36) = 0 then (wpX11_widen_102 Q v0 G11) else (wpX11_isLess v0 (gJ G11 v0 39) (gJ G11 v0 40) (gJ G11 v0 20) (gJ G11 v0 21) G11 (fun r13 G14 => if r13 = 0 then (wpX11_widen_118 Q v0 G14) else (wpX11_widen_102 Q v0 G14))))
def wpX11_widen_43 (Q : Wd → Prop) (v0 : Nat) (G : Wd) : Prop := gK G v0 = 11 ∧ ∀ G16 : Wd, G16 = uJ G v0 37 (gJ G v0 20) → ∀ G18 : Wd, G18 = uJ G16 v0 38 (gJ G16 v0 21) → wpX11_widen_59 Q v0 G18
set_option maxRecDepth 100000 in
def wpX11_widen (a0 : Nat) (G : Wd) (Q : Wd → Prop) : Prop := gK G a0 = 11 ∧ ∃ b20, gR G a0 28 = some b20 ∧ wpX11_product a0 b20 (gI G a0 29) 0 G (fun G23 => gK G23 a0 = 11 ∧ if (gI G23 a0 36) = 0 then (wpX11_widen_43 Q a0 G23) else (wpX11_isLess a0 (gJ G23 a0 20) (gJ G23 a0 21) (gJ G23 a0 37) (gJ G23 a0 38) G23 (fun r25 G26 => if r25 = 0 then (wpX11_widen_59 Q a0 G26) else (wpX11_widen_43 Q a0 G26))))
abbrev rmX11_widen : Room := { frames := 4, cells := 0, slots := 0, locals := 110 }
def wpX11_isMet_2 (Q : Int32 → Wd → Prop) : Nat → Nat → Int32 → Int32 → Int32 → Wd → Prop
  | 0, _, _, _, _, _ => False
  | n + 1, v0, v1, v2, v3, G => if v1 < v3 then (Q 0 G) else (gK G v0 = 11 ∧ ∃ b2, gR G v0 27 = some b2 ∧ gK G b2 = 20 ∧ vp_in v3 (gN G b2) ∧ if (gI G b2 (v3).toNatClampNeg) = v2 then (Q 1 G) else (∀ x6 : Int32, x6 = v3 + 1 → wpX11_isMet_2 Q n v0 v1 v2 x6 G))
set_option maxRecDepth 100000 in
def wpX11_isMet (a0 : Nat) (p1 : Int32) (p2 : Int32) (G : Wd) (Q : Int32 → Wd → Prop) : Prop := ∃ m, wpX11_isMet_2 Q m a0 p1 p2 0 G
abbrev rmX11_isMet : Room := { frames := 0, cells := 0, slots := 0, locals := 0 }
def wpX11_go_256 (rec : Nat → Int32 → Int32 → Wd → (Wd → Prop) → Prop) (Q : Wd → Prop) (k103 : Nat → Int32 → Int32 → Int32 → Wd → Prop) (v0 : Nat) (v1 : Int32) (v2 : Int32) (v3 : Int32) (G : Wd) : Prop := ∀ x1 : Int32, x1 = v3 + 1 → k103 v0 v1 v2 x1 G
def wpX11_go_237 (rec : Nat → Int32 → Int32 → Wd → (Wd → Prop) → Prop) (Q : Wd → Prop) (k103 : Nat → Int32 → Int32 → Int32 → Wd → Prop) (v0 : Nat) (v1 : Int32) (v2 : Int32) (v3 : Int32) (v5 : Int32) (s0 : Nat) (s1 : Int32) (s2 : Int32) (G : Wd) : Prop := gK G s0 = 20 ∧ vp_in s1 (gN G s0) ∧ ∀ G4 : Wd, G4 = uI G s0 (s1).toNatClampNeg s2 → gK G4 v0 = 11 ∧ ∃ b6, gR G4 v0 27 = some b6 ∧ gK G4 b6 = 20 ∧ vp_in (v1 + 1) (gN G4 b6) ∧ ∀ G10 : Wd, G10 = uI G4 b6 ((v1 + 1)).toNatClampNeg v5 → rec v0 (v1 + 1) v2 G10 (fun G13 => wpX11_go_256 rec Q k103 v0 v1 v2 v3 G13)
def wpX11_go_207 (rec : Nat → Int32 → Int32 → Wd → (Wd → Prop) → Prop) (Q : Wd → Prop) (k103 : Nat → Int32 → Int32 → Int32 → Wd → Prop) (v0 : Nat) (v1 : Int32) (v2 : Int32) (v3 : Int32) (v4 : Int32) (s0 : Int32) (G : Wd) : Prop := gK G v0 = 11 ∧ wpX11_isMet v0 v1 s0 G (fun r15 G16 => if r15 = 0 then (gK G16 v0 = 11 ∧ ∃ b18, gR G16 v0 28 = some b18 ∧ if v4 = 0 then (wpX11_go_237 rec Q k103 v0 v1 v2 v3 s0 b18 v1 v3 G16) else (wpX11_go_237 rec Q k103 v0 v1 v2 v3 s0 b18 v1 (100 + v3) G16)) else (wpX11_go_256 rec Q k103 v0 v1 v2 v3 G16))
def wpX11_go_185 (rec : Nat → Int32 → Int32 → Wd → (Wd → Prop) → Prop) (Q : Wd → Prop) (k103 : Nat → Int32 → Int32 → Int32 → Wd → Prop) (v0 : Nat) (v1 : Int32) (v2 : Int32) (v3 : Int32) (s0 : Int32) (G : Wd) : Prop := if s0 = 0 then (gK G v0 = 11 ∧ ∃ b21, gR G v0 4 = some b21 ∧ gK G b21 = 20 ∧ vp_in v3 (gN G b21) ∧ wpX11_go_207 rec Q k103 v0 v1 v2 v3 s0 (gI G b21 (v3).toNatClampNeg) G) else (gK G v0 = 11 ∧ ∃ b26, gR G v0 3 = some b26 ∧ gK G b26 = 20 ∧ vp_in v3 (gN G b26) ∧ wpX11_go_207 rec Q k103 v0 v1 v2 v3 s0 (gI G b26 (v3).toNatClampNeg) G)
def wpX11_go_165 (rec : Nat → Int32 → Int32 → Wd → (Wd → Prop) → Prop) (Q : Wd → Prop) (k103 : Nat → Int32 → Int32 → Int32 → Wd → Prop) (v0 : Nat) (v1 : Int32) (v2 : Int32) (v3 : Int32) (G : Wd) : Prop := gK G v0 = 11 ∧ ∃ b31, gR G v0 4 = some b31 ∧ gK G b31 = 20 ∧ vp_in v3 (gN G b31) ∧ ∃ b35, gR G v0 27 = some b35 ∧ gK G b35 = 20 ∧ vp_in v1 (gN G b35) ∧ if (gI G b31 (v3).toNatClampNeg) = (gI G b35 (v1).toNatClampNeg) then (wpX11_go_185 rec Q k103 v0 v1 v2 v3 1 G) else (wpX11_go_185 rec Q k103 v0 v1 v2 v3 0 G)
def wpX11_go_103 (rec : Nat → Int32 → Int32 → Wd → (Wd → Prop) → Prop) (Q : Wd → Prop) : Nat → Nat → Int32 → Int32 → Int32 → Wd → Prop
  | 0, _, _, _, _, _ => False
  | n + 1, v0, v1, v2, v3, G => gK G v0 = 11 ∧ if (gI G v0 1) ≤ v3 then (Q G) else (∃ b40, gR G v0 26 = some b40 ∧ gK G b40 = 22 ∧ vp_in v3 (gN G b40) ∧ if (gI G b40 (v3).toNatClampNeg) = 0 then (wpX11_go_256 rec Q (fun y0 y1 y2 y3 y4 => wpX11_go_103 rec Q n y0 y1 y2 y3 y4) v0 v1 v2 v3 G) else (∃ b44, gR G v0 3 = some b44 ∧ gK G b44 = 20 ∧ vp_in v3 (gN G b44) ∧ ∃ b48, gR G v0 4 = some b48 ∧ gK G b48 = 20 ∧ vp_in v3 (gN G b48) ∧ if (gI G b44 (v3).toNatClampNeg) = (gI G b48 (v3).toNatClampNeg) then (wpX11_go_256 rec Q (fun y0 y1 y2 y3 y4 => wpX11_go_103 rec Q n y0 y1 y2 y3 y4) v0 v1 v2 v3 G) else (∃ b52, gR G v0 3 = some b52 ∧ gK G b52 = 20 ∧ vp_in v3 (gN G b52) ∧ ∃ b56, gR G v0 27 = some b56 ∧ gK G b56 = 20 ∧ vp_in v1 (gN G b56) ∧ if (gI G b52 (v3).toNatClampNeg) = (gI G b56 (v1).toNatClampNeg) then (wpX11_go_165 rec Q (fun y0 y1 y2 y3 y4 => wpX11_go_103 rec Q n y0 y1 y2 y3 y4) v0 v1 v2 v3 G) else (∃ b60, gR G v0 4 = some b60 ∧ gK G b60 = 20 ∧ vp_in v3 (gN G b60) ∧ ∃ b64, gR G v0 27 = some b64 ∧ gK G b64 = 20 ∧ vp_in v1 (gN G b64) ∧ if (gI G b60 (v3).toNatClampNeg) = (gI G b64 (v1).toNatClampNeg) then (wpX11_go_165 rec Q (fun y0 y1 y2 y3 y4 => wpX11_go_103 rec Q n y0 y1 y2 y3 y4) v0 v1 v2 v3 G) else (wpX11_go_256 rec Q (fun y0 y1 y2 y3 y4 => wpX11_go_103 rec Q n y0 y1 y2 y3 y4) v0 v1 v2 v3 G)))))
def wpX11_go_101 (rec : Nat → Int32 → Int32 → Wd → (Wd → Prop) → Prop) (Q : Wd → Prop) (v0 : Nat) (v1 : Int32) (v2 : Int32) (G : Wd) : Prop := ∃ m, wpX11_go_103 rec Q m v0 v1 v2 0 G
def wpX11_go_75 (rec : Nat → Int32 → Int32 → Wd → (Wd → Prop) → Prop) (Q : Wd → Prop) (v0 : Nat) (G : Wd) : Prop := gK G v0 = 11 ∧ ∀ G69 : Wd, G69 = uI G v0 30 ((gI G v0 30) + 1) → Q G69
def wpX11_go_64 (rec : Nat → Int32 → Int32 → Wd → (Wd → Prop) → Prop) (Q : Wd → Prop) (v0 : Nat) (G : Wd) : Prop := gK G v0 = 11 ∧ if (gI G v0 35) = 0 then (wpX11_go_75 rec Q v0 G) else (wpX11_widen v0 G (fun G72 => wpX11_go_75 rec Q v0 G72))
def wpX11_go_41 (rec : Nat → Int32 → Int32 → Wd → (Wd → Prop) → Prop) (Q : Wd → Prop) : Nat → Nat → Int32 → Int32 → Wd → Prop
  | 0, _, _, _, _ => False
  | n + 1, v0, v1, v3, G => if v1 ≤ v3 then (wpX11_go_64 rec Q v0 G) else (gK G v0 = 11 ∧ ∃ b74, gR G v0 32 = some b74 ∧ ∃ b76, gR G v0 28 = some b76 ∧ gK G b76 = 20 ∧ vp_in v3 (gN G b76) ∧ gK G b74 = 20 ∧ vp_in v3 (gN G b74) ∧ ∀ G82 : Wd, G82 = uI G b74 (v3).toNatClampNeg (gI G b76 (v3).toNatClampNeg) → ∀ x83 : Int32, x83 = v3 + 1 → wpX11_go_41 rec Q n v0 v1 x83 G82)
def wpX11_go : Nat → Nat → Int32 → Int32 → Wd → (Wd → Prop) → Prop
  | 0, _, _, _, _, _ => False
  | d + 1, a0, p1, p2, G, Q => (fun rec : Nat → Int32 → Int32 → Wd → (Wd → Prop) → Prop => gK G a0 = 11 ∧ if p1 = (gI G a0 29) then (∃ b89, gR G a0 27 = some b89 ∧ gK G b89 = 20 ∧ vp_in p1 (gN G b89) ∧ if (gI G b89 (p1).toNatClampNeg) = p2 then (if (gI G a0 30) = (gI G a0 31) then (∀ G93 : Wd, G93 = uI G a0 34 1 → ∀ G95 : Wd, G95 = uI G93 a0 33 p1 → ∃ m, wpX11_go_41 rec Q m a0 p1 0 G95) else (wpX11_go_64 rec Q a0 G)) else (Q G)) else (if p1 ≤ 0 then (wpX11_go_101 rec Q a0 p1 p2 G) else (∃ b85, gR G a0 27 = some b85 ∧ gK G b85 = 20 ∧ vp_in p1 (gN G b85) ∧ if (gI G b85 (p1).toNatClampNeg) = p2 then (Q G) else (wpX11_go_101 rec Q a0 p1 p2 G)))) (fun a0 p1 p2 G Q => wpX11_go d a0 p1 p2 G Q)
def rmX11_go (d : Nat) : Room := { frames := 5 + d, cells := 0, slots := 0, locals := 130 + 25 * d }
def wpX11_seek_86 (Q : Wd → Prop) (k43 : Nat → Int32 → Int32 → Int32 → Int32 → Wd → Prop) (v0 : Nat) (v1 : Int32) (v2 : Int32) (v3 : Int32) (v4 : Int32) (G : Wd) : Prop := gK G v0 = 11 ∧ ∀ G2 : Wd, G2 = uI G v0 29 ((gI G v0 29) + 1) → k43 v0 v1 v2 v3 v4 G2
def wpX11_seek_80 (Q : Wd → Prop) (k43 : Nat → Int32 → Int32 → Int32 → Int32 → Wd → Prop) (v0 : Nat) (v1 : Int32) (v2 : Int32) (v3 : Int32) (v4 : Int32) (G : Wd) : Prop := gK G v0 = 11 ∧ wpX11_go 12 v0 0 v2 G (fun G5 => wpX11_seek_86 Q k43 v0 v1 v2 v3 v4 G5)
def wpX11_seek_68 (Q : Wd → Prop) (k43 : Nat → Int32 → Int32 → Int32 → Int32 → Wd → Prop) (v0 : Nat) (v1 : Int32) (v2 : Int32) (v3 : Int32) (v4 : Int32) (G : Wd) : Prop := if v1 = v2 then (gK G v0 = 11 ∧ if (gI G v0 29) = 0 then (wpX11_seek_80 Q k43 v0 v1 v2 v3 v4 G) else (wpX11_seek_86 Q k43 v0 v1 v2 v3 v4 G)) else (wpX11_seek_80 Q k43 v0 v1 v2 v3 v4 G)
def wpX11_seek_43 (Q : Wd → Prop) : Nat → Nat → Int32 → Int32 → Int32 → Int32 → Wd → Prop
  | 0, _, _, _, _, _, _ => False
  | n + 1, v0, v1, v2, v3, v4, G => gK G v0 = 11 ∧ if 10 ≤ (gI G v0 29) then (Q G) else (if (gI G v0 34) = 0 then (wpX11_seek_68 Q (fun y0 y1 y2 y3 y4 y5 => wpX11_seek_43 Q n y0 y1 y2 y3 y4 y5) v0 v1 v2 v3 v4 G) else (if v4 = 0 then (if 0 ≤ v3 then (Q G) else (wpX11_seek_68 Q (fun y0 y1 y2 y3 y4 y5 => wpX11_seek_43 Q n y0 y1 y2 y3 y4 y5) v0 v1 v2 v3 v4 G)) else (wpX11_seek_68 Q (fun y0 y1 y2 y3 y4 y5 => wpX11_seek_43 Q n y0 y1 y2 y3 y4 y5) v0 v1 v2 v3 v4 G)))
set_option maxRecDepth 100000 in
def wpX11_seek (a0 : Nat) (p1 : Int32) (p2 : Int32) (p3 : Int32) (p4 : Int32) (G : Wd) (Q : Wd → Prop) : Prop := gK G a0 = 11 ∧ ∀ G9 : Wd, G9 = uI G a0 30 0 → ∀ G11 : Wd, G11 = uI G9 a0 31 p3 → ∀ G13 : Wd, G13 = uI G11 a0 34 0 → isB p4 ∧ ∀ G15 : Wd, G15 = uI G13 a0 35 p4 → ∀ G18 : Wd, G18 = uI G15 a0 36 0 → ∀ G20 : Wd, G20 = uI G18 a0 22 0 → ∃ b22, gR G20 a0 27 = some b22 ∧ gK G20 b22 = 20 ∧ vp_in 0 (gN G20 b22) ∧ ∀ G26 : Wd, G26 = uI G20 b22 0 p1 → ∀ G28 : Wd, G28 = uI G26 a0 29 0 → ∃ m, wpX11_seek_43 Q m a0 p1 p2 p3 p4 G28
abbrev rmX11_seek : Room := { frames := 18, cells := 0, slots := 0, locals := 455 }
set_option maxRecDepth 100000 in
def wpX11_isPair (p0 : Int32) (G : Wd) (Q : Int32 → Wd → Prop) : Prop := wpX11_isIn ((p0).toInt64) 0 99 G (fun r1 G2 => isB r1 ∧ Q r1 G2)
abbrev rmX11_isPair : Room := { frames := 1, cells := 0, slots := 0, locals := 25 }
set_option maxRecDepth 100000 in
def wpX11_isTime (p0 : Int32) (G : Wd) (Q : Int32 → Wd → Prop) : Prop := wpX11_isIn ((p0).toInt64) 0 79999 G (fun r1 G2 => isB r1 ∧ Q r1 G2)
abbrev rmX11_isTime : Room := { frames := 1, cells := 0, slots := 0, locals := 25 }
set_option maxRecDepth 100000 in
def wpX11_ways (a0 : Nat) (p1 : Int32) (p2 : Int32) (G : Wd) (Q : Int64 → Wd → Prop) : Prop := wpX11_isPair p1 G (fun r1 G2 => if r1 = 0 then (Q (-9000000000000000001) G2) else (wpX11_isTime p2 G2 (fun r3 G4 => if r3 = 0 then (Q (-9000000000000000001) G4) else (gK G4 a0 = 11 ∧ wpX11_findCounted a0 (p2 / 10000) (p2 % 10000) G4 (fun G7 => gK G7 a0 = 11 ∧ wpX11_seek a0 (p1 / 10) (p1 % 10) (-1) 0 G7 (fun G10 => gK G10 a0 = 11 ∧ Q ((gI G10 a0 30).toInt64) G10))))))
abbrev rmX11_ways : Room := { frames := 19, cells := 0, slots := 0, locals := 479 }
set_option maxRecDepth 100000 in
def wpX11_way (a0 : Nat) (p1 : Int32) (p2 : Int32) (p3 : Int32) (p4 : Int32) (G : Wd) (Q : Int64 → Wd → Prop) : Prop := wpX11_isPair p1 G (fun r1 G2 => if r1 = 0 then (Q (-9000000000000000001) G2) else (wpX11_isTime p2 G2 (fun r3 G4 => if r3 = 0 then (Q (-9000000000000000001) G4) else (if p3 < 0 then (Q (-9000000000000000001) G4) else (if 0 ≤ p4 then (gK G4 a0 = 11 ∧ wpX11_findCounted a0 (p2 / 10000) (p2 % 10000) G4 (fun G7 => gK G7 a0 = 11 ∧ wpX11_seek a0 (p1 / 10) (p1 % 10) p3 0 G7 (fun G10 => gK G10 a0 = 11 ∧ if (gI G10 a0 34) = 0 then (Q (-9000000000000000005) G10) else (if (gI G10 a0 33) ≤ p4 then (Q (-9000000000000000005) G10) else (∃ b12, gR G10 a0 32 = some b12 ∧ gK G10 b12 = 20 ∧ vp_in p4 (gN G10 b12) ∧ Q ((gI G10 b12 (p4).toNatClampNeg).toInt64) G10))))) else (Q (-9000000000000000001) G4))))))
abbrev rmX11_way : Room := { frames := 19, cells := 0, slots := 0, locals := 479 }
set_option maxRecDepth 100000 in
theorem sX11_holds {l : Launch} {D : Dx} {a0 : Nat} {p1 : Int32} {p2 : Int32} {p3 : Int32} {p4 : Int32} {G : Wd} {Q : Int64 → Wd → Prop} (hw : wpX11_holds a0 p1 p2 p3 p4 G Q) : Met l yX11_holds (wM yX11_holds cX11_holds 5 (some .long)) rmX11_holds (PM D [.ref a0, .int p1, .int p2, .int p3, .int p4] G) (QMl D Q) 0 0 (Ab D) := by
  refine v_met (by decide) (Nat.le_of_ble_eq_true rfl) (fun X hl hR F => ?_)
  subst hl
  have F : Fx X D cX11_holds 5 RX11 (some .long) "holds" := F
  refine v_cast (L' := [(0, .ref a0), (1, .int p1), (2, .int p2), (3, .int p3), (4, .int p4)]) rfl rfl ?_
  unfold wpX11_holds at hw
  refine v_aload_n F dX11_holds_0 rfl 0 rfl ?_
  refine v_iload_n F dX11_holds_1 rfl 1 rfl ?_
  obtain ⟨kd1, hw⟩ := hw
  refine v_calli (r_V F lk_X11_169 kd1 (sX11_isOne hw) (mkRm hR rfl rfl rfl rfl rfl rfl) rfl rfl (Nat.le_of_ble_eq_true rfl) dX11_holds_2) (fun r2 G3 hw => ?_)
  refine v_if_eq (tgt := 41) F dX11_holds_5 (by decide) (fun h => ?_) (fun h => ?_)
  · rw [if_pos h] at hw
    refine v_ldc2 (v := (-9000000000000000001)) F wd_1021 dX11_holds_41 ?_
    refine v_widen (c' := 0) (s' := 0) (by decide) (by decide) ?_
    exact v_lret F hw dX11_holds_44
  · rw [if_neg h] at hw
    refine v_iload_n F dX11_holds_8 rfl 2 rfl ?_
    refine v_calli (r_S F ls_X11_151 (sX11_isPlace hw) (mkRm hR rfl rfl rfl rfl rfl rfl) rfl rfl (Nat.le_of_ble_eq_true rfl) dX11_holds_9) (fun r4 G5 hw => ?_)
    refine v_if_eq (tgt := 41) F dX11_holds_12 (by decide) (fun h => ?_) (fun h => ?_)
    · rw [if_pos h] at hw
      refine v_ldc2 (v := (-9000000000000000001)) F wd_1021 dX11_holds_41 ?_
      refine v_widen (c' := 0) (s' := 0) (by decide) (by decide) ?_
      exact v_lret F hw dX11_holds_44
    · rw [if_neg h] at hw
      refine v_iload_n F dX11_holds_15 rfl 3 rfl ?_
      refine v_i2l F dX11_holds_16 ?_
      refine v_lconst (v := 0) F dX11_holds_17 rfl ?_
      refine v_ldc2 (v := 9999) F wd_1049 dX11_holds_18 ?_
      refine v_calli (r_S F ls_X11_145 (sX11_isIn hw) (mkRm hR rfl rfl rfl rfl rfl rfl) rfl rfl (Nat.le_of_ble_eq_true rfl) dX11_holds_21) (fun r6 G7 hw => ?_)
      refine v_if_eq (tgt := 41) F dX11_holds_24 (by decide) (fun h => ?_) (fun h => ?_)
      · rw [if_pos h] at hw
        refine v_ldc2 (v := (-9000000000000000001)) F wd_1021 dX11_holds_41 ?_
        refine v_widen (c' := 0) (s' := 0) (by decide) (by decide) ?_
        exact v_lret F hw dX11_holds_44
      · rw [if_neg h] at hw
        refine v_iload F dX11_holds_27 4 rfl ?_
        refine v_i2l F dX11_holds_29 ?_
        refine v_iload_n F dX11_holds_30 rfl 3 rfl ?_
        refine v_i2l F dX11_holds_31 ?_
        refine v_ldc2 (v := 9999) F wd_1049 dX11_holds_32 ?_
        refine v_calli (r_S F ls_X11_145 (sX11_isIn hw) (mkRm hR rfl rfl rfl rfl rfl rfl) rfl rfl (Nat.le_of_ble_eq_true rfl) dX11_holds_35) (fun r8 G9 hw => ?_)
        refine v_if_ne (tgt := 45) F dX11_holds_38 (by decide) (fun h => ?_) (fun h => ?_)
        · rw [if_neg h] at hw
          refine v_aload_n F dX11_holds_45 rfl 0 rfl ?_
          obtain ⟨kd10, hw⟩ := hw
          obtain ⟨b11, hr12, hw⟩ := hw
          refine v_getS F fl_X11_28 (fun _ => rfl) kd10 hr12 dX11_holds_46 ?_
          refine v_iload_n F dX11_holds_49 rfl 1 rfl ?_
          refine v_iload_n F dX11_holds_50 rfl 2 rfl ?_
          obtain ⟨kd13, hw⟩ := hw
          obtain ⟨hi14, hw⟩ := hw
          refine v_iastE F rfl kd13 hi14 dX11_holds_51 (fun G15 hG15 => ?_)
          have hw := hw G15 hG15
          refine v_aload_n F dX11_holds_52 rfl 0 rfl ?_
          have kd16 : gK G15 a0 = 11 := by rw [hG15]; exact kd10
          obtain ⟨b17, hr18, hw⟩ := hw
          refine v_getS F fl_X11_31 (fun _ => rfl) kd16 hr18 dX11_holds_53 ?_
          refine v_iload_n F dX11_holds_56 rfl 1 rfl ?_
          refine v_iload_n F dX11_holds_57 rfl 3 rfl ?_
          obtain ⟨kd19, hw⟩ := hw
          obtain ⟨hi20, hw⟩ := hw
          refine v_iastE F rfl kd19 hi20 dX11_holds_58 (fun G21 hG21 => ?_)
          have hw := hw G21 hG21
          refine v_aload_n F dX11_holds_59 rfl 0 rfl ?_
          have kd22 : gK G21 a0 = 11 := by rw [hG21]; exact kd16
          obtain ⟨b23, hr24, hw⟩ := hw
          refine v_getS F fl_X11_34 (fun _ => rfl) kd22 hr24 dX11_holds_60 ?_
          refine v_iload_n F dX11_holds_63 rfl 1 rfl ?_
          refine v_iload F dX11_holds_64 4 rfl ?_
          obtain ⟨kd25, hw⟩ := hw
          obtain ⟨hi26, hw⟩ := hw
          refine v_iastE F rfl kd25 hi26 dX11_holds_66 (fun G27 hG27 => ?_)
          have hw := hw G27 hG27
          refine v_lconst (v := 0) F dX11_holds_67 rfl ?_
          refine v_widen (c' := 0) (s' := 0) (by decide) (by decide) ?_
          exact v_lret F hw dX11_holds_68
        · rw [if_pos h] at hw
          refine v_ldc2 (v := (-9000000000000000001)) F wd_1021 dX11_holds_41 ?_
          refine v_widen (c' := 0) (s' := 0) (by decide) (by decide) ?_
          exact v_lret F hw dX11_holds_44
set_option maxRecDepth 100000 in
theorem sX11_doubt {l : Launch} {D : Dx} {a0 : Nat} {p1 : Int32} {p2 : Int32} {p3 : Int32} {G : Wd} {Q : Int64 → Wd → Prop} (hw : wpX11_doubt a0 p1 p2 p3 G Q) : Met l yX11_doubt (wM yX11_doubt cX11_doubt 4 (some .long)) rmX11_doubt (PM D [.ref a0, .int p1, .int p2, .int p3] G) (QMl D Q) 0 0 (Ab D) := by
  refine v_met (by decide) (Nat.le_of_ble_eq_true rfl) (fun X hl hR F => ?_)
  subst hl
  have F : Fx X D cX11_doubt 4 RX11 (some .long) "doubt" := F
  refine v_cast (L' := [(0, .ref a0), (1, .int p1), (2, .int p2), (3, .int p3)]) rfl rfl ?_
  unfold wpX11_doubt at hw
  refine v_aload_n F dX11_doubt_0 rfl 0 rfl ?_
  refine v_iload_n F dX11_doubt_1 rfl 1 rfl ?_
  obtain ⟨kd1, hw⟩ := hw
  refine v_calli (r_V F lk_X11_169 kd1 (sX11_isOne hw) (mkRm hR rfl rfl rfl rfl rfl rfl) rfl rfl (Nat.le_of_ble_eq_true rfl) dX11_doubt_2) (fun r2 G3 hw => ?_)
  refine v_if_eq (tgt := 32) F dX11_doubt_5 (by decide) (fun h => ?_) (fun h => ?_)
  · rw [if_pos h] at hw
    refine v_ldc2 (v := (-9000000000000000001)) F wd_1021 dX11_doubt_32 ?_
    refine v_widen (c' := 0) (s' := 0) (by decide) (by decide) ?_
    exact v_lret F hw dX11_doubt_35
  · rw [if_neg h] at hw
    refine v_iload_n F dX11_doubt_8 rfl 2 rfl ?_
    refine v_i2l F dX11_doubt_9 ?_
    refine v_lconst (v := 0) F dX11_doubt_10 rfl ?_
    refine v_ldc2 (v := 100) F wd_1054 dX11_doubt_11 ?_
    refine v_calli (r_S F ls_X11_145 (sX11_isIn hw) (mkRm hR rfl rfl rfl rfl rfl rfl) rfl rfl (Nat.le_of_ble_eq_true rfl) dX11_doubt_14) (fun r4 G5 hw => ?_)
    refine v_if_eq (tgt := 32) F dX11_doubt_17 (by decide) (fun h => ?_) (fun h => ?_)
    · rw [if_pos h] at hw
      refine v_ldc2 (v := (-9000000000000000001)) F wd_1021 dX11_doubt_32 ?_
      refine v_widen (c' := 0) (s' := 0) (by decide) (by decide) ?_
      exact v_lret F hw dX11_doubt_35
    · rw [if_neg h] at hw
      refine v_iload_n F dX11_doubt_20 rfl 3 rfl ?_
      refine v_i2l F dX11_doubt_21 ?_
      refine v_lconst (v := 0) F dX11_doubt_22 rfl ?_
      refine v_ldc2 (v := 500) F wd_1055 dX11_doubt_23 ?_
      refine v_calli (r_S F ls_X11_145 (sX11_isIn hw) (mkRm hR rfl rfl rfl rfl rfl rfl) rfl rfl (Nat.le_of_ble_eq_true rfl) dX11_doubt_26) (fun r6 G7 hw => ?_)
      refine v_if_ne (tgt := 36) F dX11_doubt_29 (by decide) (fun h => ?_) (fun h => ?_)
      · rw [if_neg h] at hw
        refine v_aload_n F dX11_doubt_36 rfl 0 rfl ?_
        obtain ⟨kd8, hw⟩ := hw
        obtain ⟨b9, hr10, hw⟩ := hw
        refine v_getS F fl_X11_37 (fun _ => rfl) kd8 hr10 dX11_doubt_37 ?_
        refine v_iload_n F dX11_doubt_40 rfl 1 rfl ?_
        refine v_iload_n F dX11_doubt_41 rfl 2 rfl ?_
        obtain ⟨kd11, hw⟩ := hw
        obtain ⟨hi12, hw⟩ := hw
        refine v_iastE F rfl kd11 hi12 dX11_doubt_42 (fun G13 hG13 => ?_)
        have hw := hw G13 hG13
        refine v_aload_n F dX11_doubt_43 rfl 0 rfl ?_
        have kd14 : gK G13 a0 = 11 := by rw [hG13]; exact kd8
        obtain ⟨b15, hr16, hw⟩ := hw
        refine v_getS F fl_X11_40 (fun _ => rfl) kd14 hr16 dX11_doubt_44 ?_
        refine v_iload_n F dX11_doubt_47 rfl 1 rfl ?_
        refine v_iload_n F dX11_doubt_48 rfl 3 rfl ?_
        obtain ⟨kd17, hw⟩ := hw
        obtain ⟨hi18, hw⟩ := hw
        refine v_iastE F rfl kd17 hi18 dX11_doubt_49 (fun G19 hG19 => ?_)
        have hw := hw G19 hG19
        refine v_lconst (v := 0) F dX11_doubt_50 rfl ?_
        refine v_widen (c' := 0) (s' := 0) (by decide) (by decide) ?_
        exact v_lret F hw dX11_doubt_51
      · rw [if_pos h] at hw
        refine v_ldc2 (v := (-9000000000000000001)) F wd_1021 dX11_doubt_32 ?_
        refine v_widen (c' := 0) (s' := 0) (by decide) (by decide) ?_
        exact v_lret F hw dX11_doubt_35
set_option maxRecDepth 100000 in
theorem sbX11_isDoubtful_20 {X : Cx} {D : Dx} (hR : X.2.2.2.1 = rmX11_isDoubtful) (F : Fx X D cX11_isDoubtful 2 RX11 (some .boolean) "isDoubtful") {Q : Int32 → Wd → Prop}  {G : Wd} (hw : wpX11_isDoubtful_20 Q   G) : V X D 2 (ZM X D (QMi D Q) 0 0) G 0 0 20 [] [] := by
  unfold wpX11_isDoubtful_20 at hw
  refine v_iconst (v := 1) F dX11_isDoubtful_20 (by decide) ?_
  refine v_goto (tgt := 25) F dX11_isDoubtful_21 (by decide) ?_
  exact v_zret F (Or.inr rfl) hw dX11_isDoubtful_25
set_option maxRecDepth 100000 in
theorem sX11_isDoubtful {l : Launch} {D : Dx} {a0 : Nat} {p1 : Int32} {G : Wd} {Q : Int32 → Wd → Prop} (hw : wpX11_isDoubtful a0 p1 G Q) : Met l yX11_isDoubtful (wM yX11_isDoubtful cX11_isDoubtful 2 (some .boolean)) rmX11_isDoubtful (PM D [.ref a0, .int p1] G) (QMi D Q) 0 0 (Ab D) := by
  refine v_met (by decide) (Nat.le_of_ble_eq_true rfl) (fun X hl hR F => ?_)
  subst hl
  have F : Fx X D cX11_isDoubtful 2 RX11 (some .boolean) "isDoubtful" := F
  refine v_cast (L' := [(0, .ref a0), (1, .int p1)]) rfl rfl ?_
  unfold wpX11_isDoubtful at hw
  refine v_aload_n F dX11_isDoubtful_0 rfl 0 rfl ?_
  obtain ⟨kd1, hw⟩ := hw
  obtain ⟨b2, hr3, hw⟩ := hw
  refine v_getS F fl_X11_13 (fun _ => rfl) kd1 hr3 dX11_isDoubtful_1 ?_
  refine v_iload_n F dX11_isDoubtful_4 rfl 1 rfl ?_
  obtain ⟨kd4, hw⟩ := hw
  obtain ⟨hi5, hw⟩ := hw
  refine v_ialdE F rfl kd4 hi5 dX11_isDoubtful_5 ?_
  refine v_iconst (v := 2) F dX11_isDoubtful_6 (by decide) ?_
  refine v_icmp_eq (tgt := 20) F dX11_isDoubtful_7 (by decide) (fun h => ?_) (fun h => ?_)
  · rw [if_pos h] at hw
    exact v_loc [] rfl (sbX11_isDoubtful_20 hR F  hw)
  · rw [if_neg h] at hw
    refine v_aload_n F dX11_isDoubtful_10 rfl 0 rfl ?_
    obtain ⟨b6, hr7, hw⟩ := hw
    refine v_getS F fl_X11_13 (fun _ => rfl) kd1 hr7 dX11_isDoubtful_11 ?_
    refine v_iload_n F dX11_isDoubtful_14 rfl 1 rfl ?_
    obtain ⟨kd8, hw⟩ := hw
    obtain ⟨hi9, hw⟩ := hw
    refine v_ialdE F rfl kd8 hi9 dX11_isDoubtful_15 ?_
    refine v_iconst (v := 4) F dX11_isDoubtful_16 (by decide) ?_
    refine v_icmp_ne (tgt := 24) F dX11_isDoubtful_17 (by decide) (fun h => ?_) (fun h => ?_)
    · rw [if_neg h] at hw
      refine v_iconst (v := 0) F dX11_isDoubtful_24 (by decide) ?_
      exact v_zret F (Or.inl rfl) hw dX11_isDoubtful_25
    · rw [if_pos h] at hw
      exact v_loc [] rfl (sbX11_isDoubtful_20 hR F  hw)
set_option maxRecDepth 100000 in
theorem sbX11_isHeaped_20 {X : Cx} {D : Dx} (hR : X.2.2.2.1 = rmX11_isHeaped) (F : Fx X D cX11_isHeaped 2 RX11 (some .boolean) "isHeaped") {Q : Int32 → Wd → Prop}  {G : Wd} (hw : wpX11_isHeaped_20 Q   G) : V X D 2 (ZM X D (QMi D Q) 0 0) G 0 0 20 [] [] := by
  unfold wpX11_isHeaped_20 at hw
  refine v_iconst (v := 1) F dX11_isHeaped_20 (by decide) ?_
  refine v_goto (tgt := 25) F dX11_isHeaped_21 (by decide) ?_
  exact v_zret F (Or.inr rfl) hw dX11_isHeaped_25
set_option maxRecDepth 100000 in
theorem sX11_isHeaped {l : Launch} {D : Dx} {a0 : Nat} {p1 : Int32} {G : Wd} {Q : Int32 → Wd → Prop} (hw : wpX11_isHeaped a0 p1 G Q) : Met l yX11_isHeaped (wM yX11_isHeaped cX11_isHeaped 2 (some .boolean)) rmX11_isHeaped (PM D [.ref a0, .int p1] G) (QMi D Q) 0 0 (Ab D) := by
  refine v_met (by decide) (Nat.le_of_ble_eq_true rfl) (fun X hl hR F => ?_)
  subst hl
  have F : Fx X D cX11_isHeaped 2 RX11 (some .boolean) "isHeaped" := F
  refine v_cast (L' := [(0, .ref a0), (1, .int p1)]) rfl rfl ?_
  unfold wpX11_isHeaped at hw
  refine v_aload_n F dX11_isHeaped_0 rfl 0 rfl ?_
  obtain ⟨kd1, hw⟩ := hw
  obtain ⟨b2, hr3, hw⟩ := hw
  refine v_getS F fl_X11_13 (fun _ => rfl) kd1 hr3 dX11_isHeaped_1 ?_
  refine v_iload_n F dX11_isHeaped_4 rfl 1 rfl ?_
  obtain ⟨kd4, hw⟩ := hw
  obtain ⟨hi5, hw⟩ := hw
  refine v_ialdE F rfl kd4 hi5 dX11_isHeaped_5 ?_
  refine v_iconst (v := 1) F dX11_isHeaped_6 (by decide) ?_
  refine v_icmp_eq (tgt := 20) F dX11_isHeaped_7 (by decide) (fun h => ?_) (fun h => ?_)
  · rw [if_pos h] at hw
    exact v_loc [] rfl (sbX11_isHeaped_20 hR F  hw)
  · rw [if_neg h] at hw
    refine v_aload_n F dX11_isHeaped_10 rfl 0 rfl ?_
    obtain ⟨b6, hr7, hw⟩ := hw
    refine v_getS F fl_X11_13 (fun _ => rfl) kd1 hr7 dX11_isHeaped_11 ?_
    refine v_iload_n F dX11_isHeaped_14 rfl 1 rfl ?_
    obtain ⟨kd8, hw⟩ := hw
    obtain ⟨hi9, hw⟩ := hw
    refine v_ialdE F rfl kd8 hi9 dX11_isHeaped_15 ?_
    refine v_iconst (v := 3) F dX11_isHeaped_16 (by decide) ?_
    refine v_icmp_ne (tgt := 24) F dX11_isHeaped_17 (by decide) (fun h => ?_) (fun h => ?_)
    · rw [if_neg h] at hw
      refine v_iconst (v := 0) F dX11_isHeaped_24 (by decide) ?_
      exact v_zret F (Or.inl rfl) hw dX11_isHeaped_25
    · rw [if_pos h] at hw
      exact v_loc [] rfl (sbX11_isHeaped_20 hR F  hw)
set_option maxRecDepth 100000 in
theorem sbX11_drop_56 {X : Cx} {D : Dx} (hR : X.2.2.2.1 = rmX11_drop) (F : Fx X D cX11_drop 4 RX11 (some .long) "drop") {Q : Int64 → Wd → Prop} {v3 : Int32} {s0 : Nat} {s1 : Int32} {s2 : Int32} {G : Wd} (hw : wpX11_drop_56 Q  v3 s0 s1 s2 G) : V X D 4 (ZM X D (QMl D Q) 0 0) G 0 0 56 [(3, .int v3)] [.int s2, .int s1, .ref s0] := by
  unfold wpX11_drop_56 at hw
  obtain ⟨kd1, hw⟩ := hw
  obtain ⟨hi2, hw⟩ := hw
  obtain ⟨hB4, hw⟩ := hw
  refine v_zastE F rfl hB4 kd1 hi2 dX11_drop_56 (fun G3 hG3 => ?_)
  have hw := hw G3 hG3
  refine v_iload_n F dX11_drop_57 rfl 0 rfl ?_
  refine v_if_eq (tgt := 65) F dX11_drop_58 (by decide) (fun h => ?_) (fun h => ?_)
  · rw [if_pos h] at hw
    refine v_lconst (v := 0) F dX11_drop_65 rfl ?_
    exact v_lret F hw dX11_drop_66
  · rw [if_neg h] at hw
    refine v_lconst (v := 1) F dX11_drop_61 rfl ?_
    refine v_goto (tgt := 66) F dX11_drop_62 (by decide) ?_
    exact v_lret F hw dX11_drop_66
set_option maxRecDepth 100000 in
theorem sX11_drop {l : Launch} {D : Dx} {a0 : Nat} {p1 : Int32} {p2 : Int32} {G : Wd} {Q : Int64 → Wd → Prop} (hw : wpX11_drop a0 p1 p2 G Q) : Met l yX11_drop (wM yX11_drop cX11_drop 4 (some .long)) rmX11_drop (PM D [.ref a0, .int p1, .int p2] G) (QMl D Q) 0 0 (Ab D) := by
  refine v_met (by decide) (Nat.le_of_ble_eq_true rfl) (fun X hl hR F => ?_)
  subst hl
  have F : Fx X D cX11_drop 4 RX11 (some .long) "drop" := F
  refine v_cast (L' := [(0, .ref a0), (1, .int p1), (2, .int p2)]) rfl rfl ?_
  unfold wpX11_drop at hw
  refine v_aload_n F dX11_drop_0 rfl 0 rfl ?_
  refine v_iload_n F dX11_drop_1 rfl 1 rfl ?_
  obtain ⟨kd5, hw⟩ := hw
  refine v_calli (r_V F lk_X11_169 kd5 (sX11_isOne hw) (mkRm hR rfl rfl rfl rfl rfl rfl) rfl rfl (Nat.le_of_ble_eq_true rfl) dX11_drop_2) (fun r6 G7 hw => ?_)
  refine v_if_eq (tgt := 18) F dX11_drop_5 (by decide) (fun h => ?_) (fun h => ?_)
  · rw [if_pos h] at hw
    refine v_ldc2 (v := (-9000000000000000001)) F wd_1021 dX11_drop_18 ?_
    refine v_widen (c' := 0) (s' := 0) (by decide) (by decide) ?_
    exact v_lret F hw dX11_drop_21
  · rw [if_neg h] at hw
    refine v_iload_n F dX11_drop_8 rfl 2 rfl ?_
    refine v_i2l F dX11_drop_9 ?_
    refine v_lconst (v := 0) F dX11_drop_10 rfl ?_
    refine v_lconst (v := 1) F dX11_drop_11 rfl ?_
    refine v_calli (r_S F ls_X11_145 (sX11_isIn hw) (mkRm hR rfl rfl rfl rfl rfl rfl) rfl rfl (Nat.le_of_ble_eq_true rfl) dX11_drop_12) (fun r8 G9 hw => ?_)
    refine v_if_ne (tgt := 22) F dX11_drop_15 (by decide) (fun h => ?_) (fun h => ?_)
    · rw [if_neg h] at hw
      refine v_aload_n F dX11_drop_22 rfl 0 rfl ?_
      refine v_iload_n F dX11_drop_23 rfl 1 rfl ?_
      obtain ⟨kd10, hw⟩ := hw
      refine v_calli (r_V F lk_X11_178 kd10 (sX11_isDoubtful hw) (mkRm hR rfl rfl rfl rfl rfl rfl) rfl rfl (Nat.le_of_ble_eq_true rfl) dX11_drop_24) (fun r11 G12 hw => ?_)
      refine v_if_ne (tgt := 34) F dX11_drop_27 (by decide) (fun h => ?_) (fun h => ?_)
      · rw [if_neg h] at hw
        refine v_aload_n F dX11_drop_34 rfl 0 rfl ?_
        obtain ⟨kd13, hw⟩ := hw
        obtain ⟨b14, hr15, hw⟩ := hw
        refine v_getS F fl_X11_43 (fun _ => rfl) kd13 hr15 dX11_drop_35 ?_
        refine v_iload_n F dX11_drop_38 rfl 1 rfl ?_
        obtain ⟨kd16, hw⟩ := hw
        obtain ⟨hi17, hw⟩ := hw
        refine v_zaldE F rfl kd16 hi17 dX11_drop_39 ?_
        refine v_topi (fun x18 hx18 => ?_)
        have hw := hw x18 hx18
        refine v_istore_n (L' := [(3, .int x18), (0, .ref a0), (1, .int p1), (2, .int p2)]) F dX11_drop_40 rfl (by decide) rfl ?_
        refine v_aload_n F dX11_drop_41 rfl 1 rfl ?_
        obtain ⟨b19, hr20, hw⟩ := hw
        refine v_getS F fl_X11_43 (fun _ => rfl) kd13 hr20 dX11_drop_42 ?_
        refine v_iload_n F dX11_drop_45 rfl 2 rfl ?_
        refine v_iload_n F dX11_drop_46 rfl 3 rfl ?_
        refine v_iconst (v := 1) F dX11_drop_47 (by decide) ?_
        refine v_icmp_ne (tgt := 55) F dX11_drop_48 (by decide) (fun h => ?_) (fun h => ?_)
        · rw [if_neg h] at hw
          refine v_iconst (v := 0) F dX11_drop_55 (by decide) ?_
          exact v_loc [0] rfl (sbX11_drop_56 hR F  hw)
        · rw [if_pos h] at hw
          refine v_iconst (v := 1) F dX11_drop_51 (by decide) ?_
          refine v_goto (tgt := 56) F dX11_drop_52 (by decide) ?_
          exact v_loc [0] rfl (sbX11_drop_56 hR F  hw)
      · rw [if_pos h] at hw
        refine v_ldc2 (v := (-9000000000000000002)) F wd_1064 dX11_drop_30 ?_
        refine v_widen (c' := 0) (s' := 0) (by decide) (by decide) ?_
        exact v_lret F hw dX11_drop_33
    · rw [if_pos h] at hw
      refine v_ldc2 (v := (-9000000000000000001)) F wd_1021 dX11_drop_18 ?_
      refine v_widen (c' := 0) (s' := 0) (by decide) (by decide) ?_
      exact v_lret F hw dX11_drop_21
set_option maxRecDepth 100000 in
theorem sX11_forget {l : Launch} {D : Dx} {a0 : Nat} {G : Wd} {Q : Int64 → Wd → Prop} (hw : wpX11_forget a0 G Q) : Met l yX11_forget (wM yX11_forget cX11_forget 1 (some .long)) rmX11_forget (PM D [.ref a0] G) (QMl D Q) 0 0 (Ab D) := by
  refine v_met (by decide) (Nat.le_of_ble_eq_true rfl) (fun X hl hR F => ?_)
  subst hl
  have F : Fx X D cX11_forget 1 RX11 (some .long) "forget" := F
  refine v_cast (L' := [(0, .ref a0)]) rfl rfl ?_
  unfold wpX11_forget at hw
  refine v_aload_n F dX11_forget_0 rfl 0 rfl ?_
  obtain ⟨kd1, hw⟩ := hw
  refine v_get F fl_X11_159 kd1 rfl dX11_forget_1 ?_
  refine v_if_ne (tgt := 11) F dX11_forget_4 (by decide) (fun h => ?_) (fun h => ?_)
  · rw [if_neg h] at hw
    refine v_aload_n F dX11_forget_11 rfl 0 rfl ?_
    refine v_dup F dX11_forget_12 rfl ?_
    refine v_get F fl_X11_159 kd1 rfl dX11_forget_13 ?_
    refine v_iconst (v := 1) F dX11_forget_16 (by decide) ?_
    refine v_isub F dX11_forget_17 ?_
    refine v_putI F fl_X11_159 (fun h => absurd h (by decide)) rfl kd1 dX11_forget_18 ?_
    refine v_nmG (fun G2 hG2 => ?_)
    have hw := hw G2 hG2
    refine v_aload_n F dX11_forget_21 rfl 0 rfl ?_
    have kd3 : gK G2 a0 = 11 := by rw [hG2]; exact kd1
    refine v_get F fl_X11_159 kd3 rfl dX11_forget_22 ?_
    refine v_i2l F dX11_forget_25 ?_
    exact v_lret F hw dX11_forget_26
  · rw [if_pos h] at hw
    refine v_ldc2 (v := (-9000000000000000002)) F wd_1064 dX11_forget_7 ?_
    exact v_lret F hw dX11_forget_10
set_option maxRecDepth 100000 in
theorem sX11_told {l : Launch} {D : Dx} {a0 : Nat} {p1 : Int32} {p2 : Int32} {G : Wd} {Q : Int64 → Wd → Prop} (hw : wpX11_told a0 p1 p2 G Q) : Met l yX11_told (wM yX11_told cX11_told 3 (some .long)) rmX11_told (PM D [.ref a0, .int p1, .int p2] G) (QMl D Q) 0 0 (Ab D) := by
  refine v_met (by decide) (Nat.le_of_ble_eq_true rfl) (fun X hl hR F => ?_)
  subst hl
  have F : Fx X D cX11_told 3 RX11 (some .long) "told" := F
  refine v_cast (L' := [(0, .ref a0), (1, .int p1), (2, .int p2)]) rfl rfl ?_
  unfold wpX11_told at hw
  refine v_aload_n F dX11_told_0 rfl 0 rfl ?_
  refine v_iload_n F dX11_told_1 rfl 1 rfl ?_
  obtain ⟨kd1, hw⟩ := hw
  refine v_calli (r_V F lk_X11_169 kd1 (sX11_isOne hw) (mkRm hR rfl rfl rfl rfl rfl rfl) rfl rfl (Nat.le_of_ble_eq_true rfl) dX11_told_2) (fun r2 G3 hw => ?_)
  refine v_if_eq (tgt := 20) F dX11_told_5 (by decide) (fun h => ?_) (fun h => ?_)
  · rw [if_pos h] at hw
    refine v_ldc2 (v := (-9000000000000000001)) F wd_1021 dX11_told_20 ?_
    refine v_widen (c' := 0) (s' := 0) (by decide) (by decide) ?_
    exact v_lret F hw dX11_told_23
  · rw [if_neg h] at hw
    refine v_iload_n F dX11_told_8 rfl 2 rfl ?_
    refine v_i2l F dX11_told_9 ?_
    refine v_lconst (v := 0) F dX11_told_10 rfl ?_
    refine v_ldc2 (v := 10) F wd_1073 dX11_told_11 ?_
    refine v_calli (r_S F ls_X11_145 (sX11_isIn hw) (mkRm hR rfl rfl rfl rfl rfl rfl) rfl rfl (Nat.le_of_ble_eq_true rfl) dX11_told_14) (fun r4 G5 hw => ?_)
    refine v_if_ne (tgt := 24) F dX11_told_17 (by decide) (fun h => ?_) (fun h => ?_)
    · rw [if_neg h] at hw
      refine v_iload_n F dX11_told_24 rfl 2 rfl ?_
      by_cases hc0 : p2 = 0
      · rw [if_pos hc0] at hw
        refine v_tableInE (c := 0) (tgt := 80) F hc0 dX11_told_25 (by decide) (by decide) rfl (by decide) ?_
        refine v_aload_n F dX11_told_80 rfl 0 rfl ?_
        obtain ⟨kd6, hw⟩ := hw
        obtain ⟨b7, hr8, hw⟩ := hw
        refine v_getS F fl_X11_13 (fun _ => rfl) kd6 hr8 dX11_told_81 ?_
        refine v_iload_n F dX11_told_84 rfl 1 rfl ?_
        obtain ⟨kd9, hw⟩ := hw
        obtain ⟨hi10, hw⟩ := hw
        refine v_ialdE F rfl kd9 hi10 dX11_told_85 ?_
        refine v_i2l F dX11_told_86 ?_
        refine v_widen (c' := 0) (s' := 0) (by decide) (by decide) ?_
        exact v_lret F hw dX11_told_87
      rw [if_neg hc0] at hw
      by_cases hc1 : p2 = 1
      · rw [if_pos hc1] at hw
        refine v_tableInE (c := 1) (tgt := 88) F hc1 dX11_told_25 (by decide) (by decide) rfl (by decide) ?_
        refine v_aload_n F dX11_told_88 rfl 0 rfl ?_
        obtain ⟨kd11, hw⟩ := hw
        obtain ⟨b12, hr13, hw⟩ := hw
        refine v_getS F fl_X11_16 (fun _ => rfl) kd11 hr13 dX11_told_89 ?_
        refine v_iload_n F dX11_told_92 rfl 1 rfl ?_
        obtain ⟨kd14, hw⟩ := hw
        obtain ⟨hi15, hw⟩ := hw
        refine v_ialdE F rfl kd14 hi15 dX11_told_93 ?_
        refine v_i2l F dX11_told_94 ?_
        refine v_widen (c' := 0) (s' := 0) (by decide) (by decide) ?_
        exact v_lret F hw dX11_told_95
      rw [if_neg hc1] at hw
      by_cases hc2 : p2 = 2
      · rw [if_pos hc2] at hw
        refine v_tableInE (c := 2) (tgt := 96) F hc2 dX11_told_25 (by decide) (by decide) rfl (by decide) ?_
        refine v_aload_n F dX11_told_96 rfl 0 rfl ?_
        obtain ⟨kd16, hw⟩ := hw
        obtain ⟨b17, hr18, hw⟩ := hw
        refine v_getS F fl_X11_19 (fun _ => rfl) kd16 hr18 dX11_told_97 ?_
        refine v_iload_n F dX11_told_100 rfl 1 rfl ?_
        obtain ⟨kd19, hw⟩ := hw
        obtain ⟨hi20, hw⟩ := hw
        refine v_ialdE F rfl kd19 hi20 dX11_told_101 ?_
        refine v_i2l F dX11_told_102 ?_
        refine v_widen (c' := 0) (s' := 0) (by decide) (by decide) ?_
        exact v_lret F hw dX11_told_103
      rw [if_neg hc2] at hw
      by_cases hc3 : p2 = 3
      · rw [if_pos hc3] at hw
        refine v_tableInE (c := 3) (tgt := 104) F hc3 dX11_told_25 (by decide) (by decide) rfl (by decide) ?_
        refine v_aload_n F dX11_told_104 rfl 0 rfl ?_
        obtain ⟨kd21, hw⟩ := hw
        obtain ⟨b22, hr23, hw⟩ := hw
        refine v_getS F fl_X11_22 (fun _ => rfl) kd21 hr23 dX11_told_105 ?_
        refine v_iload_n F dX11_told_108 rfl 1 rfl ?_
        obtain ⟨kd24, hw⟩ := hw
        obtain ⟨hi25, hw⟩ := hw
        refine v_ialdE F rfl kd24 hi25 dX11_told_109 ?_
        refine v_i2l F dX11_told_110 ?_
        refine v_widen (c' := 0) (s' := 0) (by decide) (by decide) ?_
        exact v_lret F hw dX11_told_111
      rw [if_neg hc3] at hw
      by_cases hc4 : p2 = 4
      · rw [if_pos hc4] at hw
        refine v_tableInE (c := 4) (tgt := 112) F hc4 dX11_told_25 (by decide) (by decide) rfl (by decide) ?_
        refine v_aload_n F dX11_told_112 rfl 0 rfl ?_
        obtain ⟨kd26, hw⟩ := hw
        obtain ⟨b27, hr28, hw⟩ := hw
        refine v_getS F fl_X11_25 (fun _ => rfl) kd26 hr28 dX11_told_113 ?_
        refine v_iload_n F dX11_told_116 rfl 1 rfl ?_
        obtain ⟨kd29, hw⟩ := hw
        obtain ⟨hi30, hw⟩ := hw
        refine v_ialdE F rfl kd29 hi30 dX11_told_117 ?_
        refine v_i2l F dX11_told_118 ?_
        refine v_widen (c' := 0) (s' := 0) (by decide) (by decide) ?_
        exact v_lret F hw dX11_told_119
      rw [if_neg hc4] at hw
      by_cases hc5 : p2 = 5
      · rw [if_pos hc5] at hw
        refine v_tableInE (c := 5) (tgt := 120) F hc5 dX11_told_25 (by decide) (by decide) rfl (by decide) ?_
        refine v_aload_n F dX11_told_120 rfl 0 rfl ?_
        obtain ⟨kd31, hw⟩ := hw
        obtain ⟨b32, hr33, hw⟩ := hw
        refine v_getS F fl_X11_28 (fun _ => rfl) kd31 hr33 dX11_told_121 ?_
        refine v_iload_n F dX11_told_124 rfl 1 rfl ?_
        obtain ⟨kd34, hw⟩ := hw
        obtain ⟨hi35, hw⟩ := hw
        refine v_ialdE F rfl kd34 hi35 dX11_told_125 ?_
        refine v_i2l F dX11_told_126 ?_
        refine v_widen (c' := 0) (s' := 0) (by decide) (by decide) ?_
        exact v_lret F hw dX11_told_127
      rw [if_neg hc5] at hw
      by_cases hc6 : p2 = 6
      · rw [if_pos hc6] at hw
        refine v_tableInE (c := 6) (tgt := 128) F hc6 dX11_told_25 (by decide) (by decide) rfl (by decide) ?_
        refine v_aload_n F dX11_told_128 rfl 0 rfl ?_
        obtain ⟨kd36, hw⟩ := hw
        obtain ⟨b37, hr38, hw⟩ := hw
        refine v_getS F fl_X11_31 (fun _ => rfl) kd36 hr38 dX11_told_129 ?_
        refine v_iload_n F dX11_told_132 rfl 1 rfl ?_
        obtain ⟨kd39, hw⟩ := hw
        obtain ⟨hi40, hw⟩ := hw
        refine v_ialdE F rfl kd39 hi40 dX11_told_133 ?_
        refine v_i2l F dX11_told_134 ?_
        refine v_widen (c' := 0) (s' := 0) (by decide) (by decide) ?_
        exact v_lret F hw dX11_told_135
      rw [if_neg hc6] at hw
      by_cases hc7 : p2 = 7
      · rw [if_pos hc7] at hw
        refine v_tableInE (c := 7) (tgt := 136) F hc7 dX11_told_25 (by decide) (by decide) rfl (by decide) ?_
        refine v_aload_n F dX11_told_136 rfl 0 rfl ?_
        obtain ⟨kd41, hw⟩ := hw
        obtain ⟨b42, hr43, hw⟩ := hw
        refine v_getS F fl_X11_34 (fun _ => rfl) kd41 hr43 dX11_told_137 ?_
        refine v_iload_n F dX11_told_140 rfl 1 rfl ?_
        obtain ⟨kd44, hw⟩ := hw
        obtain ⟨hi45, hw⟩ := hw
        refine v_ialdE F rfl kd44 hi45 dX11_told_141 ?_
        refine v_i2l F dX11_told_142 ?_
        refine v_widen (c' := 0) (s' := 0) (by decide) (by decide) ?_
        exact v_lret F hw dX11_told_143
      rw [if_neg hc7] at hw
      by_cases hc8 : p2 = 8
      · rw [if_pos hc8] at hw
        refine v_tableInE (c := 8) (tgt := 144) F hc8 dX11_told_25 (by decide) (by decide) rfl (by decide) ?_
        refine v_aload_n F dX11_told_144 rfl 0 rfl ?_
        obtain ⟨kd46, hw⟩ := hw
        obtain ⟨b47, hr48, hw⟩ := hw
        refine v_getS F fl_X11_37 (fun _ => rfl) kd46 hr48 dX11_told_145 ?_
        refine v_iload_n F dX11_told_148 rfl 1 rfl ?_
        obtain ⟨kd49, hw⟩ := hw
        obtain ⟨hi50, hw⟩ := hw
        refine v_ialdE F rfl kd49 hi50 dX11_told_149 ?_
        refine v_i2l F dX11_told_150 ?_
        refine v_widen (c' := 0) (s' := 0) (by decide) (by decide) ?_
        exact v_lret F hw dX11_told_151
      rw [if_neg hc8] at hw
      by_cases hc9 : p2 = 9
      · rw [if_pos hc9] at hw
        refine v_tableInE (c := 9) (tgt := 152) F hc9 dX11_told_25 (by decide) (by decide) rfl (by decide) ?_
        refine v_aload_n F dX11_told_152 rfl 0 rfl ?_
        obtain ⟨kd51, hw⟩ := hw
        obtain ⟨b52, hr53, hw⟩ := hw
        refine v_getS F fl_X11_40 (fun _ => rfl) kd51 hr53 dX11_told_153 ?_
        refine v_iload_n F dX11_told_156 rfl 1 rfl ?_
        obtain ⟨kd54, hw⟩ := hw
        obtain ⟨hi55, hw⟩ := hw
        refine v_ialdE F rfl kd54 hi55 dX11_told_157 ?_
        refine v_i2l F dX11_told_158 ?_
        refine v_widen (c' := 0) (s' := 0) (by decide) (by decide) ?_
        exact v_lret F hw dX11_told_159
      rw [if_neg hc9] at hw
      refine v_tableOut (tgt := 160) F dX11_told_25 (sw_out 10 (by decide) (fun k hk => ?_)) (by decide) ?_
      · match k, hk with
        | 0, _ => exact hc0
        | 1, _ => exact hc1
        | 2, _ => exact hc2
        | 3, _ => exact hc3
        | 4, _ => exact hc4
        | 5, _ => exact hc5
        | 6, _ => exact hc6
        | 7, _ => exact hc7
        | 8, _ => exact hc8
        | 9, _ => exact hc9
        | k + 10, hk => exact absurd hk (by omega)
      · refine v_aload_n F dX11_told_160 rfl 0 rfl ?_
        obtain ⟨kd56, hw⟩ := hw
        obtain ⟨b57, hr58, hw⟩ := hw
        refine v_getS F fl_X11_43 (fun _ => rfl) kd56 hr58 dX11_told_161 ?_
        refine v_iload_n F dX11_told_164 rfl 1 rfl ?_
        obtain ⟨kd59, hw⟩ := hw
        obtain ⟨hi60, hw⟩ := hw
        refine v_zaldE F rfl kd59 hi60 dX11_told_165 ?_
        refine v_if_eq (tgt := 173) F dX11_told_166 (by decide) (fun h => ?_) (fun h => ?_)
        · rw [if_pos h] at hw
          refine v_lconst (v := 0) F dX11_told_173 rfl ?_
          refine v_widen (c' := 0) (s' := 0) (by decide) (by decide) ?_
          exact v_lret F hw dX11_told_174
        · rw [if_neg h] at hw
          refine v_lconst (v := 1) F dX11_told_169 rfl ?_
          refine v_goto (tgt := 174) F dX11_told_170 (by decide) ?_
          refine v_widen (c' := 0) (s' := 0) (by decide) (by decide) ?_
          exact v_lret F hw dX11_told_174
    · rw [if_pos h] at hw
      refine v_ldc2 (v := (-9000000000000000001)) F wd_1021 dX11_told_20 ?_
      refine v_widen (c' := 0) (s' := 0) (by decide) (by decide) ?_
      exact v_lret F hw dX11_told_23
set_option maxRecDepth 100000 in
theorem sbX11_isOf_64 {X : Cx} {D : Dx} (hR : X.2.2.2.1 = rmX11_isOf) (F : Fx X D cX11_isOf 3 RX11 (some .long) "isOf") {Q : Int64 → Wd → Prop}  {G : Wd} (hw : wpX11_isOf_64 Q   G) : V X D 3 (ZM X D (QMl D Q) 0 0) G 0 0 64 [] [] := by
  unfold wpX11_isOf_64 at hw
  refine v_lconst (v := 1) F dX11_isOf_64 rfl ?_
  refine v_goto (tgt := 69) F dX11_isOf_65 (by decide) ?_
  exact v_lret F hw dX11_isOf_69
set_option maxRecDepth 100000 in
theorem sbX11_isOf_51 {X : Cx} {D : Dx} (hR : X.2.2.2.1 = rmX11_isOf) (F : Fx X D cX11_isOf 3 RX11 (some .long) "isOf") {Q : Int64 → Wd → Prop} {v0 : Nat} {v1 : Int32} {v2 : Int32} {G : Wd} (hw : wpX11_isOf_51 Q  v0 v1 v2 G) : V X D 3 (ZM X D (QMl D Q) 0 0) G 0 0 51 [(0, .ref v0), (1, .int v1), (2, .int v2)] [] := by
  unfold wpX11_isOf_51 at hw
  refine v_iload_n F dX11_isOf_51 rfl 2 rfl ?_
  refine v_iconst (v := 2) F dX11_isOf_52 (by decide) ?_
  refine v_icmp_ne (tgt := 68) F dX11_isOf_53 (by decide) (fun h => ?_) (fun h => ?_)
  · rw [if_neg h] at hw
    refine v_lconst (v := 0) F dX11_isOf_68 rfl ?_
    exact v_lret F hw dX11_isOf_69
  · rw [if_pos h] at hw
    refine v_aload_n F dX11_isOf_56 rfl 0 rfl ?_
    refine v_iload_n F dX11_isOf_57 rfl 1 rfl ?_
    obtain ⟨kd1, hw⟩ := hw
    refine v_calli (r_V F lk_X11_178 kd1 (sX11_isDoubtful hw) (mkRm hR rfl rfl rfl rfl rfl rfl) rfl rfl (Nat.le_of_ble_eq_true rfl) dX11_isOf_58) (fun r2 G3 hw => ?_)
    refine v_if_eq (tgt := 68) F dX11_isOf_61 (by decide) (fun h => ?_) (fun h => ?_)
    · rw [if_pos h] at hw
      refine v_lconst (v := 0) F dX11_isOf_68 rfl ?_
      refine v_widen (c' := 0) (s' := 0) (by decide) (by decide) ?_
      exact v_lret F hw dX11_isOf_69
    · rw [if_neg h] at hw
      exact v_loc [] rfl (sbX11_isOf_64 hR F  hw)
set_option maxRecDepth 100000 in
theorem sX11_isOf {l : Launch} {D : Dx} {a0 : Nat} {p1 : Int32} {p2 : Int32} {G : Wd} {Q : Int64 → Wd → Prop} (hw : wpX11_isOf a0 p1 p2 G Q) : Met l yX11_isOf (wM yX11_isOf cX11_isOf 3 (some .long)) rmX11_isOf (PM D [.ref a0, .int p1, .int p2] G) (QMl D Q) 0 0 (Ab D) := by
  refine v_met (by decide) (Nat.le_of_ble_eq_true rfl) (fun X hl hR F => ?_)
  subst hl
  have F : Fx X D cX11_isOf 3 RX11 (some .long) "isOf" := F
  refine v_cast (L' := [(0, .ref a0), (1, .int p1), (2, .int p2)]) rfl rfl ?_
  unfold wpX11_isOf at hw
  refine v_aload_n F dX11_isOf_0 rfl 0 rfl ?_
  refine v_iload_n F dX11_isOf_1 rfl 1 rfl ?_
  obtain ⟨kd4, hw⟩ := hw
  refine v_calli (r_V F lk_X11_169 kd4 (sX11_isOne hw) (mkRm hR rfl rfl rfl rfl rfl rfl) rfl rfl (Nat.le_of_ble_eq_true rfl) dX11_isOf_2) (fun r5 G6 hw => ?_)
  refine v_if_eq (tgt := 20) F dX11_isOf_5 (by decide) (fun h => ?_) (fun h => ?_)
  · rw [if_pos h] at hw
    refine v_ldc2 (v := (-9000000000000000001)) F wd_1021 dX11_isOf_20 ?_
    refine v_widen (c' := 0) (s' := 0) (by decide) (by decide) ?_
    exact v_lret F hw dX11_isOf_23
  · rw [if_neg h] at hw
    refine v_iload_n F dX11_isOf_8 rfl 2 rfl ?_
    refine v_i2l F dX11_isOf_9 ?_
    refine v_lconst (v := 0) F dX11_isOf_10 rfl ?_
    refine v_ldc2 (v := 4) F wd_1037 dX11_isOf_11 ?_
    refine v_calli (r_S F ls_X11_145 (sX11_isIn hw) (mkRm hR rfl rfl rfl rfl rfl rfl) rfl rfl (Nat.le_of_ble_eq_true rfl) dX11_isOf_14) (fun r7 G8 hw => ?_)
    refine v_if_ne (tgt := 24) F dX11_isOf_17 (by decide) (fun h => ?_) (fun h => ?_)
    · rw [if_neg h] at hw
      refine v_iload_n F dX11_isOf_24 rfl 2 rfl ?_
      refine v_if_eq (tgt := 64) F dX11_isOf_25 (by decide) (fun h => ?_) (fun h => ?_)
      · rw [if_pos h] at hw
        exact v_loc [] rfl (sbX11_isOf_64 hR F  hw)
      · rw [if_neg h] at hw
        refine v_aload_n F dX11_isOf_28 rfl 0 rfl ?_
        obtain ⟨kd9, hw⟩ := hw
        obtain ⟨b10, hr11, hw⟩ := hw
        refine v_getS F fl_X11_13 (fun _ => rfl) kd9 hr11 dX11_isOf_29 ?_
        refine v_iload_n F dX11_isOf_32 rfl 1 rfl ?_
        obtain ⟨kd12, hw⟩ := hw
        obtain ⟨hi13, hw⟩ := hw
        refine v_ialdE F rfl kd12 hi13 dX11_isOf_33 ?_
        refine v_iload_n F dX11_isOf_34 rfl 2 rfl ?_
        refine v_icmp_eq (tgt := 64) F dX11_isOf_35 (by decide) (fun h => ?_) (fun h => ?_)
        · rw [if_pos h] at hw
          exact v_loc [] rfl (sbX11_isOf_64 hR F  hw)
        · rw [if_neg h] at hw
          refine v_iload_n F dX11_isOf_38 rfl 2 rfl ?_
          refine v_iconst (v := 1) F dX11_isOf_39 (by decide) ?_
          refine v_icmp_ne (tgt := 51) F dX11_isOf_40 (by decide) (fun h => ?_) (fun h => ?_)
          · rw [if_neg h] at hw
            exact v_loc [0, 1, 2] rfl (sbX11_isOf_51 hR F  hw)
          · rw [if_pos h] at hw
            refine v_aload_n F dX11_isOf_43 rfl 0 rfl ?_
            refine v_iload_n F dX11_isOf_44 rfl 1 rfl ?_
            refine v_calli (r_V F lk_X11_183 kd9 (sX11_isHeaped hw) (mkRm hR rfl rfl rfl rfl rfl rfl) rfl rfl (Nat.le_of_ble_eq_true rfl) dX11_isOf_45) (fun r14 G15 hw => ?_)
            refine v_if_ne (tgt := 64) F dX11_isOf_48 (by decide) (fun h => ?_) (fun h => ?_)
            · rw [if_neg h] at hw
              exact v_loc [] rfl (sbX11_isOf_64 hR F  hw)
            · rw [if_pos h] at hw
              exact v_loc [0, 1, 2] rfl (sbX11_isOf_51 hR F  hw)
    · rw [if_pos h] at hw
      refine v_ldc2 (v := (-9000000000000000001)) F wd_1021 dX11_isOf_20 ?_
      refine v_widen (c' := 0) (s' := 0) (by decide) (by decide) ?_
      exact v_lret F hw dX11_isOf_23
set_option maxRecDepth 100000 in
theorem sbX11_endOf_160 {X : Cx} {D : Dx} (hR : X.2.2.2.1 = rmX11_endOf) (F : Fx X D cX11_endOf 3 RX11 none "endOf") {Q : Wd → Prop} {s0 : Nat} {s1 : Int64} {s2 : Int64} {G : Wd} (hw : wpX11_endOf_160 Q  s0 s1 s2 G) : V X D 3 (ZM X D (QMv D Q) 0 0) G 0 0 160 [] [.long s2, .long s1, .ref s0] := by
  unfold wpX11_endOf_160 at hw
  obtain ⟨kd1, hw⟩ := hw
  refine v_callv (r_V F lk_X11_186 kd1 (sX11_set hw) (mkRm hR rfl rfl rfl rfl rfl rfl) rfl rfl (Nat.le_of_ble_eq_true rfl) dX11_endOf_160) (fun G3 hw => ?_)
  refine v_widen (c' := 0) (s' := 0) (by decide) (by decide) ?_
  exact v_vret F hw dX11_endOf_163
set_option maxRecDepth 100000 in
theorem sbX11_endOf_141 {X : Cx} {D : Dx} (hR : X.2.2.2.1 = rmX11_endOf) (F : Fx X D cX11_endOf 3 RX11 none "endOf") {Q : Wd → Prop} {v0 : Nat} {v2 : Int32} {s0 : Nat} {s1 : Int64} {G : Wd} (hw : wpX11_endOf_141 Q  v0 v2 s0 s1 G) : V X D 3 (ZM X D (QMv D Q) 0 0) G 0 0 141 [(0, .ref v0), (2, .int v2)] [.long s1, .ref s0] := by
  unfold wpX11_endOf_141 at hw
  refine v_iload_n F dX11_endOf_141 rfl 1 rfl ?_
  refine v_if_ne (tgt := 156) F dX11_endOf_142 (by decide) (fun h => ?_) (fun h => ?_)
  · rw [if_neg h] at hw
    refine v_aload_n F dX11_endOf_156 rfl 0 rfl ?_
    obtain ⟨kd4, hw⟩ := hw
    refine v_get F fl_X11_98 kd4 rfl dX11_endOf_157 ?_
    exact v_loc [] rfl (sbX11_endOf_160 hR F  hw)
  · rw [if_pos h] at hw
    refine v_ldc2 (v := 2) F wd_1097 dX11_endOf_145 ?_
    refine v_aload_n F dX11_endOf_148 rfl 0 rfl ?_
    obtain ⟨kd5, hw⟩ := hw
    refine v_get F fl_X11_98 kd5 rfl dX11_endOf_149 ?_
    refine v_lmul F dX11_endOf_152 ?_
    refine v_goto (tgt := 160) F dX11_endOf_153 (by decide) ?_
    exact v_loc [] rfl (sbX11_endOf_160 hR F  hw)
set_option maxRecDepth 100000 in
theorem sbX11_endOf_111 {X : Cx} {D : Dx} (hR : X.2.2.2.1 = rmX11_endOf) (F : Fx X D cX11_endOf 3 RX11 none "endOf") {Q : Wd → Prop} {v0 : Nat} {v1 : Int32} {v2 : Int32} {G : Wd} (hw : wpX11_endOf_111 Q  v0 v1 v2 G) : V X D 3 (ZM X D (QMv D Q) 0 0) G 0 0 111 [(0, .ref v0), (1, .int v1), (2, .int v2)] [] := by
  unfold wpX11_endOf_111 at hw
  refine v_aload_n F dX11_endOf_111 rfl 0 rfl ?_
  obtain ⟨kd6, hw⟩ := hw
  obtain ⟨b7, hr8, hw⟩ := hw
  refine v_getS F fl_X11_13 (fun _ => rfl) kd6 hr8 dX11_endOf_112 ?_
  refine v_iload_n F dX11_endOf_115 rfl 1 rfl ?_
  obtain ⟨kd9, hw⟩ := hw
  obtain ⟨hi10, hw⟩ := hw
  refine v_ialdE F rfl kd9 hi10 dX11_endOf_116 ?_
  refine v_iconst (v := 4) F dX11_endOf_117 (by decide) ?_
  refine v_icmp_ne (tgt := 163) F dX11_endOf_118 (by decide) (fun h => ?_) (fun h => ?_)
  · rw [if_neg h] at hw
    exact v_vret F hw dX11_endOf_163
  · rw [if_pos h] at hw
    refine v_aload_n F dX11_endOf_121 rfl 0 rfl ?_
    refine v_iload_n F dX11_endOf_122 rfl 2 rfl ?_
    refine v_if_ne (tgt := 133) F dX11_endOf_123 (by decide) (fun h => ?_) (fun h => ?_)
    · rw [if_neg h] at hw
      refine v_ldc2 (v := 2) F wd_1097 dX11_endOf_133 ?_
      refine v_aload_n F dX11_endOf_136 rfl 0 rfl ?_
      refine v_get F fl_X11_94 kd6 rfl dX11_endOf_137 ?_
      refine v_lmul F dX11_endOf_140 ?_
      exact v_loc [0, 2] rfl (sbX11_endOf_141 hR F  hw)
    · rw [if_pos h] at hw
      refine v_aload_n F dX11_endOf_126 rfl 0 rfl ?_
      refine v_get F fl_X11_94 kd6 rfl dX11_endOf_127 ?_
      refine v_goto (tgt := 141) F dX11_endOf_130 (by decide) ?_
      exact v_loc [0, 2] rfl (sbX11_endOf_141 hR F  hw)
set_option maxRecDepth 100000 in
theorem sbX11_endOf_99 {X : Cx} {D : Dx} (hR : X.2.2.2.1 = rmX11_endOf) (F : Fx X D cX11_endOf 3 RX11 none "endOf") {Q : Wd → Prop} {v0 : Nat} {v1 : Int32} {v2 : Int32} {s0 : Nat} {s1 : Int64} {s2 : Int64} {G : Wd} (hw : wpX11_endOf_99 Q  v0 v1 v2 s0 s1 s2 G) : V X D 3 (ZM X D (QMv D Q) 0 0) G 0 0 99 [(0, .ref v0), (1, .int v1), (2, .int v2)] [.long s2, .long s1, .ref s0] := by
  unfold wpX11_endOf_99 at hw
  refine v_lmul F dX11_endOf_99 ?_
  refine v_aload_n F dX11_endOf_100 rfl 0 rfl ?_
  obtain ⟨kd11, hw⟩ := hw
  refine v_get F fl_X11_98 kd11 rfl dX11_endOf_101 ?_
  refine v_ldc2 (v := 1000) F wd_1039 dX11_endOf_104 ?_
  refine v_lmul F dX11_endOf_107 ?_
  obtain ⟨kd12, hw⟩ := hw
  refine v_callv (r_V F lk_X11_186 kd12 (sX11_set hw) (mkRm hR rfl rfl rfl rfl rfl rfl) rfl rfl (Nat.le_of_ble_eq_true rfl) dX11_endOf_108) (fun G14 hw => ?_)
  exact v_loc [0, 1, 2] rfl (sbX11_endOf_111 hR F  hw)
set_option maxRecDepth 100000 in
theorem sX11_endOf {l : Launch} {D : Dx} {a0 : Nat} {p1 : Int32} {p2 : Int32} {G : Wd} {Q : Wd → Prop} (hw : wpX11_endOf a0 p1 p2 G Q) : Met l yX11_endOf (wM yX11_endOf cX11_endOf 3 none) rmX11_endOf (PM D [.ref a0, .int p1, .int p2] G) (QMv D Q) 0 0 (Ab D) := by
  refine v_met (by decide) (Nat.le_of_ble_eq_true rfl) (fun X hl hR F => ?_)
  subst hl
  have F : Fx X D cX11_endOf 3 RX11 none "endOf" := F
  refine v_cast (L' := [(0, .ref a0), (1, .int p1), (2, .int p2)]) rfl rfl ?_
  unfold wpX11_endOf at hw
  refine v_aload_n F dX11_endOf_0 rfl 0 rfl ?_
  refine v_aload_n F dX11_endOf_1 rfl 0 rfl ?_
  obtain ⟨kd15, hw⟩ := hw
  obtain ⟨b16, hr17, hw⟩ := hw
  refine v_getS F fl_X11_22 (fun _ => rfl) kd15 hr17 dX11_endOf_2 ?_
  refine v_iload_n F dX11_endOf_5 rfl 1 rfl ?_
  obtain ⟨kd18, hw⟩ := hw
  obtain ⟨hi19, hw⟩ := hw
  refine v_ialdE F rfl kd18 hi19 dX11_endOf_6 ?_
  refine v_i2l F dX11_endOf_7 ?_
  refine v_aload_n F dX11_endOf_8 rfl 0 rfl ?_
  obtain ⟨b20, hr21, hw⟩ := hw
  refine v_getS F fl_X11_25 (fun _ => rfl) kd15 hr21 dX11_endOf_9 ?_
  refine v_iload_n F dX11_endOf_12 rfl 1 rfl ?_
  obtain ⟨kd22, hw⟩ := hw
  obtain ⟨hi23, hw⟩ := hw
  refine v_ialdE F rfl kd22 hi23 dX11_endOf_13 ?_
  refine v_i2l F dX11_endOf_14 ?_
  refine v_callv (r_V F lk_X11_186 kd15 (sX11_set hw) (mkRm hR rfl rfl rfl rfl rfl rfl) rfl rfl (Nat.le_of_ble_eq_true rfl) dX11_endOf_15) (fun G25 hw => ?_)
  refine v_aload_n F dX11_endOf_18 rfl 0 rfl ?_
  refine v_iload_n F dX11_endOf_19 rfl 1 rfl ?_
  obtain ⟨kd26, hw⟩ := hw
  refine v_calli (r_V F lk_X11_183 kd26 (sX11_isHeaped hw) (mkRm hR rfl rfl rfl rfl rfl rfl) rfl rfl (Nat.le_of_ble_eq_true rfl) dX11_endOf_20) (fun r27 G28 hw => ?_)
  refine v_if_eq (tgt := 57) F dX11_endOf_23 (by decide) (fun h => ?_) (fun h => ?_)
  · rw [if_pos h] at hw
    refine v_aload_n F dX11_endOf_57 rfl 0 rfl ?_
    refine v_iload_n F dX11_endOf_58 rfl 1 rfl ?_
    obtain ⟨kd29, hw⟩ := hw
    refine v_calli (r_V F lk_X11_178 kd29 (sX11_isDoubtful hw) (mkRm hR rfl rfl rfl rfl rfl rfl) rfl rfl (Nat.le_of_ble_eq_true rfl) dX11_endOf_59) (fun r30 G31 hw => ?_)
    refine v_if_eq (tgt := 111) F dX11_endOf_62 (by decide) (fun h => ?_) (fun h => ?_)
    · rw [if_pos h] at hw
      exact v_loc [0, 1, 2] rfl (sbX11_endOf_111 hR F  hw)
    · rw [if_neg h] at hw
      refine v_aload_n F dX11_endOf_65 rfl 0 rfl ?_
      refine v_aload_n F dX11_endOf_66 rfl 0 rfl ?_
      obtain ⟨kd32, hw⟩ := hw
      refine v_get F fl_X11_94 kd32 rfl dX11_endOf_67 ?_
      refine v_iload_n F dX11_endOf_70 rfl 2 rfl ?_
      refine v_if_ne (tgt := 88) F dX11_endOf_71 (by decide) (fun h => ?_) (fun h => ?_)
      · rw [if_neg h] at hw
        refine v_ldc2 (v := 1000) F wd_1039 dX11_endOf_88 ?_
        refine v_aload_n F dX11_endOf_91 rfl 0 rfl ?_
        obtain ⟨b33, hr34, hw⟩ := hw
        refine v_getS F fl_X11_40 (fun _ => rfl) kd32 hr34 dX11_endOf_92 ?_
        refine v_iload_n F dX11_endOf_95 rfl 1 rfl ?_
        obtain ⟨kd35, hw⟩ := hw
        obtain ⟨hi36, hw⟩ := hw
        refine v_ialdE F rfl kd35 hi36 dX11_endOf_96 ?_
        refine v_i2l F dX11_endOf_97 ?_
        refine v_ladd F dX11_endOf_98 ?_
        exact v_loc [0, 1, 2] rfl (sbX11_endOf_99 hR F  hw)
      · rw [if_pos h] at hw
        refine v_ldc2 (v := 1000) F wd_1039 dX11_endOf_74 ?_
        refine v_aload_n F dX11_endOf_77 rfl 0 rfl ?_
        obtain ⟨b37, hr38, hw⟩ := hw
        refine v_getS F fl_X11_40 (fun _ => rfl) kd32 hr38 dX11_endOf_78 ?_
        refine v_iload_n F dX11_endOf_81 rfl 1 rfl ?_
        obtain ⟨kd39, hw⟩ := hw
        obtain ⟨hi40, hw⟩ := hw
        refine v_ialdE F rfl kd39 hi40 dX11_endOf_82 ?_
        refine v_i2l F dX11_endOf_83 ?_
        refine v_lsub F dX11_endOf_84 ?_
        refine v_goto (tgt := 99) F dX11_endOf_85 (by decide) ?_
        exact v_loc [0, 1, 2] rfl (sbX11_endOf_99 hR F  hw)
  · rw [if_neg h] at hw
    refine v_aload_n F dX11_endOf_26 rfl 0 rfl ?_
    refine v_aload_n F dX11_endOf_27 rfl 0 rfl ?_
    obtain ⟨kd41, hw⟩ := hw
    refine v_get F fl_X11_94 kd41 rfl dX11_endOf_28 ?_
    refine v_ldc2 (v := 1000) F wd_1039 dX11_endOf_31 ?_
    refine v_aload_n F dX11_endOf_34 rfl 0 rfl ?_
    obtain ⟨b42, hr43, hw⟩ := hw
    refine v_getS F fl_X11_40 (fun _ => rfl) kd41 hr43 dX11_endOf_35 ?_
    refine v_iload_n F dX11_endOf_38 rfl 1 rfl ?_
    obtain ⟨kd44, hw⟩ := hw
    obtain ⟨hi45, hw⟩ := hw
    refine v_ialdE F rfl kd44 hi45 dX11_endOf_39 ?_
    refine v_i2l F dX11_endOf_40 ?_
    refine v_ladd F dX11_endOf_41 ?_
    refine v_lmul F dX11_endOf_42 ?_
    refine v_aload_n F dX11_endOf_43 rfl 0 rfl ?_
    refine v_get F fl_X11_98 kd41 rfl dX11_endOf_44 ?_
    refine v_ldc2 (v := 1000) F wd_1039 dX11_endOf_47 ?_
    refine v_lmul F dX11_endOf_50 ?_
    refine v_callv (r_V F lk_X11_186 kd41 (sX11_set hw) (mkRm hR rfl rfl rfl rfl rfl rfl) rfl rfl (Nat.le_of_ble_eq_true rfl) dX11_endOf_51) (fun G47 hw => ?_)
    refine v_goto (tgt := 111) F dX11_endOf_54 (by decide) ?_
    exact v_loc [0, 1, 2] rfl (sbX11_endOf_111 hR F  hw)
set_option maxRecDepth 100000 in
theorem sX11_end {l : Launch} {D : Dx} {a0 : Nat} {p1 : Int32} {p2 : Int32} {p3 : Int32} {G : Wd} {Q : Int64 → Wd → Prop} (hw : wpX11_end a0 p1 p2 p3 G Q) : Met l yX11_end (wM yX11_end cX11_end 4 (some .long)) rmX11_end (PM D [.ref a0, .int p1, .int p2, .int p3] G) (QMl D Q) 0 0 (Ab D) := by
  refine v_met (by decide) (Nat.le_of_ble_eq_true rfl) (fun X hl hR F => ?_)
  subst hl
  have F : Fx X D cX11_end 4 RX11 (some .long) "end" := F
  refine v_cast (L' := [(0, .ref a0), (1, .int p1), (2, .int p2), (3, .int p3)]) rfl rfl ?_
  unfold wpX11_end at hw
  refine v_aload_n F dX11_end_0 rfl 0 rfl ?_
  refine v_iload_n F dX11_end_1 rfl 1 rfl ?_
  obtain ⟨kd1, hw⟩ := hw
  refine v_calli (r_V F lk_X11_169 kd1 (sX11_isOne hw) (mkRm hR rfl rfl rfl rfl rfl rfl) rfl rfl (Nat.le_of_ble_eq_true rfl) dX11_end_2) (fun r2 G3 hw => ?_)
  refine v_if_eq (tgt := 28) F dX11_end_5 (by decide) (fun h => ?_) (fun h => ?_)
  · rw [if_pos h] at hw
    refine v_ldc2 (v := (-9000000000000000001)) F wd_1021 dX11_end_28 ?_
    refine v_widen (c' := 0) (s' := 0) (by decide) (by decide) ?_
    exact v_lret F hw dX11_end_31
  · rw [if_neg h] at hw
    refine v_iload_n F dX11_end_8 rfl 2 rfl ?_
    refine v_i2l F dX11_end_9 ?_
    refine v_lconst (v := 0) F dX11_end_10 rfl ?_
    refine v_lconst (v := 1) F dX11_end_11 rfl ?_
    refine v_calli (r_S F ls_X11_145 (sX11_isIn hw) (mkRm hR rfl rfl rfl rfl rfl rfl) rfl rfl (Nat.le_of_ble_eq_true rfl) dX11_end_12) (fun r4 G5 hw => ?_)
    refine v_if_eq (tgt := 28) F dX11_end_15 (by decide) (fun h => ?_) (fun h => ?_)
    · rw [if_pos h] at hw
      refine v_ldc2 (v := (-9000000000000000001)) F wd_1021 dX11_end_28 ?_
      refine v_widen (c' := 0) (s' := 0) (by decide) (by decide) ?_
      exact v_lret F hw dX11_end_31
    · rw [if_neg h] at hw
      refine v_iload_n F dX11_end_18 rfl 3 rfl ?_
      refine v_i2l F dX11_end_19 ?_
      refine v_lconst (v := 0) F dX11_end_20 rfl ?_
      refine v_lconst (v := 1) F dX11_end_21 rfl ?_
      refine v_calli (r_S F ls_X11_145 (sX11_isIn hw) (mkRm hR rfl rfl rfl rfl rfl rfl) rfl rfl (Nat.le_of_ble_eq_true rfl) dX11_end_22) (fun r6 G7 hw => ?_)
      refine v_if_ne (tgt := 32) F dX11_end_25 (by decide) (fun h => ?_) (fun h => ?_)
      · rw [if_neg h] at hw
        refine v_aload_n F dX11_end_32 rfl 0 rfl ?_
        refine v_iload_n F dX11_end_33 rfl 1 rfl ?_
        refine v_iload_n F dX11_end_34 rfl 2 rfl ?_
        obtain ⟨kd8, hw⟩ := hw
        refine v_callv (r_V F lk_X11_191 kd8 (sX11_endOf hw) (mkRm hR rfl rfl rfl rfl rfl rfl) rfl rfl (Nat.le_of_ble_eq_true rfl) dX11_end_35) (fun G10 hw => ?_)
        refine v_iload_n F dX11_end_38 rfl 3 rfl ?_
        refine v_if_ne (tgt := 49) F dX11_end_39 (by decide) (fun h => ?_) (fun h => ?_)
        · rw [if_neg h] at hw
          refine v_aload_n F dX11_end_49 rfl 0 rfl ?_
          obtain ⟨kd11, hw⟩ := hw
          refine v_get F fl_X11_98 kd11 rfl dX11_end_50 ?_
          refine v_widen (c' := 0) (s' := 0) (by decide) (by decide) ?_
          exact v_lret F hw dX11_end_53
        · rw [if_pos h] at hw
          refine v_aload_n F dX11_end_42 rfl 0 rfl ?_
          obtain ⟨kd12, hw⟩ := hw
          refine v_get F fl_X11_94 kd12 rfl dX11_end_43 ?_
          refine v_goto (tgt := 53) F dX11_end_46 (by decide) ?_
          refine v_widen (c' := 0) (s' := 0) (by decide) (by decide) ?_
          exact v_lret F hw dX11_end_53
      · rw [if_pos h] at hw
        refine v_ldc2 (v := (-9000000000000000001)) F wd_1021 dX11_end_28 ?_
        refine v_widen (c' := 0) (s' := 0) (by decide) (by decide) ?_
        exact v_lret F hw dX11_end_31
set_option maxRecDepth 100000 in
theorem sX11_doesCount {l : Launch} {D : Dx} {a0 : Nat} {p1 : Int32} {p2 : Int32} {p3 : Int32} {G : Wd} {Q : Int32 → Wd → Prop} (hw : wpX11_doesCount a0 p1 p2 p3 G Q) : Met l yX11_doesCount (wM yX11_doesCount cX11_doesCount 4 (some .boolean)) rmX11_doesCount (PM D [.ref a0, .int p1, .int p2, .int p3] G) (QMi D Q) 0 0 (Ab D) := by
  refine v_met (by decide) (Nat.le_of_ble_eq_true rfl) (fun X hl hR F => ?_)
  subst hl
  have F : Fx X D cX11_doesCount 4 RX11 (some .boolean) "doesCount" := F
  refine v_cast (L' := [(0, .ref a0), (1, .int p1), (2, .int p2), (3, .int p3)]) rfl rfl ?_
  unfold wpX11_doesCount at hw
  refine v_aload_n F dX11_doesCount_0 rfl 0 rfl ?_
  obtain ⟨kd1, hw⟩ := hw
  obtain ⟨b2, hr3, hw⟩ := hw
  refine v_getS F fl_X11_43 (fun _ => rfl) kd1 hr3 dX11_doesCount_1 ?_
  refine v_iload_n F dX11_doesCount_4 rfl 1 rfl ?_
  obtain ⟨kd4, hw⟩ := hw
  obtain ⟨hi5, hw⟩ := hw
  refine v_zaldE F rfl kd4 hi5 dX11_doesCount_5 ?_
  refine v_if_ne (tgt := 29) F dX11_doesCount_6 (by decide) (fun h => ?_) (fun h => ?_)
  · rw [if_neg h] at hw
    refine v_iconst (v := 0) F dX11_doesCount_29 (by decide) ?_
    exact v_zret F (Or.inl rfl) hw dX11_doesCount_30
  · rw [if_pos h] at hw
    refine v_iload_n F dX11_doesCount_9 rfl 3 rfl ?_
    refine v_aload_n F dX11_doesCount_10 rfl 0 rfl ?_
    obtain ⟨b6, hr7, hw⟩ := hw
    refine v_getS F fl_X11_31 (fun _ => rfl) kd1 hr7 dX11_doesCount_11 ?_
    refine v_iload_n F dX11_doesCount_14 rfl 1 rfl ?_
    obtain ⟨kd8, hw⟩ := hw
    obtain ⟨hi9, hw⟩ := hw
    refine v_ialdE F rfl kd8 hi9 dX11_doesCount_15 ?_
    refine v_icmp_lt (tgt := 29) F dX11_doesCount_16 (by decide) (fun h => ?_) (fun h => ?_)
    · rw [if_pos h] at hw
      refine v_iconst (v := 0) F dX11_doesCount_29 (by decide) ?_
      exact v_zret F (Or.inl rfl) hw dX11_doesCount_30
    · rw [if_neg h] at hw
      refine v_iload_n F dX11_doesCount_19 rfl 3 rfl ?_
      refine v_aload_n F dX11_doesCount_20 rfl 0 rfl ?_
      obtain ⟨b10, hr11, hw⟩ := hw
      refine v_getS F fl_X11_34 (fun _ => rfl) kd1 hr11 dX11_doesCount_21 ?_
      refine v_iload_n F dX11_doesCount_24 rfl 1 rfl ?_
      obtain ⟨kd12, hw⟩ := hw
      obtain ⟨hi13, hw⟩ := hw
      refine v_ialdE F rfl kd12 hi13 dX11_doesCount_25 ?_
      refine v_icmp_le (tgt := 31) F dX11_doesCount_26 (by decide) (fun h => ?_) (fun h => ?_)
      · rw [if_pos h] at hw
        refine v_aload_n F dX11_doesCount_31 rfl 0 rfl ?_
        obtain ⟨b14, hr15, hw⟩ := hw
        refine v_getS F fl_X11_13 (fun _ => rfl) kd1 hr15 dX11_doesCount_32 ?_
        refine v_iload_n F dX11_doesCount_35 rfl 1 rfl ?_
        obtain ⟨kd16, hw⟩ := hw
        obtain ⟨hi17, hw⟩ := hw
        refine v_ialdE F rfl kd16 hi17 dX11_doesCount_36 ?_
        refine v_iconst (v := 3) F dX11_doesCount_37 (by decide) ?_
        refine v_icmp_ne (tgt := 59) F dX11_doesCount_38 (by decide) (fun h => ?_) (fun h => ?_)
        · rw [if_neg h] at hw
          refine v_aload_n F dX11_doesCount_59 rfl 0 rfl ?_
          refine v_iload_n F dX11_doesCount_60 rfl 2 rfl ?_
          refine v_aload_n F dX11_doesCount_61 rfl 0 rfl ?_
          obtain ⟨b18, hr19, hw⟩ := hw
          refine v_getS F fl_X11_28 (fun _ => rfl) kd1 hr19 dX11_doesCount_62 ?_
          refine v_iload_n F dX11_doesCount_65 rfl 1 rfl ?_
          obtain ⟨kd20, hw⟩ := hw
          obtain ⟨hi21, hw⟩ := hw
          refine v_ialdE F rfl kd20 hi21 dX11_doesCount_66 ?_
          refine v_calli (r_V F lk_X11_155 kd1 (sX11_isWithin hw) (mkRm hR rfl rfl rfl rfl rfl rfl) rfl rfl (Nat.le_of_ble_eq_true rfl) dX11_doesCount_67) (fun r22 G23 hw => ?_)
          refine v_widen (c' := 0) (s' := 0) (by decide) (by decide) ?_
          exact v_zret F hw.1 hw.2 dX11_doesCount_70
        · rw [if_pos h] at hw
          refine v_iload_n F dX11_doesCount_41 rfl 2 rfl ?_
          refine v_aload_n F dX11_doesCount_42 rfl 0 rfl ?_
          obtain ⟨b24, hr25, hw⟩ := hw
          refine v_getS F fl_X11_28 (fun _ => rfl) kd1 hr25 dX11_doesCount_43 ?_
          refine v_iload_n F dX11_doesCount_46 rfl 1 rfl ?_
          obtain ⟨kd26, hw⟩ := hw
          obtain ⟨hi27, hw⟩ := hw
          refine v_ialdE F rfl kd26 hi27 dX11_doesCount_47 ?_
          refine v_icmp_ne (tgt := 55) F dX11_doesCount_48 (by decide) (fun h => ?_) (fun h => ?_)
          · rw [if_neg h] at hw
            refine v_iconst (v := 0) F dX11_doesCount_55 (by decide) ?_
            refine v_goto (tgt := 70) F dX11_doesCount_56 (by decide) ?_
            exact v_zret F (Or.inl rfl) hw dX11_doesCount_70
          · rw [if_pos h] at hw
            refine v_iconst (v := 1) F dX11_doesCount_51 (by decide) ?_
            refine v_goto (tgt := 70) F dX11_doesCount_52 (by decide) ?_
            exact v_zret F (Or.inr rfl) hw dX11_doesCount_70
      · rw [if_neg h] at hw
        refine v_iconst (v := 0) F dX11_doesCount_29 (by decide) ?_
        exact v_zret F (Or.inl rfl) hw dX11_doesCount_30
set_option maxRecDepth 100000 in
theorem sX11_isDay {l : Launch} {D : Dx} {p0 : Int32} {G : Wd} {Q : Int32 → Wd → Prop} (hw : wpX11_isDay p0 G Q) : Met l yX11_isDay (wM yX11_isDay cX11_isDay 1 (some .boolean)) rmX11_isDay (PM D [.int p0] G) (QMi D Q) 0 0 (Ab D) := by
  refine v_met (by decide) (Nat.le_of_ble_eq_true rfl) (fun X hl hR F => ?_)
  subst hl
  have F : Fx X D cX11_isDay 1 RX11 (some .boolean) "isDay" := F
  refine v_cast (L' := [(0, .int p0)]) rfl rfl ?_
  unfold wpX11_isDay at hw
  refine v_iload_n F dX11_isDay_0 rfl 0 rfl ?_
  refine v_i2l F dX11_isDay_1 ?_
  refine v_lconst (v := 0) F dX11_isDay_2 rfl ?_
  refine v_ldc2 (v := 9999) F wd_1049 dX11_isDay_3 ?_
  refine v_calli (r_S F ls_X11_145 (sX11_isIn hw) (mkRm hR rfl rfl rfl rfl rfl rfl) rfl rfl (Nat.le_of_ble_eq_true rfl) dX11_isDay_6) (fun r1 G2 hw => ?_)
  refine v_widen (c' := 0) (s' := 0) (by decide) (by decide) ?_
  exact v_zret F hw.1 hw.2 dX11_isDay_9
set_option maxRecDepth 100000 in
theorem sX11_counts {l : Launch} {D : Dx} {a0 : Nat} {p1 : Int32} {p2 : Int32} {p3 : Int32} {G : Wd} {Q : Int64 → Wd → Prop} (hw : wpX11_counts a0 p1 p2 p3 G Q) : Met l yX11_counts (wM yX11_counts cX11_counts 4 (some .long)) rmX11_counts (PM D [.ref a0, .int p1, .int p2, .int p3] G) (QMl D Q) 0 0 (Ab D) := by
  refine v_met (by decide) (Nat.le_of_ble_eq_true rfl) (fun X hl hR F => ?_)
  subst hl
  have F : Fx X D cX11_counts 4 RX11 (some .long) "counts" := F
  refine v_cast (L' := [(0, .ref a0), (1, .int p1), (2, .int p2), (3, .int p3)]) rfl rfl ?_
  unfold wpX11_counts at hw
  refine v_aload_n F dX11_counts_0 rfl 0 rfl ?_
  refine v_iload_n F dX11_counts_1 rfl 1 rfl ?_
  obtain ⟨kd1, hw⟩ := hw
  refine v_calli (r_V F lk_X11_169 kd1 (sX11_isOne hw) (mkRm hR rfl rfl rfl rfl rfl rfl) rfl rfl (Nat.le_of_ble_eq_true rfl) dX11_counts_2) (fun r2 G3 hw => ?_)
  refine v_if_eq (tgt := 22) F dX11_counts_5 (by decide) (fun h => ?_) (fun h => ?_)
  · rw [if_pos h] at hw
    refine v_ldc2 (v := (-9000000000000000001)) F wd_1021 dX11_counts_22 ?_
    refine v_widen (c' := 0) (s' := 0) (by decide) (by decide) ?_
    exact v_lret F hw dX11_counts_25
  · rw [if_neg h] at hw
    refine v_iload_n F dX11_counts_8 rfl 2 rfl ?_
    refine v_calli (r_S F ls_X11_151 (sX11_isPlace hw) (mkRm hR rfl rfl rfl rfl rfl rfl) rfl rfl (Nat.le_of_ble_eq_true rfl) dX11_counts_9) (fun r4 G5 hw => ?_)
    refine v_if_eq (tgt := 22) F dX11_counts_12 (by decide) (fun h => ?_) (fun h => ?_)
    · rw [if_pos h] at hw
      refine v_ldc2 (v := (-9000000000000000001)) F wd_1021 dX11_counts_22 ?_
      refine v_widen (c' := 0) (s' := 0) (by decide) (by decide) ?_
      exact v_lret F hw dX11_counts_25
    · rw [if_neg h] at hw
      refine v_iload_n F dX11_counts_15 rfl 3 rfl ?_
      refine v_calli (r_S F ls_X11_195 (sX11_isDay hw) (mkRm hR rfl rfl rfl rfl rfl rfl) rfl rfl (Nat.le_of_ble_eq_true rfl) dX11_counts_16) (fun r6 G7 hw => ?_)
      refine v_if_ne (tgt := 26) F dX11_counts_19 (by decide) (fun h => ?_) (fun h => ?_)
      · rw [if_neg h] at hw
        refine v_aload_n F dX11_counts_26 rfl 0 rfl ?_
        refine v_iload_n F dX11_counts_27 rfl 1 rfl ?_
        refine v_iload_n F dX11_counts_28 rfl 2 rfl ?_
        refine v_iload_n F dX11_counts_29 rfl 3 rfl ?_
        obtain ⟨kd8, hw⟩ := hw
        refine v_calli (r_V F lk_X11_198 kd8 (sX11_doesCount hw) (mkRm hR rfl rfl rfl rfl rfl rfl) rfl rfl (Nat.le_of_ble_eq_true rfl) dX11_counts_30) (fun r9 G10 hw => ?_)
        refine v_if_eq (tgt := 40) F dX11_counts_33 (by decide) (fun h => ?_) (fun h => ?_)
        · rw [if_pos h] at hw
          refine v_lconst (v := 0) F dX11_counts_40 rfl ?_
          refine v_widen (c' := 0) (s' := 0) (by decide) (by decide) ?_
          exact v_lret F hw dX11_counts_41
        · rw [if_neg h] at hw
          refine v_lconst (v := 1) F dX11_counts_36 rfl ?_
          refine v_goto (tgt := 41) F dX11_counts_37 (by decide) ?_
          refine v_widen (c' := 0) (s' := 0) (by decide) (by decide) ?_
          exact v_lret F hw dX11_counts_41
      · rw [if_pos h] at hw
        refine v_ldc2 (v := (-9000000000000000001)) F wd_1021 dX11_counts_22 ?_
        refine v_widen (c' := 0) (s' := 0) (by decide) (by decide) ?_
        exact v_lret F hw dX11_counts_25
set_option maxRecDepth 100000 in
theorem sbX11_findCounted_2 {X : Cx} {D : Dx} (hR : X.2.2.2.1 = rmX11_findCounted) (F : Fx X D cX11_findCounted 4 RX11 none "findCounted") {Q : Wd → Prop} : ∀ (n : Nat) (v0 : Nat) (v1 : Int32) (v2 : Int32) (v3 : Int32) (G : Wd), wpX11_findCounted_2 Q  n v0 v1 v2 v3 G → V X D 4 (ZM X D (QMv D Q) 0 0) G 0 0 2 [(0, .ref v0), (1, .int v1), (2, .int v2), (3, .int v3)] [] := by
  intro n
  induction n with
  | zero => intro v0 v1 v2 v3 G hw; exact hw.elim
  | succ n ih =>
    intro v0 v1 v2 v3 G hw
    simp only [wpX11_findCounted_2] at hw
    refine v_iload_n F dX11_findCounted_2 rfl 3 rfl ?_
    refine v_aload_n F dX11_findCounted_3 rfl 0 rfl ?_
    obtain ⟨kd1, hw⟩ := hw
    refine v_get F fl_X11_159 kd1 rfl dX11_findCounted_4 ?_
    refine v_icmp_ge (tgt := 29) F dX11_findCounted_7 (by decide) (fun h => ?_) (fun h => ?_)
    · rw [if_pos h] at hw
      exact v_vret F hw dX11_findCounted_29
    · rw [if_neg h] at hw
      refine v_aload_n F dX11_findCounted_10 rfl 0 rfl ?_
      obtain ⟨b2, hr3, hw⟩ := hw
      refine v_getS F fl_X11_69 (fun _ => rfl) kd1 hr3 dX11_findCounted_11 ?_
      refine v_iload_n F dX11_findCounted_14 rfl 3 rfl ?_
      refine v_aload_n F dX11_findCounted_15 rfl 0 rfl ?_
      refine v_iload_n F dX11_findCounted_16 rfl 3 rfl ?_
      refine v_iload_n F dX11_findCounted_17 rfl 1 rfl ?_
      refine v_iload_n F dX11_findCounted_18 rfl 2 rfl ?_
      refine v_calli (r_V F lk_X11_198 kd1 (sX11_doesCount hw) (mkRm hR rfl rfl rfl rfl rfl rfl) rfl rfl (Nat.le_of_ble_eq_true rfl) dX11_findCounted_19) (fun r4 G5 hw => ?_)
      obtain ⟨kd6, hw⟩ := hw
      obtain ⟨hi7, hw⟩ := hw
      obtain ⟨hB9, hw⟩ := hw
      refine v_zastE F rfl hB9 kd6 hi7 dX11_findCounted_22 (fun G8 hG8 => ?_)
      have hw := hw G8 hG8
      refine v_iincN (c := 1) F dX11_findCounted_23 3 rfl (by decide) (by decide) (fun x10 hx10 => ?_)
      refine v_cast (L' := [(3, .int x10), (0, .ref v0), (1, .int v1), (2, .int v2)]) rfl rfl ?_
      have hw := hw x10 hx10
      refine v_goto (tgt := 2) F dX11_findCounted_26 (by decide) ?_
      exact v_loc [1, 2, 3, 0] rfl (ih _ _ _ _ _ hw)
set_option maxRecDepth 100000 in
theorem sX11_findCounted {l : Launch} {D : Dx} {a0 : Nat} {p1 : Int32} {p2 : Int32} {G : Wd} {Q : Wd → Prop} (hw : wpX11_findCounted a0 p1 p2 G Q) : Met l yX11_findCounted (wM yX11_findCounted cX11_findCounted 4 none) rmX11_findCounted (PM D [.ref a0, .int p1, .int p2] G) (QMv D Q) 0 0 (Ab D) := by
  refine v_met (by decide) (Nat.le_of_ble_eq_true rfl) (fun X hl hR F => ?_)
  subst hl
  have F : Fx X D cX11_findCounted 4 RX11 none "findCounted" := F
  refine v_cast (L' := [(0, .ref a0), (1, .int p1), (2, .int p2)]) rfl rfl ?_
  unfold wpX11_findCounted at hw
  refine v_iconst (v := 0) F dX11_findCounted_0 (by decide) ?_
  refine v_istore_n (L' := [(3, .int 0), (0, .ref a0), (1, .int p1), (2, .int p2)]) F dX11_findCounted_1 rfl (by decide) rfl ?_
  obtain ⟨m, hw⟩ := hw
  exact v_loc [1, 2, 3, 0] rfl (sbX11_findCounted_2 hR F  m _ _ _ _ _ hw)
set_option maxRecDepth 100000 in
theorem sbX11_product_101 {X : Cx} {D : Dx} (hR : X.2.2.2.1 = rmX11_product) (F : Fx X D cX11_product 14 RX11 none "product") {Q : Wd → Prop} {k15 : Nat → Nat → Int32 → Int32 → Int64 → Int64 → Int32 → Wd → Prop} (hk15 : ∀ v0 v1 v2 v3 v4 v6 v8 G, k15 v0 v1 v2 v3 v4 v6 v8 G → V X D 14 (ZM X D (QMv D Q) 0 0) G 0 0 15 [(0, .ref v0), (1, .ref v1), (2, .int v2), (3, .int v3), (4, .long v4), (6, .long v6), (8, .int v8)] []) {v0 : Nat} {v1 : Nat} {v2 : Int32} {v3 : Int32} {v4 : Int64} {v6 : Int64} {v8 : Int32} {v10 : Int64} {s0 : Int64} {G : Wd} (hw : wpX11_product_101 Q k15 v0 v1 v2 v3 v4 v6 v8 v10 s0 G) : V X D 14 (ZM X D (QMv D Q) 0 0) G 0 0 101 [(0, .ref v0), (1, .ref v1), (2, .int v2), (3, .int v3), (4, .long v4), (6, .long v6), (8, .int v8), (10, .long v10)] [.long s0] := by
  unfold wpX11_product_101 at hw
  refine v_lstore (L' := [(12, .long s0), (0, .ref v0), (1, .ref v1), (2, .int v2), (3, .int v3), (4, .long v4), (6, .long v6), (8, .int v8), (10, .long v10)]) F dX11_product_101 (by decide) rfl ?_
  refine v_aload_n F dX11_product_103 rfl 1 rfl ?_
  refine v_lload F dX11_product_104 5 rfl ?_
  obtain ⟨kd1, hw⟩ := hw
  refine v_putJ F fl_X11_94 (fun h => absurd h (by decide)) rfl kd1 dX11_product_106 ?_
  refine v_nmG (fun G2 hG2 => ?_)
  have hw := hw G2 hG2
  refine v_aload_n F dX11_product_109 rfl 1 rfl ?_
  refine v_lload F dX11_product_110 6 rfl ?_
  have kd3 : gK G2 v0 = 11 := by rw [hG2]; exact kd1
  refine v_putJ F fl_X11_98 (fun h => absurd h (by decide)) rfl kd3 dX11_product_112 ?_
  refine v_nmG (fun G4 hG4 => ?_)
  have hw := hw G4 hG4
  refine v_aload_n F dX11_product_115 rfl 1 rfl ?_
  refine v_lload F dX11_product_116 8 rfl ?_
  refine v_lload F dX11_product_118 0 rfl ?_
  have kd5 : gK G4 v0 = 11 := by rw [hG4]; exact kd3
  refine v_callv (r_V F lk_X11_202 kd5 (sX11_times hw) (mkRm hR rfl rfl rfl rfl rfl rfl) rfl rfl (Nat.le_of_ble_eq_true rfl) dX11_product_120) (fun G7 hw => ?_)
  refine v_aload_n F dX11_product_123 rfl 1 rfl ?_
  obtain ⟨kd8, hw⟩ := hw
  refine v_get F fl_X11_94 kd8 rfl dX11_product_124 ?_
  refine v_topl (fun x9 hx9 => ?_)
  have hw := hw x9 hx9
  refine v_lstore (L' := [(4, .long x9), (12, .long s0), (0, .ref v0), (1, .ref v1), (2, .int v2), (3, .int v3), (6, .long v6), (8, .int v8), (10, .long v10)]) F dX11_product_127 (by decide) rfl ?_
  refine v_aload_n F dX11_product_129 rfl 2 rfl ?_
  refine v_get F fl_X11_98 kd8 rfl dX11_product_130 ?_
  refine v_topl (fun x10 hx10 => ?_)
  have hw := hw x10 hx10
  refine v_lstore (L' := [(6, .long x10), (4, .long x9), (12, .long s0), (0, .ref v0), (1, .ref v1), (2, .int v2), (3, .int v3), (8, .int v8), (10, .long v10)]) F dX11_product_133 (by decide) rfl ?_
  refine v_iincN (c := 1) F dX11_product_135 7 rfl (by decide) (by decide) (fun x11 hx11 => ?_)
  refine v_cast (L' := [(8, .int x11), (6, .long x10), (4, .long x9), (12, .long s0), (0, .ref v0), (1, .ref v1), (2, .int v2), (3, .int v3), (10, .long v10)]) rfl rfl ?_
  have hw := hw x11 hx11
  refine v_goto (tgt := 15) F dX11_product_138 (by decide) ?_
  exact v_loc [4, 5, 6, 7, 2, 1, 0] rfl (hk15 _ _ _ _ _ _ _ _ hw)
set_option maxRecDepth 100000 in
theorem sbX11_product_83 {X : Cx} {D : Dx} (hR : X.2.2.2.1 = rmX11_product) (F : Fx X D cX11_product 14 RX11 none "product") {Q : Wd → Prop} {k15 : Nat → Nat → Int32 → Int32 → Int64 → Int64 → Int32 → Wd → Prop} (hk15 : ∀ v0 v1 v2 v3 v4 v6 v8 G, k15 v0 v1 v2 v3 v4 v6 v8 G → V X D 14 (ZM X D (QMv D Q) 0 0) G 0 0 15 [(0, .ref v0), (1, .ref v1), (2, .int v2), (3, .int v3), (4, .long v4), (6, .long v6), (8, .int v8)] []) {v0 : Nat} {v1 : Nat} {v2 : Int32} {v3 : Int32} {v4 : Int64} {v6 : Int64} {v8 : Int32} {v9 : Int32} {s0 : Int64} {G : Wd} (hw : wpX11_product_83 Q k15 v0 v1 v2 v3 v4 v6 v8 v9 s0 G) : V X D 14 (ZM X D (QMv D Q) 0 0) G 0 0 83 [(0, .ref v0), (1, .ref v1), (2, .int v2), (3, .int v3), (4, .long v4), (6, .long v6), (8, .int v8), (9, .int v9)] [.long s0] := by
  unfold wpX11_product_83 at hw
  refine v_lstore (L' := [(10, .long s0), (0, .ref v0), (1, .ref v1), (2, .int v2), (3, .int v3), (4, .long v4), (6, .long v6), (8, .int v8), (9, .int v9)]) F dX11_product_83 (by decide) rfl ?_
  refine v_iload F dX11_product_85 8 rfl ?_
  refine v_if_eq (tgt := 97) F dX11_product_87 (by decide) (fun h => ?_) (fun h => ?_)
  · rw [if_pos h] at hw
    refine v_aload_n F dX11_product_97 rfl 1 rfl ?_
    obtain ⟨kd12, hw⟩ := hw
    refine v_get F fl_X11_98 kd12 rfl dX11_product_98 ?_
    exact v_loc [1, 2, 3, 4, 5, 6, 7, 0] rfl (sbX11_product_101 hR F hk15 hw)
  · rw [if_neg h] at hw
    refine v_aload_n F dX11_product_90 rfl 1 rfl ?_
    obtain ⟨kd13, hw⟩ := hw
    refine v_get F fl_X11_94 kd13 rfl dX11_product_91 ?_
    refine v_goto (tgt := 101) F dX11_product_94 (by decide) ?_
    exact v_loc [1, 2, 3, 4, 5, 6, 7, 0] rfl (sbX11_product_101 hR F hk15 hw)
set_option maxRecDepth 100000 in
theorem sbX11_product_64 {X : Cx} {D : Dx} (hR : X.2.2.2.1 = rmX11_product) (F : Fx X D cX11_product 14 RX11 none "product") {Q : Wd → Prop} {k15 : Nat → Nat → Int32 → Int32 → Int64 → Int64 → Int32 → Wd → Prop} (hk15 : ∀ v0 v1 v2 v3 v4 v6 v8 G, k15 v0 v1 v2 v3 v4 v6 v8 G → V X D 14 (ZM X D (QMv D Q) 0 0) G 0 0 15 [(0, .ref v0), (1, .ref v1), (2, .int v2), (3, .int v3), (4, .long v4), (6, .long v6), (8, .int v8)] []) {v0 : Nat} {v1 : Nat} {v2 : Int32} {v3 : Int32} {v4 : Int64} {v6 : Int64} {v8 : Int32} {v9 : Int32} {s0 : Nat} {s1 : Int32} {s2 : Int32} {G : Wd} (hw : wpX11_product_64 Q k15 v0 v1 v2 v3 v4 v6 v8 v9 s0 s1 s2 G) : V X D 14 (ZM X D (QMv D Q) 0 0) G 0 0 64 [(0, .ref v0), (1, .ref v1), (2, .int v2), (3, .int v3), (4, .long v4), (6, .long v6), (8, .int v8), (9, .int v9)] [.int s2, .int s1, .ref s0] := by
  unfold wpX11_product_64 at hw
  obtain ⟨kd14, hw⟩ := hw
  refine v_callv (r_V F lk_X11_191 kd14 (sX11_endOf hw) (mkRm hR rfl rfl rfl rfl rfl rfl) rfl rfl (Nat.le_of_ble_eq_true rfl) dX11_product_64) (fun G16 hw => ?_)
  refine v_iload F dX11_product_67 7 rfl ?_
  refine v_if_eq (tgt := 79) F dX11_product_69 (by decide) (fun h => ?_) (fun h => ?_)
  · rw [if_pos h] at hw
    refine v_aload_n F dX11_product_79 rfl 0 rfl ?_
    obtain ⟨kd17, hw⟩ := hw
    refine v_get F fl_X11_94 kd17 rfl dX11_product_80 ?_
    exact v_loc [0, 1, 2, 3, 4, 5, 6, 7] rfl (sbX11_product_83 hR F hk15 hw)
  · rw [if_neg h] at hw
    refine v_aload_n F dX11_product_72 rfl 0 rfl ?_
    obtain ⟨kd18, hw⟩ := hw
    refine v_get F fl_X11_98 kd18 rfl dX11_product_73 ?_
    refine v_goto (tgt := 83) F dX11_product_76 (by decide) ?_
    exact v_loc [0, 1, 2, 3, 4, 5, 6, 7] rfl (sbX11_product_83 hR F hk15 hw)
set_option maxRecDepth 100000 in
theorem sbX11_product_42 {X : Cx} {D : Dx} (hR : X.2.2.2.1 = rmX11_product) (F : Fx X D cX11_product 14 RX11 none "product") {Q : Wd → Prop} {k15 : Nat → Nat → Int32 → Int32 → Int64 → Int64 → Int32 → Wd → Prop} (hk15 : ∀ v0 v1 v2 v3 v4 v6 v8 G, k15 v0 v1 v2 v3 v4 v6 v8 G → V X D 14 (ZM X D (QMv D Q) 0 0) G 0 0 15 [(0, .ref v0), (1, .ref v1), (2, .int v2), (3, .int v3), (4, .long v4), (6, .long v6), (8, .int v8)] []) {v0 : Nat} {v1 : Nat} {v2 : Int32} {v3 : Int32} {v4 : Int64} {v6 : Int64} {v8 : Int32} {s0 : Int32} {G : Wd} (hw : wpX11_product_42 Q k15 v0 v1 v2 v3 v4 v6 v8 s0 G) : V X D 14 (ZM X D (QMv D Q) 0 0) G 0 0 42 [(0, .ref v0), (1, .ref v1), (2, .int v2), (3, .int v3), (4, .long v4), (6, .long v6), (8, .int v8)] [.int s0] := by
  unfold wpX11_product_42 at hw
  refine v_istore (L' := [(9, .int s0), (0, .ref v0), (1, .ref v1), (2, .int v2), (3, .int v3), (4, .long v4), (6, .long v6), (8, .int v8)]) F dX11_product_42 (by decide) rfl ?_
  refine v_aload_n F dX11_product_44 rfl 1 rfl ?_
  refine v_aload_n F dX11_product_45 rfl 2 rfl ?_
  refine v_iload F dX11_product_46 7 rfl ?_
  obtain ⟨kd19, hw⟩ := hw
  obtain ⟨hi20, hw⟩ := hw
  refine v_ialdE F rfl kd19 hi20 dX11_product_48 ?_
  refine v_bipush (v := 100) F dX11_product_49 (by decide) ?_
  refine v_iremE F dX11_product_51 (by decide) ?_
  refine v_iload F dX11_product_52 0 rfl ?_
  refine v_if_eq (tgt := 63) F dX11_product_54 (by decide) (fun h => ?_) (fun h => ?_)
  · rw [if_pos h] at hw
    refine v_iload_n F dX11_product_63 rfl 4 rfl ?_
    exact v_loc [1, 2, 3, 4, 5, 6, 7, 0] rfl (sbX11_product_64 hR F hk15 hw)
  · rw [if_neg h] at hw
    refine v_iconst (v := 1) F dX11_product_57 (by decide) ?_
    refine v_iload_n F dX11_product_58 rfl 4 rfl ?_
    refine v_isub F dX11_product_59 ?_
    refine v_goto (tgt := 64) F dX11_product_60 (by decide) ?_
    exact v_loc [1, 2, 3, 4, 5, 6, 7, 0] rfl (sbX11_product_64 hR F hk15 hw)
set_option maxRecDepth 100000 in
theorem sbX11_product_15 {X : Cx} {D : Dx} (hR : X.2.2.2.1 = rmX11_product) (F : Fx X D cX11_product 14 RX11 none "product") {Q : Wd → Prop} : ∀ (n : Nat) (v0 : Nat) (v1 : Nat) (v2 : Int32) (v3 : Int32) (v4 : Int64) (v6 : Int64) (v8 : Int32) (G : Wd), wpX11_product_15 Q  n v0 v1 v2 v3 v4 v6 v8 G → V X D 14 (ZM X D (QMv D Q) 0 0) G 0 0 15 [(0, .ref v0), (1, .ref v1), (2, .int v2), (3, .int v3), (4, .long v4), (6, .long v6), (8, .int v8)] [] := by
  intro n
  induction n with
  | zero => intro v0 v1 v2 v3 v4 v6 v8 G hw; exact hw.elim
  | succ n ih =>
    intro v0 v1 v2 v3 v4 v6 v8 G hw
    simp only [wpX11_product_15] at hw
    refine v_iload F dX11_product_15 6 rfl ?_
    refine v_iload_n F dX11_product_17 rfl 2 rfl ?_
    refine v_icmp_ge (tgt := 141) F dX11_product_18 (by decide) (fun h => ?_) (fun h => ?_)
    · rw [if_pos h] at hw
      exact v_vret F hw dX11_product_141
    · rw [if_neg h] at hw
      refine v_aload_n F dX11_product_21 rfl 0 rfl ?_
      obtain ⟨kd21, hw⟩ := hw
      refine v_get F fl_X11_103 kd21 rfl dX11_product_22 ?_
      refine v_if_ne (tgt := 141) F dX11_product_25 (by decide) (fun h => ?_) (fun h => ?_)
      · rw [if_neg h] at hw
        exact v_vret F hw dX11_product_141
      · rw [if_pos h] at hw
        refine v_aload_n F dX11_product_28 rfl 1 rfl ?_
        refine v_iload F dX11_product_29 6 rfl ?_
        obtain ⟨kd22, hw⟩ := hw
        obtain ⟨hi23, hw⟩ := hw
        refine v_ialdE F rfl kd22 hi23 dX11_product_31 ?_
        refine v_bipush (v := 100) F dX11_product_32 (by decide) ?_
        refine v_icmp_lt (tgt := 41) F dX11_product_34 (by decide) (fun h => ?_) (fun h => ?_)
        · rw [if_pos h] at hw
          refine v_iconst (v := 0) F dX11_product_41 (by decide) ?_
          exact v_loc [0, 1, 2, 3, 4, 5, 6] rfl (sbX11_product_42 hR F ih hw)
        · rw [if_neg h] at hw
          refine v_iconst (v := 1) F dX11_product_37 (by decide) ?_
          refine v_goto (tgt := 42) F dX11_product_38 (by decide) ?_
          exact v_loc [0, 1, 2, 3, 4, 5, 6] rfl (sbX11_product_42 hR F ih hw)
set_option maxRecDepth 100000 in
theorem sX11_product {l : Launch} {D : Dx} {a0 : Nat} {a1 : Nat} {p2 : Int32} {p3 : Int32} {G : Wd} {Q : Wd → Prop} (hw : wpX11_product a0 a1 p2 p3 G Q) : Met l yX11_product (wM yX11_product cX11_product 14 none) rmX11_product (PM D [.ref a0, .ref a1, .int p2, .int p3] G) (QMv D Q) 0 0 (Ab D) := by
  refine v_met (by decide) (Nat.le_of_ble_eq_true rfl) (fun X hl hR F => ?_)
  subst hl
  have F : Fx X D cX11_product 14 RX11 none "product" := F
  refine v_cast (L' := [(0, .ref a0), (1, .ref a1), (2, .int p2), (3, .int p3)]) rfl rfl ?_
  unfold wpX11_product at hw
  refine v_aload_n F dX11_product_0 rfl 0 rfl ?_
  refine v_lconst (v := 1) F dX11_product_1 rfl ?_
  refine v_lconst (v := 1) F dX11_product_2 rfl ?_
  obtain ⟨kd24, hw⟩ := hw
  refine v_callv (r_V F lk_X11_186 kd24 (sX11_set hw) (mkRm hR rfl rfl rfl rfl rfl rfl) rfl rfl (Nat.le_of_ble_eq_true rfl) dX11_product_3) (fun G26 hw => ?_)
  refine v_lconst (v := 1) F dX11_product_6 rfl ?_
  refine v_lstore (L' := [(4, .long 1), (0, .ref a0), (1, .ref a1), (2, .int p2), (3, .int p3)]) F dX11_product_7 (by decide) rfl ?_
  refine v_lconst (v := 1) F dX11_product_9 rfl ?_
  refine v_lstore (L' := [(6, .long 1), (4, .long 1), (0, .ref a0), (1, .ref a1), (2, .int p2), (3, .int p3)]) F dX11_product_10 (by decide) rfl ?_
  refine v_iconst (v := 0) F dX11_product_12 (by decide) ?_
  refine v_istore (L' := [(8, .int 0), (6, .long 1), (4, .long 1), (0, .ref a0), (1, .ref a1), (2, .int p2), (3, .int p3)]) F dX11_product_13 (by decide) rfl ?_
  obtain ⟨m, hw⟩ := hw
  exact v_loc [3, 4, 5, 6, 2, 1, 0] rfl (sbX11_product_15 hR F  m _ _ _ _ _ _ _ _ hw)
set_option maxRecDepth 100000 in
theorem sbX11_widen_118 {X : Cx} {D : Dx} (hR : X.2.2.2.1 = rmX11_widen) (F : Fx X D cX11_widen 1 RX11 none "widen") {Q : Wd → Prop} {v0 : Nat} {G : Wd} (hw : wpX11_widen_118 Q  v0 G) : V X D 1 (ZM X D (QMv D Q) 0 0) G 0 0 118 [(0, .ref v0)] [] := by
  unfold wpX11_widen_118 at hw
  refine v_aload_n F dX11_widen_118 rfl 0 rfl ?_
  refine v_iconst (v := 1) F dX11_widen_119 (by decide) ?_
  obtain ⟨kd1, hw⟩ := hw
  refine v_putZ F fl_X11_212 (fun h => absurd h (by decide)) rfl (Or.inr rfl) kd1 dX11_widen_120 ?_
  refine v_nmG (fun G2 hG2 => ?_)
  have hw := hw G2 hG2
  exact v_vret F hw dX11_widen_123
set_option maxRecDepth 100000 in
theorem sbX11_widen_102 {X : Cx} {D : Dx} (hR : X.2.2.2.1 = rmX11_widen) (F : Fx X D cX11_widen 1 RX11 none "widen") {Q : Wd → Prop} {v0 : Nat} {G : Wd} (hw : wpX11_widen_102 Q  v0 G) : V X D 1 (ZM X D (QMv D Q) 0 0) G 0 0 102 [(0, .ref v0)] [] := by
  unfold wpX11_widen_102 at hw
  refine v_aload_n F dX11_widen_102 rfl 0 rfl ?_
  refine v_aload_n F dX11_widen_103 rfl 0 rfl ?_
  obtain ⟨kd3, hw⟩ := hw
  refine v_get F fl_X11_94 kd3 rfl dX11_widen_104 ?_
  refine v_putJ F fl_X11_225 (fun h => absurd h (by decide)) rfl kd3 dX11_widen_107 ?_
  refine v_nmG (fun G4 hG4 => ?_)
  have hw := hw G4 hG4
  refine v_aload_n F dX11_widen_110 rfl 0 rfl ?_
  refine v_aload_n F dX11_widen_111 rfl 0 rfl ?_
  have kd5 : gK G4 v0 = 11 := by rw [hG4]; exact kd3
  refine v_get F fl_X11_98 kd5 rfl dX11_widen_112 ?_
  refine v_putJ F fl_X11_228 (fun h => absurd h (by decide)) rfl kd5 dX11_widen_115 ?_
  refine v_nmG (fun G6 hG6 => ?_)
  have hw := hw G6 hG6
  exact v_loc [0] rfl (sbX11_widen_118 hR F  hw)
set_option maxRecDepth 100000 in
theorem sbX11_widen_59 {X : Cx} {D : Dx} (hR : X.2.2.2.1 = rmX11_widen) (F : Fx X D cX11_widen 1 RX11 none "widen") {Q : Wd → Prop} {v0 : Nat} {G : Wd} (hw : wpX11_widen_59 Q  v0 G) : V X D 1 (ZM X D (QMv D Q) 0 0) G 0 0 59 [(0, .ref v0)] [] := by
  unfold wpX11_widen_59 at hw
  refine v_aload_n F dX11_widen_59 rfl 0 rfl ?_
  refine v_aload_n F dX11_widen_60 rfl 0 rfl ?_
  obtain ⟨kd7, hw⟩ := hw
  obtain ⟨b8, hr9, hw⟩ := hw
  refine v_getS F fl_X11_75 (fun _ => rfl) kd7 hr9 dX11_widen_61 ?_
  refine v_aload_n F dX11_widen_64 rfl 0 rfl ?_
  refine v_get F fl_X11_205 kd7 rfl dX11_widen_65 ?_
  refine v_iconst (v := 1) F dX11_widen_68 (by decide) ?_
  refine v_callv (r_V F lk_X11_208 kd7 (sX11_product hw) (mkRm hR rfl rfl rfl rfl rfl rfl) rfl rfl (Nat.le_of_ble_eq_true rfl) dX11_widen_69) (fun G11 hw => ?_)
  refine v_aload_n F dX11_widen_72 rfl 0 rfl ?_
  obtain ⟨kd12, hw⟩ := hw
  refine v_get F fl_X11_212 kd12 rfl dX11_widen_73 ?_
  refine v_if_eq (tgt := 102) F dX11_widen_76 (by decide) (fun h => ?_) (fun h => ?_)
  · rw [if_pos h] at hw
    exact v_loc [0] rfl (sbX11_widen_102 hR F  hw)
  · rw [if_neg h] at hw
    refine v_aload_n F dX11_widen_79 rfl 0 rfl ?_
    refine v_aload_n F dX11_widen_80 rfl 0 rfl ?_
    refine v_get F fl_X11_225 kd12 rfl dX11_widen_81 ?_
    refine v_aload_n F dX11_widen_84 rfl 0 rfl ?_
    refine v_get F fl_X11_228 kd12 rfl dX11_widen_85 ?_
    refine v_aload_n F dX11_widen_88 rfl 0 rfl ?_
    refine v_get F fl_X11_94 kd12 rfl dX11_widen_89 ?_
    refine v_aload_n F dX11_widen_92 rfl 0 rfl ?_
    refine v_get F fl_X11_98 kd12 rfl dX11_widen_93 ?_
    refine v_calli (r_V F lk_X11_221 kd12 (sX11_isLess hw) (mkRm hR rfl rfl rfl rfl rfl rfl) rfl rfl (Nat.le_of_ble_eq_true rfl) dX11_widen_96) (fun r13 G14 hw => ?_)
    refine v_if_eq (tgt := 118) F dX11_widen_99 (by decide) (fun h => ?_) (fun h => ?_)
    · rw [if_pos h] at hw
      exact v_loc [0] rfl (sbX11_widen_118 hR F  hw)
    · rw [if_neg h] at hw
      exact v_loc [0] rfl (sbX11_widen_102 hR F  hw)
set_option maxRecDepth 100000 in
theorem sbX11_widen_43 {X : Cx} {D : Dx} (hR : X.2.2.2.1 = rmX11_widen) (F : Fx X D cX11_widen 1 RX11 none "widen") {Q : Wd → Prop} {v0 : Nat} {G : Wd} (hw : wpX11_widen_43 Q  v0 G) : V X D 1 (ZM X D (QMv D Q) 0 0) G 0 0 43 [(0, .ref v0)] [] := by
  unfold wpX11_widen_43 at hw
  refine v_aload_n F dX11_widen_43 rfl 0 rfl ?_
  refine v_aload_n F dX11_widen_44 rfl 0 rfl ?_
  obtain ⟨kd15, hw⟩ := hw
  refine v_get F fl_X11_94 kd15 rfl dX11_widen_45 ?_
  refine v_putJ F fl_X11_215 (fun h => absurd h (by decide)) rfl kd15 dX11_widen_48 ?_
  refine v_nmG (fun G16 hG16 => ?_)
  have hw := hw G16 hG16
  refine v_aload_n F dX11_widen_51 rfl 0 rfl ?_
  refine v_aload_n F dX11_widen_52 rfl 0 rfl ?_
  have kd17 : gK G16 v0 = 11 := by rw [hG16]; exact kd15
  refine v_get F fl_X11_98 kd17 rfl dX11_widen_53 ?_
  refine v_putJ F fl_X11_218 (fun h => absurd h (by decide)) rfl kd17 dX11_widen_56 ?_
  refine v_nmG (fun G18 hG18 => ?_)
  have hw := hw G18 hG18
  exact v_loc [0] rfl (sbX11_widen_59 hR F  hw)
set_option maxRecDepth 100000 in
theorem sX11_widen {l : Launch} {D : Dx} {a0 : Nat} {G : Wd} {Q : Wd → Prop} (hw : wpX11_widen a0 G Q) : Met l yX11_widen (wM yX11_widen cX11_widen 1 none) rmX11_widen (PM D [.ref a0] G) (QMv D Q) 0 0 (Ab D) := by
  refine v_met (by decide) (Nat.le_of_ble_eq_true rfl) (fun X hl hR F => ?_)
  subst hl
  have F : Fx X D cX11_widen 1 RX11 none "widen" := F
  refine v_cast (L' := [(0, .ref a0)]) rfl rfl ?_
  unfold wpX11_widen at hw
  refine v_aload_n F dX11_widen_0 rfl 0 rfl ?_
  refine v_aload_n F dX11_widen_1 rfl 0 rfl ?_
  obtain ⟨kd19, hw⟩ := hw
  obtain ⟨b20, hr21, hw⟩ := hw
  refine v_getS F fl_X11_75 (fun _ => rfl) kd19 hr21 dX11_widen_2 ?_
  refine v_aload_n F dX11_widen_5 rfl 0 rfl ?_
  refine v_get F fl_X11_205 kd19 rfl dX11_widen_6 ?_
  refine v_iconst (v := 0) F dX11_widen_9 (by decide) ?_
  refine v_callv (r_V F lk_X11_208 kd19 (sX11_product hw) (mkRm hR rfl rfl rfl rfl rfl rfl) rfl rfl (Nat.le_of_ble_eq_true rfl) dX11_widen_10) (fun G23 hw => ?_)
  refine v_aload_n F dX11_widen_13 rfl 0 rfl ?_
  obtain ⟨kd24, hw⟩ := hw
  refine v_get F fl_X11_212 kd24 rfl dX11_widen_14 ?_
  refine v_if_eq (tgt := 43) F dX11_widen_17 (by decide) (fun h => ?_) (fun h => ?_)
  · rw [if_pos h] at hw
    exact v_loc [0] rfl (sbX11_widen_43 hR F  hw)
  · rw [if_neg h] at hw
    refine v_aload_n F dX11_widen_20 rfl 0 rfl ?_
    refine v_aload_n F dX11_widen_21 rfl 0 rfl ?_
    refine v_get F fl_X11_94 kd24 rfl dX11_widen_22 ?_
    refine v_aload_n F dX11_widen_25 rfl 0 rfl ?_
    refine v_get F fl_X11_98 kd24 rfl dX11_widen_26 ?_
    refine v_aload_n F dX11_widen_29 rfl 0 rfl ?_
    refine v_get F fl_X11_215 kd24 rfl dX11_widen_30 ?_
    refine v_aload_n F dX11_widen_33 rfl 0 rfl ?_
    refine v_get F fl_X11_218 kd24 rfl dX11_widen_34 ?_
    refine v_calli (r_V F lk_X11_221 kd24 (sX11_isLess hw) (mkRm hR rfl rfl rfl rfl rfl rfl) rfl rfl (Nat.le_of_ble_eq_true rfl) dX11_widen_37) (fun r25 G26 hw => ?_)
    refine v_if_eq (tgt := 59) F dX11_widen_40 (by decide) (fun h => ?_) (fun h => ?_)
    · rw [if_pos h] at hw
      exact v_loc [0] rfl (sbX11_widen_59 hR F  hw)
    · rw [if_neg h] at hw
      exact v_loc [0] rfl (sbX11_widen_43 hR F  hw)
set_option maxRecDepth 100000 in
theorem sbX11_isMet_2 {X : Cx} {D : Dx} (hR : X.2.2.2.1 = rmX11_isMet) (F : Fx X D cX11_isMet 4 RX11 (some .boolean) "isMet") {Q : Int32 → Wd → Prop} : ∀ (n : Nat) (v0 : Nat) (v1 : Int32) (v2 : Int32) (v3 : Int32) (G : Wd), wpX11_isMet_2 Q  n v0 v1 v2 v3 G → V X D 4 (ZM X D (QMi D Q) 0 0) G 0 0 2 [(0, .ref v0), (1, .int v1), (2, .int v2), (3, .int v3)] [] := by
  intro n
  induction n with
  | zero => intro v0 v1 v2 v3 G hw; exact hw.elim
  | succ n ih =>
    intro v0 v1 v2 v3 G hw
    simp only [wpX11_isMet_2] at hw
    refine v_iload_n F dX11_isMet_2 rfl 3 rfl ?_
    refine v_iload_n F dX11_isMet_3 rfl 1 rfl ?_
    refine v_icmp_gt (tgt := 25) F dX11_isMet_4 (by decide) (fun h => ?_) (fun h => ?_)
    · rw [if_pos h] at hw
      refine v_iconst (v := 0) F dX11_isMet_25 (by decide) ?_
      exact v_zret F (Or.inl rfl) hw dX11_isMet_26
    · rw [if_neg h] at hw
      refine v_aload_n F dX11_isMet_7 rfl 0 rfl ?_
      obtain ⟨kd1, hw⟩ := hw
      obtain ⟨b2, hr3, hw⟩ := hw
      refine v_getS F fl_X11_72 (fun _ => rfl) kd1 hr3 dX11_isMet_8 ?_
      refine v_iload_n F dX11_isMet_11 rfl 3 rfl ?_
      obtain ⟨kd4, hw⟩ := hw
      obtain ⟨hi5, hw⟩ := hw
      refine v_ialdE F rfl kd4 hi5 dX11_isMet_12 ?_
      refine v_iload_n F dX11_isMet_13 rfl 2 rfl ?_
      refine v_icmp_ne (tgt := 19) F dX11_isMet_14 (by decide) (fun h => ?_) (fun h => ?_)
      · rw [if_neg h] at hw
        refine v_iincN (c := 1) F dX11_isMet_19 3 rfl (by decide) (by decide) (fun x6 hx6 => ?_)
        refine v_cast (L' := [(3, .int x6), (0, .ref v0), (1, .int v1), (2, .int v2)]) rfl rfl ?_
        have hw := hw x6 hx6
        refine v_goto (tgt := 2) F dX11_isMet_22 (by decide) ?_
        exact v_loc [1, 2, 3, 0] rfl (ih _ _ _ _ _ hw)
      · rw [if_pos h] at hw
        refine v_iconst (v := 1) F dX11_isMet_17 (by decide) ?_
        exact v_zret F (Or.inr rfl) hw dX11_isMet_18
set_option maxRecDepth 100000 in
theorem sX11_isMet {l : Launch} {D : Dx} {a0 : Nat} {p1 : Int32} {p2 : Int32} {G : Wd} {Q : Int32 → Wd → Prop} (hw : wpX11_isMet a0 p1 p2 G Q) : Met l yX11_isMet (wM yX11_isMet cX11_isMet 4 (some .boolean)) rmX11_isMet (PM D [.ref a0, .int p1, .int p2] G) (QMi D Q) 0 0 (Ab D) := by
  refine v_met (by decide) (Nat.le_of_ble_eq_true rfl) (fun X hl hR F => ?_)
  subst hl
  have F : Fx X D cX11_isMet 4 RX11 (some .boolean) "isMet" := F
  refine v_cast (L' := [(0, .ref a0), (1, .int p1), (2, .int p2)]) rfl rfl ?_
  unfold wpX11_isMet at hw
  refine v_iconst (v := 0) F dX11_isMet_0 (by decide) ?_
  refine v_istore_n (L' := [(3, .int 0), (0, .ref a0), (1, .int p1), (2, .int p2)]) F dX11_isMet_1 rfl (by decide) rfl ?_
  obtain ⟨m, hw⟩ := hw
  exact v_loc [1, 2, 3, 0] rfl (sbX11_isMet_2 hR F  m _ _ _ _ _ hw)
set_option maxRecDepth 100000 in
theorem sbX11_go_256 {X : Cx} {D : Dx} {d : Nat} (hR : X.2.2.2.1 = rmX11_go (d + 1)) (F : Fx X D cX11_go 6 RX11 none "go") {Q : Wd → Prop} {rec : Nat → Int32 → Int32 → Wd → (Wd → Prop) → Prop} (hrec : ∀ (a0 : Nat) (p1 : Int32) (p2 : Int32) (G : Wd) (Q : Wd → Prop), rec a0 p1 p2 G Q → Met X.2.1 yX11_go (wM yX11_go cX11_go 6 none) (rmX11_go d) (PM D [.ref a0, .int p1, .int p2] G) (QMv D Q) 0 0 (Ab D)) (hRr : Rm X 0 0 6 0 0 (rmX11_go d)) {k103 : Nat → Int32 → Int32 → Int32 → Wd → Prop} (hk103 : ∀ v0 v1 v2 v3 G, k103 v0 v1 v2 v3 G → V X D 6 (ZM X D (QMv D Q) 0 0) G 0 0 103 [(0, .ref v0), (1, .int v1), (2, .int v2), (3, .int v3)] []) {v0 : Nat} {v1 : Int32} {v2 : Int32} {v3 : Int32} {G : Wd} (hw : wpX11_go_256 rec Q k103 v0 v1 v2 v3 G) : V X D 6 (ZM X D (QMv D Q) 0 0) G 0 0 256 [(0, .ref v0), (1, .int v1), (2, .int v2), (3, .int v3)] [] := by
  unfold wpX11_go_256 at hw
  refine v_iincN (c := 1) F dX11_go_256 3 rfl (by decide) (by decide) (fun x1 hx1 => ?_)
  refine v_cast (L' := [(3, .int x1), (0, .ref v0), (1, .int v1), (2, .int v2)]) rfl rfl ?_
  have hw := hw x1 hx1
  refine v_goto (tgt := 103) F dX11_go_259 (by decide) ?_
  exact v_loc [1, 2, 3, 0] rfl (hk103 _ _ _ _ _ hw)
set_option maxRecDepth 100000 in
theorem sbX11_go_237 {X : Cx} {D : Dx} {d : Nat} (hR : X.2.2.2.1 = rmX11_go (d + 1)) (F : Fx X D cX11_go 6 RX11 none "go") {Q : Wd → Prop} {rec : Nat → Int32 → Int32 → Wd → (Wd → Prop) → Prop} (hrec : ∀ (a0 : Nat) (p1 : Int32) (p2 : Int32) (G : Wd) (Q : Wd → Prop), rec a0 p1 p2 G Q → Met X.2.1 yX11_go (wM yX11_go cX11_go 6 none) (rmX11_go d) (PM D [.ref a0, .int p1, .int p2] G) (QMv D Q) 0 0 (Ab D)) (hRr : Rm X 0 0 6 0 0 (rmX11_go d)) {k103 : Nat → Int32 → Int32 → Int32 → Wd → Prop} (hk103 : ∀ v0 v1 v2 v3 G, k103 v0 v1 v2 v3 G → V X D 6 (ZM X D (QMv D Q) 0 0) G 0 0 103 [(0, .ref v0), (1, .int v1), (2, .int v2), (3, .int v3)] []) {v0 : Nat} {v1 : Int32} {v2 : Int32} {v3 : Int32} {v5 : Int32} {s0 : Nat} {s1 : Int32} {s2 : Int32} {G : Wd} (hw : wpX11_go_237 rec Q k103 v0 v1 v2 v3 v5 s0 s1 s2 G) : V X D 6 (ZM X D (QMv D Q) 0 0) G 0 0 237 [(0, .ref v0), (1, .int v1), (2, .int v2), (3, .int v3), (5, .int v5)] [.int s2, .int s1, .ref s0] := by
  unfold wpX11_go_237 at hw
  obtain ⟨kd2, hw⟩ := hw
  obtain ⟨hi3, hw⟩ := hw
  refine v_iastE F rfl kd2 hi3 dX11_go_237 (fun G4 hG4 => ?_)
  have hw := hw G4 hG4
  refine v_aload_n F dX11_go_238 rfl 0 rfl ?_
  obtain ⟨kd5, hw⟩ := hw
  obtain ⟨b6, hr7, hw⟩ := hw
  refine v_getS F fl_X11_72 (fun _ => rfl) kd5 hr7 dX11_go_239 ?_
  refine v_iload_n F dX11_go_242 rfl 1 rfl ?_
  refine v_iconst (v := 1) F dX11_go_243 (by decide) ?_
  refine v_iadd F dX11_go_244 ?_
  refine v_iload F dX11_go_245 4 rfl ?_
  obtain ⟨kd8, hw⟩ := hw
  obtain ⟨hi9, hw⟩ := hw
  refine v_iastE F rfl kd8 hi9 dX11_go_247 (fun G10 hG10 => ?_)
  have hw := hw G10 hG10
  refine v_aload_n F dX11_go_248 rfl 0 rfl ?_
  refine v_iload_n F dX11_go_249 rfl 1 rfl ?_
  refine v_iconst (v := 1) F dX11_go_250 (by decide) ?_
  refine v_iadd F dX11_go_251 ?_
  refine v_iload_n F dX11_go_252 rfl 2 rfl ?_
  have kd11 : gK G10 v0 = 11 := by rw [hG10]; exact kd5
  refine v_callv (r_V F lk_X11_252 kd11 (hrec _ _ _ _ _ hw) hRr rfl rfl (Nat.le_of_ble_eq_true rfl) dX11_go_253) (fun G13 hw => ?_)
  exact v_loc [0, 1, 2, 3] rfl (sbX11_go_256 hR F hrec hRr hk103 hw)
set_option maxRecDepth 100000 in
theorem sbX11_go_207 {X : Cx} {D : Dx} {d : Nat} (hR : X.2.2.2.1 = rmX11_go (d + 1)) (F : Fx X D cX11_go 6 RX11 none "go") {Q : Wd → Prop} {rec : Nat → Int32 → Int32 → Wd → (Wd → Prop) → Prop} (hrec : ∀ (a0 : Nat) (p1 : Int32) (p2 : Int32) (G : Wd) (Q : Wd → Prop), rec a0 p1 p2 G Q → Met X.2.1 yX11_go (wM yX11_go cX11_go 6 none) (rmX11_go d) (PM D [.ref a0, .int p1, .int p2] G) (QMv D Q) 0 0 (Ab D)) (hRr : Rm X 0 0 6 0 0 (rmX11_go d)) {k103 : Nat → Int32 → Int32 → Int32 → Wd → Prop} (hk103 : ∀ v0 v1 v2 v3 G, k103 v0 v1 v2 v3 G → V X D 6 (ZM X D (QMv D Q) 0 0) G 0 0 103 [(0, .ref v0), (1, .int v1), (2, .int v2), (3, .int v3)] []) {v0 : Nat} {v1 : Int32} {v2 : Int32} {v3 : Int32} {v4 : Int32} {s0 : Int32} {G : Wd} (hw : wpX11_go_207 rec Q k103 v0 v1 v2 v3 v4 s0 G) : V X D 6 (ZM X D (QMv D Q) 0 0) G 0 0 207 [(0, .ref v0), (1, .int v1), (2, .int v2), (3, .int v3), (4, .int v4)] [.int s0] := by
  unfold wpX11_go_207 at hw
  refine v_istore (L' := [(5, .int s0), (0, .ref v0), (1, .int v1), (2, .int v2), (3, .int v3), (4, .int v4)]) F dX11_go_207 (by decide) rfl ?_
  refine v_aload_n F dX11_go_209 rfl 1 rfl ?_
  refine v_iload_n F dX11_go_210 rfl 2 rfl ?_
  refine v_iload F dX11_go_211 0 rfl ?_
  obtain ⟨kd14, hw⟩ := hw
  refine v_calli (r_V F lk_X11_249 kd14 (sX11_isMet hw) (mkRm2 hR rfl rfl (by simp [rmX11_isMet, rmX11_go]; try omega) (by simp [rmX11_isMet, rmX11_go]; try omega) (Nat.le_of_ble_eq_true rfl) (Nat.le_of_ble_eq_true rfl)) rfl rfl (Nat.le_of_ble_eq_true rfl) dX11_go_213) (fun r15 G16 hw => ?_)
  refine v_if_ne (tgt := 256) F dX11_go_216 (by decide) (fun h => ?_) (fun h => ?_)
  · rw [if_neg h] at hw
    exact v_loc [1, 2, 3, 4] rfl (sbX11_go_256 hR F hrec hRr hk103 hw)
  · rw [if_pos h] at hw
    refine v_aload_n F dX11_go_219 rfl 1 rfl ?_
    obtain ⟨kd17, hw⟩ := hw
    obtain ⟨b18, hr19, hw⟩ := hw
    refine v_getS F fl_X11_75 (fun _ => rfl) kd17 hr19 dX11_go_220 ?_
    refine v_iload_n F dX11_go_223 rfl 2 rfl ?_
    refine v_iload F dX11_go_224 5 rfl ?_
    refine v_if_eq (tgt := 236) F dX11_go_226 (by decide) (fun h => ?_) (fun h => ?_)
    · rw [if_pos h] at hw
      refine v_iload_n F dX11_go_236 rfl 4 rfl ?_
      exact v_loc [1, 2, 3, 4, 0] rfl (sbX11_go_237 hR F hrec hRr hk103 hw)
    · rw [if_neg h] at hw
      refine v_bipush (v := 100) F dX11_go_229 (by decide) ?_
      refine v_iload_n F dX11_go_231 rfl 4 rfl ?_
      refine v_iadd F dX11_go_232 ?_
      refine v_goto (tgt := 237) F dX11_go_233 (by decide) ?_
      exact v_loc [1, 2, 3, 4, 0] rfl (sbX11_go_237 hR F hrec hRr hk103 hw)
set_option maxRecDepth 100000 in
theorem sbX11_go_185 {X : Cx} {D : Dx} {d : Nat} (hR : X.2.2.2.1 = rmX11_go (d + 1)) (F : Fx X D cX11_go 6 RX11 none "go") {Q : Wd → Prop} {rec : Nat → Int32 → Int32 → Wd → (Wd → Prop) → Prop} (hrec : ∀ (a0 : Nat) (p1 : Int32) (p2 : Int32) (G : Wd) (Q : Wd → Prop), rec a0 p1 p2 G Q → Met X.2.1 yX11_go (wM yX11_go cX11_go 6 none) (rmX11_go d) (PM D [.ref a0, .int p1, .int p2] G) (QMv D Q) 0 0 (Ab D)) (hRr : Rm X 0 0 6 0 0 (rmX11_go d)) {k103 : Nat → Int32 → Int32 → Int32 → Wd → Prop} (hk103 : ∀ v0 v1 v2 v3 G, k103 v0 v1 v2 v3 G → V X D 6 (ZM X D (QMv D Q) 0 0) G 0 0 103 [(0, .ref v0), (1, .int v1), (2, .int v2), (3, .int v3)] []) {v0 : Nat} {v1 : Int32} {v2 : Int32} {v3 : Int32} {s0 : Int32} {G : Wd} (hw : wpX11_go_185 rec Q k103 v0 v1 v2 v3 s0 G) : V X D 6 (ZM X D (QMv D Q) 0 0) G 0 0 185 [(0, .ref v0), (1, .int v1), (2, .int v2), (3, .int v3)] [.int s0] := by
  unfold wpX11_go_185 at hw
  refine v_istore (L' := [(4, .int s0), (0, .ref v0), (1, .int v1), (2, .int v2), (3, .int v3)]) F dX11_go_185 (by decide) rfl ?_
  refine v_iload F dX11_go_187 0 rfl ?_
  refine v_if_eq (tgt := 201) F dX11_go_189 (by decide) (fun h => ?_) (fun h => ?_)
  · rw [if_pos h] at hw
    refine v_aload_n F dX11_go_201 rfl 1 rfl ?_
    obtain ⟨kd20, hw⟩ := hw
    obtain ⟨b21, hr22, hw⟩ := hw
    refine v_getS F fl_X11_19 (fun _ => rfl) kd20 hr22 dX11_go_202 ?_
    refine v_iload_n F dX11_go_205 rfl 4 rfl ?_
    obtain ⟨kd23, hw⟩ := hw
    obtain ⟨hi24, hw⟩ := hw
    refine v_ialdE F rfl kd23 hi24 dX11_go_206 ?_
    exact v_loc [1, 2, 3, 4, 0] rfl (sbX11_go_207 hR F hrec hRr hk103 hw)
  · rw [if_neg h] at hw
    refine v_aload_n F dX11_go_192 rfl 1 rfl ?_
    obtain ⟨kd25, hw⟩ := hw
    obtain ⟨b26, hr27, hw⟩ := hw
    refine v_getS F fl_X11_16 (fun _ => rfl) kd25 hr27 dX11_go_193 ?_
    refine v_iload_n F dX11_go_196 rfl 4 rfl ?_
    obtain ⟨kd28, hw⟩ := hw
    obtain ⟨hi29, hw⟩ := hw
    refine v_ialdE F rfl kd28 hi29 dX11_go_197 ?_
    refine v_goto (tgt := 207) F dX11_go_198 (by decide) ?_
    exact v_loc [1, 2, 3, 4, 0] rfl (sbX11_go_207 hR F hrec hRr hk103 hw)
set_option maxRecDepth 100000 in
theorem sbX11_go_165 {X : Cx} {D : Dx} {d : Nat} (hR : X.2.2.2.1 = rmX11_go (d + 1)) (F : Fx X D cX11_go 6 RX11 none "go") {Q : Wd → Prop} {rec : Nat → Int32 → Int32 → Wd → (Wd → Prop) → Prop} (hrec : ∀ (a0 : Nat) (p1 : Int32) (p2 : Int32) (G : Wd) (Q : Wd → Prop), rec a0 p1 p2 G Q → Met X.2.1 yX11_go (wM yX11_go cX11_go 6 none) (rmX11_go d) (PM D [.ref a0, .int p1, .int p2] G) (QMv D Q) 0 0 (Ab D)) (hRr : Rm X 0 0 6 0 0 (rmX11_go d)) {k103 : Nat → Int32 → Int32 → Int32 → Wd → Prop} (hk103 : ∀ v0 v1 v2 v3 G, k103 v0 v1 v2 v3 G → V X D 6 (ZM X D (QMv D Q) 0 0) G 0 0 103 [(0, .ref v0), (1, .int v1), (2, .int v2), (3, .int v3)] []) {v0 : Nat} {v1 : Int32} {v2 : Int32} {v3 : Int32} {G : Wd} (hw : wpX11_go_165 rec Q k103 v0 v1 v2 v3 G) : V X D 6 (ZM X D (QMv D Q) 0 0) G 0 0 165 [(0, .ref v0), (1, .int v1), (2, .int v2), (3, .int v3)] [] := by
  unfold wpX11_go_165 at hw
  refine v_aload_n F dX11_go_165 rfl 0 rfl ?_
  obtain ⟨kd30, hw⟩ := hw
  obtain ⟨b31, hr32, hw⟩ := hw
  refine v_getS F fl_X11_19 (fun _ => rfl) kd30 hr32 dX11_go_166 ?_
  refine v_iload_n F dX11_go_169 rfl 3 rfl ?_
  obtain ⟨kd33, hw⟩ := hw
  obtain ⟨hi34, hw⟩ := hw
  refine v_ialdE F rfl kd33 hi34 dX11_go_170 ?_
  refine v_aload_n F dX11_go_171 rfl 0 rfl ?_
  obtain ⟨b35, hr36, hw⟩ := hw
  refine v_getS F fl_X11_72 (fun _ => rfl) kd30 hr36 dX11_go_172 ?_
  refine v_iload_n F dX11_go_175 rfl 1 rfl ?_
  obtain ⟨kd37, hw⟩ := hw
  obtain ⟨hi38, hw⟩ := hw
  refine v_ialdE F rfl kd37 hi38 dX11_go_176 ?_
  refine v_icmp_ne (tgt := 184) F dX11_go_177 (by decide) (fun h => ?_) (fun h => ?_)
  · rw [if_neg h] at hw
    refine v_iconst (v := 0) F dX11_go_184 (by decide) ?_
    exact v_loc [0, 1, 2, 3] rfl (sbX11_go_185 hR F hrec hRr hk103 hw)
  · rw [if_pos h] at hw
    refine v_iconst (v := 1) F dX11_go_180 (by decide) ?_
    refine v_goto (tgt := 185) F dX11_go_181 (by decide) ?_
    exact v_loc [0, 1, 2, 3] rfl (sbX11_go_185 hR F hrec hRr hk103 hw)
set_option maxRecDepth 100000 in
theorem sbX11_go_103 {X : Cx} {D : Dx} {d : Nat} (hR : X.2.2.2.1 = rmX11_go (d + 1)) (F : Fx X D cX11_go 6 RX11 none "go") {Q : Wd → Prop} {rec : Nat → Int32 → Int32 → Wd → (Wd → Prop) → Prop} (hrec : ∀ (a0 : Nat) (p1 : Int32) (p2 : Int32) (G : Wd) (Q : Wd → Prop), rec a0 p1 p2 G Q → Met X.2.1 yX11_go (wM yX11_go cX11_go 6 none) (rmX11_go d) (PM D [.ref a0, .int p1, .int p2] G) (QMv D Q) 0 0 (Ab D)) (hRr : Rm X 0 0 6 0 0 (rmX11_go d)) : ∀ (n : Nat) (v0 : Nat) (v1 : Int32) (v2 : Int32) (v3 : Int32) (G : Wd), wpX11_go_103 rec Q  n v0 v1 v2 v3 G → V X D 6 (ZM X D (QMv D Q) 0 0) G 0 0 103 [(0, .ref v0), (1, .int v1), (2, .int v2), (3, .int v3)] [] := by
  intro n
  induction n with
  | zero => intro v0 v1 v2 v3 G hw; exact hw.elim
  | succ n ih =>
    intro v0 v1 v2 v3 G hw
    simp only [wpX11_go_103] at hw
    refine v_iload_n F dX11_go_103 rfl 3 rfl ?_
    refine v_aload_n F dX11_go_104 rfl 0 rfl ?_
    obtain ⟨kd39, hw⟩ := hw
    refine v_get F fl_X11_159 kd39 rfl dX11_go_105 ?_
    refine v_icmp_ge (tgt := 262) F dX11_go_108 (by decide) (fun h => ?_) (fun h => ?_)
    · rw [if_pos h] at hw
      exact v_vret F hw dX11_go_262
    · rw [if_neg h] at hw
      refine v_aload_n F dX11_go_111 rfl 0 rfl ?_
      obtain ⟨b40, hr41, hw⟩ := hw
      refine v_getS F fl_X11_69 (fun _ => rfl) kd39 hr41 dX11_go_112 ?_
      refine v_iload_n F dX11_go_115 rfl 3 rfl ?_
      obtain ⟨kd42, hw⟩ := hw
      obtain ⟨hi43, hw⟩ := hw
      refine v_zaldE F rfl kd42 hi43 dX11_go_116 ?_
      refine v_if_eq (tgt := 256) F dX11_go_117 (by decide) (fun h => ?_) (fun h => ?_)
      · rw [if_pos h] at hw
        exact v_loc [0, 1, 2, 3] rfl (sbX11_go_256 hR F hrec hRr ih hw)
      · rw [if_neg h] at hw
        refine v_aload_n F dX11_go_120 rfl 0 rfl ?_
        obtain ⟨b44, hr45, hw⟩ := hw
        refine v_getS F fl_X11_16 (fun _ => rfl) kd39 hr45 dX11_go_121 ?_
        refine v_iload_n F dX11_go_124 rfl 3 rfl ?_
        obtain ⟨kd46, hw⟩ := hw
        obtain ⟨hi47, hw⟩ := hw
        refine v_ialdE F rfl kd46 hi47 dX11_go_125 ?_
        refine v_aload_n F dX11_go_126 rfl 0 rfl ?_
        obtain ⟨b48, hr49, hw⟩ := hw
        refine v_getS F fl_X11_19 (fun _ => rfl) kd39 hr49 dX11_go_127 ?_
        refine v_iload_n F dX11_go_130 rfl 3 rfl ?_
        obtain ⟨kd50, hw⟩ := hw
        obtain ⟨hi51, hw⟩ := hw
        refine v_ialdE F rfl kd50 hi51 dX11_go_131 ?_
        refine v_icmp_eq (tgt := 256) F dX11_go_132 (by decide) (fun h => ?_) (fun h => ?_)
        · rw [if_pos h] at hw
          exact v_loc [0, 1, 2, 3] rfl (sbX11_go_256 hR F hrec hRr ih hw)
        · rw [if_neg h] at hw
          refine v_aload_n F dX11_go_135 rfl 0 rfl ?_
          obtain ⟨b52, hr53, hw⟩ := hw
          refine v_getS F fl_X11_16 (fun _ => rfl) kd39 hr53 dX11_go_136 ?_
          refine v_iload_n F dX11_go_139 rfl 3 rfl ?_
          obtain ⟨kd54, hw⟩ := hw
          obtain ⟨hi55, hw⟩ := hw
          refine v_ialdE F rfl kd54 hi55 dX11_go_140 ?_
          refine v_aload_n F dX11_go_141 rfl 0 rfl ?_
          obtain ⟨b56, hr57, hw⟩ := hw
          refine v_getS F fl_X11_72 (fun _ => rfl) kd39 hr57 dX11_go_142 ?_
          refine v_iload_n F dX11_go_145 rfl 1 rfl ?_
          obtain ⟨kd58, hw⟩ := hw
          obtain ⟨hi59, hw⟩ := hw
          refine v_ialdE F rfl kd58 hi59 dX11_go_146 ?_
          refine v_icmp_eq (tgt := 165) F dX11_go_147 (by decide) (fun h => ?_) (fun h => ?_)
          · rw [if_pos h] at hw
            exact v_loc [0, 1, 2, 3] rfl (sbX11_go_165 hR F hrec hRr ih hw)
          · rw [if_neg h] at hw
            refine v_aload_n F dX11_go_150 rfl 0 rfl ?_
            obtain ⟨b60, hr61, hw⟩ := hw
            refine v_getS F fl_X11_19 (fun _ => rfl) kd39 hr61 dX11_go_151 ?_
            refine v_iload_n F dX11_go_154 rfl 3 rfl ?_
            obtain ⟨kd62, hw⟩ := hw
            obtain ⟨hi63, hw⟩ := hw
            refine v_ialdE F rfl kd62 hi63 dX11_go_155 ?_
            refine v_aload_n F dX11_go_156 rfl 0 rfl ?_
            obtain ⟨b64, hr65, hw⟩ := hw
            refine v_getS F fl_X11_72 (fun _ => rfl) kd39 hr65 dX11_go_157 ?_
            refine v_iload_n F dX11_go_160 rfl 1 rfl ?_
            obtain ⟨kd66, hw⟩ := hw
            obtain ⟨hi67, hw⟩ := hw
            refine v_ialdE F rfl kd66 hi67 dX11_go_161 ?_
            refine v_icmp_ne (tgt := 256) F dX11_go_162 (by decide) (fun h => ?_) (fun h => ?_)
            · rw [if_neg h] at hw
              exact v_loc [0, 1, 2, 3] rfl (sbX11_go_256 hR F hrec hRr ih hw)
            · rw [if_pos h] at hw
              exact v_loc [0, 1, 2, 3] rfl (sbX11_go_165 hR F hrec hRr ih hw)
set_option maxRecDepth 100000 in
theorem sbX11_go_101 {X : Cx} {D : Dx} {d : Nat} (hR : X.2.2.2.1 = rmX11_go (d + 1)) (F : Fx X D cX11_go 6 RX11 none "go") {Q : Wd → Prop} {rec : Nat → Int32 → Int32 → Wd → (Wd → Prop) → Prop} (hrec : ∀ (a0 : Nat) (p1 : Int32) (p2 : Int32) (G : Wd) (Q : Wd → Prop), rec a0 p1 p2 G Q → Met X.2.1 yX11_go (wM yX11_go cX11_go 6 none) (rmX11_go d) (PM D [.ref a0, .int p1, .int p2] G) (QMv D Q) 0 0 (Ab D)) (hRr : Rm X 0 0 6 0 0 (rmX11_go d)) {v0 : Nat} {v1 : Int32} {v2 : Int32} {G : Wd} (hw : wpX11_go_101 rec Q  v0 v1 v2 G) : V X D 6 (ZM X D (QMv D Q) 0 0) G 0 0 101 [(0, .ref v0), (1, .int v1), (2, .int v2)] [] := by
  unfold wpX11_go_101 at hw
  refine v_iconst (v := 0) F dX11_go_101 (by decide) ?_
  refine v_istore_n (L' := [(3, .int 0), (0, .ref v0), (1, .int v1), (2, .int v2)]) F dX11_go_102 rfl (by decide) rfl ?_
  obtain ⟨m, hw⟩ := hw
  exact v_loc [1, 2, 3, 0] rfl (sbX11_go_103 hR F hrec hRr  m _ _ _ _ _ hw)
set_option maxRecDepth 100000 in
theorem sbX11_go_75 {X : Cx} {D : Dx} {d : Nat} (hR : X.2.2.2.1 = rmX11_go (d + 1)) (F : Fx X D cX11_go 6 RX11 none "go") {Q : Wd → Prop} {rec : Nat → Int32 → Int32 → Wd → (Wd → Prop) → Prop} (hrec : ∀ (a0 : Nat) (p1 : Int32) (p2 : Int32) (G : Wd) (Q : Wd → Prop), rec a0 p1 p2 G Q → Met X.2.1 yX11_go (wM yX11_go cX11_go 6 none) (rmX11_go d) (PM D [.ref a0, .int p1, .int p2] G) (QMv D Q) 0 0 (Ab D)) (hRr : Rm X 0 0 6 0 0 (rmX11_go d)) {v0 : Nat} {G : Wd} (hw : wpX11_go_75 rec Q  v0 G) : V X D 6 (ZM X D (QMv D Q) 0 0) G 0 0 75 [(0, .ref v0)] [] := by
  unfold wpX11_go_75 at hw
  refine v_aload_n F dX11_go_75 rfl 0 rfl ?_
  refine v_dup F dX11_go_76 rfl ?_
  obtain ⟨kd68, hw⟩ := hw
  refine v_get F fl_X11_231 kd68 rfl dX11_go_77 ?_
  refine v_iconst (v := 1) F dX11_go_80 (by decide) ?_
  refine v_iadd F dX11_go_81 ?_
  refine v_putI F fl_X11_231 (fun h => absurd h (by decide)) rfl kd68 dX11_go_82 ?_
  refine v_nmG (fun G69 hG69 => ?_)
  have hw := hw G69 hG69
  exact v_vret F hw dX11_go_85
set_option maxRecDepth 100000 in
theorem sbX11_go_64 {X : Cx} {D : Dx} {d : Nat} (hR : X.2.2.2.1 = rmX11_go (d + 1)) (F : Fx X D cX11_go 6 RX11 none "go") {Q : Wd → Prop} {rec : Nat → Int32 → Int32 → Wd → (Wd → Prop) → Prop} (hrec : ∀ (a0 : Nat) (p1 : Int32) (p2 : Int32) (G : Wd) (Q : Wd → Prop), rec a0 p1 p2 G Q → Met X.2.1 yX11_go (wM yX11_go cX11_go 6 none) (rmX11_go d) (PM D [.ref a0, .int p1, .int p2] G) (QMv D Q) 0 0 (Ab D)) (hRr : Rm X 0 0 6 0 0 (rmX11_go d)) {v0 : Nat} {G : Wd} (hw : wpX11_go_64 rec Q  v0 G) : V X D 6 (ZM X D (QMv D Q) 0 0) G 0 0 64 [(0, .ref v0)] [] := by
  unfold wpX11_go_64 at hw
  refine v_aload_n F dX11_go_64 rfl 0 rfl ?_
  obtain ⟨kd70, hw⟩ := hw
  refine v_get F fl_X11_243 kd70 rfl dX11_go_65 ?_
  refine v_if_eq (tgt := 75) F dX11_go_68 (by decide) (fun h => ?_) (fun h => ?_)
  · rw [if_pos h] at hw
    exact v_loc [0] rfl (sbX11_go_75 hR F hrec hRr  hw)
  · rw [if_neg h] at hw
    refine v_aload_n F dX11_go_71 rfl 0 rfl ?_
    refine v_callv (r_V F lk_X11_246 kd70 (sX11_widen hw) (mkRm2 hR rfl rfl (by simp [rmX11_widen, rmX11_go]; try omega) (by simp [rmX11_widen, rmX11_go]; try omega) (Nat.le_of_ble_eq_true rfl) (Nat.le_of_ble_eq_true rfl)) rfl rfl (Nat.le_of_ble_eq_true rfl) dX11_go_72) (fun G72 hw => ?_)
    exact v_loc [0] rfl (sbX11_go_75 hR F hrec hRr  hw)
set_option maxRecDepth 100000 in
theorem sbX11_go_41 {X : Cx} {D : Dx} {d : Nat} (hR : X.2.2.2.1 = rmX11_go (d + 1)) (F : Fx X D cX11_go 6 RX11 none "go") {Q : Wd → Prop} {rec : Nat → Int32 → Int32 → Wd → (Wd → Prop) → Prop} (hrec : ∀ (a0 : Nat) (p1 : Int32) (p2 : Int32) (G : Wd) (Q : Wd → Prop), rec a0 p1 p2 G Q → Met X.2.1 yX11_go (wM yX11_go cX11_go 6 none) (rmX11_go d) (PM D [.ref a0, .int p1, .int p2] G) (QMv D Q) 0 0 (Ab D)) (hRr : Rm X 0 0 6 0 0 (rmX11_go d)) : ∀ (n : Nat) (v0 : Nat) (v1 : Int32) (v3 : Int32) (G : Wd), wpX11_go_41 rec Q  n v0 v1 v3 G → V X D 6 (ZM X D (QMv D Q) 0 0) G 0 0 41 [(0, .ref v0), (1, .int v1), (3, .int v3)] [] := by
  intro n
  induction n with
  | zero => intro v0 v1 v3 G hw; exact hw.elim
  | succ n ih =>
    intro v0 v1 v3 G hw
    simp only [wpX11_go_41] at hw
    refine v_iload_n F dX11_go_41 rfl 2 rfl ?_
    refine v_iload_n F dX11_go_42 rfl 1 rfl ?_
    refine v_icmp_ge (tgt := 64) F dX11_go_43 (by decide) (fun h => ?_) (fun h => ?_)
    · rw [if_pos h] at hw
      exact v_loc [0] rfl (sbX11_go_64 hR F hrec hRr  hw)
    · rw [if_neg h] at hw
      refine v_aload_n F dX11_go_46 rfl 0 rfl ?_
      obtain ⟨kd73, hw⟩ := hw
      obtain ⟨b74, hr75, hw⟩ := hw
      refine v_getS F fl_X11_78 (fun _ => rfl) kd73 hr75 dX11_go_47 ?_
      refine v_iload_n F dX11_go_50 rfl 2 rfl ?_
      refine v_aload_n F dX11_go_51 rfl 0 rfl ?_
      obtain ⟨b76, hr77, hw⟩ := hw
      refine v_getS F fl_X11_75 (fun _ => rfl) kd73 hr77 dX11_go_52 ?_
      refine v_iload_n F dX11_go_55 rfl 2 rfl ?_
      obtain ⟨kd78, hw⟩ := hw
      obtain ⟨hi79, hw⟩ := hw
      refine v_ialdE F rfl kd78 hi79 dX11_go_56 ?_
      obtain ⟨kd80, hw⟩ := hw
      obtain ⟨hi81, hw⟩ := hw
      refine v_iastE F rfl kd80 hi81 dX11_go_57 (fun G82 hG82 => ?_)
      have hw := hw G82 hG82
      refine v_iincN (c := 1) F dX11_go_58 2 rfl (by decide) (by decide) (fun x83 hx83 => ?_)
      refine v_cast (L' := [(3, .int x83), (0, .ref v0), (1, .int v1)]) rfl rfl ?_
      have hw := hw x83 hx83
      refine v_goto (tgt := 41) F dX11_go_61 (by decide) ?_
      exact v_loc [1, 2, 0] rfl (ih _ _ _ _ hw)
set_option maxRecDepth 100000 in
theorem sX11_go {l : Launch} {D : Dx} : ∀ (d : Nat) (a0 : Nat) (p1 : Int32) (p2 : Int32) {G : Wd} {Q : Wd → Prop}, wpX11_go d a0 p1 p2 G Q → Met l yX11_go (wM yX11_go cX11_go 6 none) (rmX11_go d) (PM D [.ref a0, .int p1, .int p2] G) (QMv D Q) 0 0 (Ab D) := by
  intro d
  induction d with
  | zero => intro a0 p1 p2 G Q hw; exact hw.elim
  | succ d ihd =>
    intro a0 p1 p2 G Q hw
    refine v_met (by decide) (Nat.le_of_ble_eq_true rfl) (fun X hl hR F => ?_)
    subst hl
    have F : Fx X D cX11_go 6 RX11 none "go" := F
    have hrec : ∀ (a0 : Nat) (p1 : Int32) (p2 : Int32) (G : Wd) (Q : Wd → Prop), wpX11_go d a0 p1 p2 G Q → Met X.2.1 yX11_go (wM yX11_go cX11_go 6 none) (rmX11_go d) (PM D [.ref a0, .int p1, .int p2] G) (QMv D Q) 0 0 (Ab D) := fun a0 p1 p2 G Q hw => ihd a0 p1 p2 hw
    have hRr : Rm X 0 0 6 0 0 (rmX11_go d) := mkRm2 hR rfl rfl (by simp [rmX11_go]; try omega) (by simp [rmX11_go]; try omega) (Nat.le_of_ble_eq_true rfl) (Nat.le_of_ble_eq_true rfl)
    refine v_cast (L' := [(0, .ref a0), (1, .int p1), (2, .int p2)]) rfl rfl ?_
    simp only [wpX11_go] at hw
    refine v_iload_n F dX11_go_0 rfl 1 rfl ?_
    refine v_aload_n F dX11_go_1 rfl 0 rfl ?_
    obtain ⟨kd84, hw⟩ := hw
    refine v_get F fl_X11_205 kd84 rfl dX11_go_2 ?_
    refine v_icmp_ne (tgt := 86) F dX11_go_5 (by decide) (fun h => ?_) (fun h => ?_)
    · rw [if_neg h] at hw
      refine v_iload_n F dX11_go_86 rfl 1 rfl ?_
      refine v_if_le (tgt := 101) F dX11_go_87 (by decide) (fun h => ?_) (fun h => ?_)
      · rw [if_pos h] at hw
        exact v_loc [0, 1, 2] rfl (sbX11_go_101 hR F hrec hRr  hw)
      · rw [if_neg h] at hw
        refine v_aload_n F dX11_go_90 rfl 0 rfl ?_
        obtain ⟨b85, hr86, hw⟩ := hw
        refine v_getS F fl_X11_72 (fun _ => rfl) kd84 hr86 dX11_go_91 ?_
        refine v_iload_n F dX11_go_94 rfl 1 rfl ?_
        obtain ⟨kd87, hw⟩ := hw
        obtain ⟨hi88, hw⟩ := hw
        refine v_ialdE F rfl kd87 hi88 dX11_go_95 ?_
        refine v_iload_n F dX11_go_96 rfl 2 rfl ?_
        refine v_icmp_ne (tgt := 101) F dX11_go_97 (by decide) (fun h => ?_) (fun h => ?_)
        · rw [if_neg h] at hw
          exact v_loc [0, 1, 2] rfl (sbX11_go_101 hR F hrec hRr  hw)
        · rw [if_pos h] at hw
          exact v_vret F hw dX11_go_100
    · rw [if_pos h] at hw
      refine v_aload_n F dX11_go_8 rfl 0 rfl ?_
      obtain ⟨b89, hr90, hw⟩ := hw
      refine v_getS F fl_X11_72 (fun _ => rfl) kd84 hr90 dX11_go_9 ?_
      refine v_iload_n F dX11_go_12 rfl 1 rfl ?_
      obtain ⟨kd91, hw⟩ := hw
      obtain ⟨hi92, hw⟩ := hw
      refine v_ialdE F rfl kd91 hi92 dX11_go_13 ?_
      refine v_iload_n F dX11_go_14 rfl 2 rfl ?_
      refine v_icmp_ne (tgt := 85) F dX11_go_15 (by decide) (fun h => ?_) (fun h => ?_)
      · rw [if_neg h] at hw
        exact v_vret F hw dX11_go_85
      · rw [if_pos h] at hw
        refine v_aload_n F dX11_go_18 rfl 0 rfl ?_
        refine v_get F fl_X11_231 kd84 rfl dX11_go_19 ?_
        refine v_aload_n F dX11_go_22 rfl 0 rfl ?_
        refine v_get F fl_X11_234 kd84 rfl dX11_go_23 ?_
        refine v_icmp_ne (tgt := 64) F dX11_go_26 (by decide) (fun h => ?_) (fun h => ?_)
        · rw [if_neg h] at hw
          exact v_loc [0] rfl (sbX11_go_64 hR F hrec hRr  hw)
        · rw [if_pos h] at hw
          refine v_aload_n F dX11_go_29 rfl 0 rfl ?_
          refine v_iconst (v := 1) F dX11_go_30 (by decide) ?_
          refine v_putZ F fl_X11_237 (fun h => absurd h (by decide)) rfl (Or.inr rfl) kd84 dX11_go_31 ?_
          refine v_nmG (fun G93 hG93 => ?_)
          have hw := hw G93 hG93
          refine v_aload_n F dX11_go_34 rfl 0 rfl ?_
          refine v_iload_n F dX11_go_35 rfl 1 rfl ?_
          have kd94 : gK G93 a0 = 11 := by rw [hG93]; exact kd84
          refine v_putI F fl_X11_240 (fun h => absurd h (by decide)) rfl kd94 dX11_go_36 ?_
          refine v_nmG (fun G95 hG95 => ?_)
          have hw := hw G95 hG95
          refine v_iconst (v := 0) F dX11_go_39 (by decide) ?_
          refine v_istore_n (L' := [(3, .int 0), (0, .ref a0), (1, .int p1), (2, .int p2)]) F dX11_go_40 rfl (by decide) rfl ?_
          obtain ⟨m, hw⟩ := hw
          exact v_loc [1, 2, 0] rfl (sbX11_go_41 hR F hrec hRr  m _ _ _ _ hw)
set_option maxRecDepth 100000 in
theorem sbX11_seek_86 {X : Cx} {D : Dx} (hR : X.2.2.2.1 = rmX11_seek) (F : Fx X D cX11_seek 5 RX11 none "seek") {Q : Wd → Prop} {k43 : Nat → Int32 → Int32 → Int32 → Int32 → Wd → Prop} (hk43 : ∀ v0 v1 v2 v3 v4 G, k43 v0 v1 v2 v3 v4 G → V X D 5 (ZM X D (QMv D Q) 0 0) G 0 0 43 [(0, .ref v0), (1, .int v1), (2, .int v2), (3, .int v3), (4, .int v4)] []) {v0 : Nat} {v1 : Int32} {v2 : Int32} {v3 : Int32} {v4 : Int32} {G : Wd} (hw : wpX11_seek_86 Q k43 v0 v1 v2 v3 v4 G) : V X D 5 (ZM X D (QMv D Q) 0 0) G 0 0 86 [(0, .ref v0), (1, .int v1), (2, .int v2), (3, .int v3), (4, .int v4)] [] := by
  unfold wpX11_seek_86 at hw
  refine v_aload_n F dX11_seek_86 rfl 0 rfl ?_
  refine v_dup F dX11_seek_87 rfl ?_
  obtain ⟨kd1, hw⟩ := hw
  refine v_get F fl_X11_205 kd1 rfl dX11_seek_88 ?_
  refine v_iconst (v := 1) F dX11_seek_91 (by decide) ?_
  refine v_iadd F dX11_seek_92 ?_
  refine v_putI F fl_X11_205 (fun h => absurd h (by decide)) rfl kd1 dX11_seek_93 ?_
  refine v_nmG (fun G2 hG2 => ?_)
  have hw := hw G2 hG2
  refine v_goto (tgt := 43) F dX11_seek_96 (by decide) ?_
  exact v_loc [0, 1, 2, 3, 4] rfl (hk43 _ _ _ _ _ _ hw)
set_option maxRecDepth 100000 in
theorem sbX11_seek_80 {X : Cx} {D : Dx} (hR : X.2.2.2.1 = rmX11_seek) (F : Fx X D cX11_seek 5 RX11 none "seek") {Q : Wd → Prop} {k43 : Nat → Int32 → Int32 → Int32 → Int32 → Wd → Prop} (hk43 : ∀ v0 v1 v2 v3 v4 G, k43 v0 v1 v2 v3 v4 G → V X D 5 (ZM X D (QMv D Q) 0 0) G 0 0 43 [(0, .ref v0), (1, .int v1), (2, .int v2), (3, .int v3), (4, .int v4)] []) {v0 : Nat} {v1 : Int32} {v2 : Int32} {v3 : Int32} {v4 : Int32} {G : Wd} (hw : wpX11_seek_80 Q k43 v0 v1 v2 v3 v4 G) : V X D 5 (ZM X D (QMv D Q) 0 0) G 0 0 80 [(0, .ref v0), (1, .int v1), (2, .int v2), (3, .int v3), (4, .int v4)] [] := by
  unfold wpX11_seek_80 at hw
  refine v_aload_n F dX11_seek_80 rfl 0 rfl ?_
  refine v_iconst (v := 0) F dX11_seek_81 (by decide) ?_
  refine v_iload_n F dX11_seek_82 rfl 2 rfl ?_
  obtain ⟨kd3, hw⟩ := hw
  refine v_callv (r_V F lk_X11_252 kd3 (sX11_go 12 _ _ _ hw) (mkRm hR rfl rfl rfl rfl rfl rfl) rfl rfl (Nat.le_of_ble_eq_true rfl) dX11_seek_83) (fun G5 hw => ?_)
  exact v_loc [0, 1, 2, 3, 4] rfl (sbX11_seek_86 hR F hk43 hw)
set_option maxRecDepth 100000 in
theorem sbX11_seek_68 {X : Cx} {D : Dx} (hR : X.2.2.2.1 = rmX11_seek) (F : Fx X D cX11_seek 5 RX11 none "seek") {Q : Wd → Prop} {k43 : Nat → Int32 → Int32 → Int32 → Int32 → Wd → Prop} (hk43 : ∀ v0 v1 v2 v3 v4 G, k43 v0 v1 v2 v3 v4 G → V X D 5 (ZM X D (QMv D Q) 0 0) G 0 0 43 [(0, .ref v0), (1, .int v1), (2, .int v2), (3, .int v3), (4, .int v4)] []) {v0 : Nat} {v1 : Int32} {v2 : Int32} {v3 : Int32} {v4 : Int32} {G : Wd} (hw : wpX11_seek_68 Q k43 v0 v1 v2 v3 v4 G) : V X D 5 (ZM X D (QMv D Q) 0 0) G 0 0 68 [(0, .ref v0), (1, .int v1), (2, .int v2), (3, .int v3), (4, .int v4)] [] := by
  unfold wpX11_seek_68 at hw
  refine v_iload_n F dX11_seek_68 rfl 1 rfl ?_
  refine v_iload_n F dX11_seek_69 rfl 2 rfl ?_
  refine v_icmp_ne (tgt := 80) F dX11_seek_70 (by decide) (fun h => ?_) (fun h => ?_)
  · rw [if_neg h] at hw
    exact v_loc [0, 1, 2, 3, 4] rfl (sbX11_seek_80 hR F hk43 hw)
  · rw [if_pos h] at hw
    refine v_aload_n F dX11_seek_73 rfl 0 rfl ?_
    obtain ⟨kd6, hw⟩ := hw
    refine v_get F fl_X11_205 kd6 rfl dX11_seek_74 ?_
    refine v_if_ne (tgt := 86) F dX11_seek_77 (by decide) (fun h => ?_) (fun h => ?_)
    · rw [if_neg h] at hw
      exact v_loc [0, 1, 2, 3, 4] rfl (sbX11_seek_86 hR F hk43 hw)
    · rw [if_pos h] at hw
      exact v_loc [0, 1, 2, 3, 4] rfl (sbX11_seek_80 hR F hk43 hw)
set_option maxRecDepth 100000 in
theorem sbX11_seek_43 {X : Cx} {D : Dx} (hR : X.2.2.2.1 = rmX11_seek) (F : Fx X D cX11_seek 5 RX11 none "seek") {Q : Wd → Prop} : ∀ (n : Nat) (v0 : Nat) (v1 : Int32) (v2 : Int32) (v3 : Int32) (v4 : Int32) (G : Wd), wpX11_seek_43 Q  n v0 v1 v2 v3 v4 G → V X D 5 (ZM X D (QMv D Q) 0 0) G 0 0 43 [(0, .ref v0), (1, .int v1), (2, .int v2), (3, .int v3), (4, .int v4)] [] := by
  intro n
  induction n with
  | zero => intro v0 v1 v2 v3 v4 G hw; exact hw.elim
  | succ n ih =>
    intro v0 v1 v2 v3 v4 G hw
    simp only [wpX11_seek_43] at hw
    refine v_aload_n F dX11_seek_43 rfl 0 rfl ?_
    obtain ⟨kd7, hw⟩ := hw
    refine v_get F fl_X11_205 kd7 rfl dX11_seek_44 ?_
    refine v_bipush (v := 10) F dX11_seek_47 (by decide) ?_
    refine v_icmp_ge (tgt := 99) F dX11_seek_49 (by decide) (fun h => ?_) (fun h => ?_)
    · rw [if_pos h] at hw
      exact v_vret F hw dX11_seek_99
    · rw [if_neg h] at hw
      refine v_aload_n F dX11_seek_52 rfl 0 rfl ?_
      refine v_get F fl_X11_237 kd7 rfl dX11_seek_53 ?_
      refine v_if_eq (tgt := 68) F dX11_seek_56 (by decide) (fun h => ?_) (fun h => ?_)
      · rw [if_pos h] at hw
        exact v_loc [0, 1, 2, 3, 4] rfl (sbX11_seek_68 hR F ih hw)
      · rw [if_neg h] at hw
        refine v_iload F dX11_seek_59 4 rfl ?_
        refine v_if_ne (tgt := 68) F dX11_seek_61 (by decide) (fun h => ?_) (fun h => ?_)
        · rw [if_neg h] at hw
          exact v_loc [0, 1, 2, 3, 4] rfl (sbX11_seek_68 hR F ih hw)
        · rw [if_pos h] at hw
          refine v_iload_n F dX11_seek_64 rfl 3 rfl ?_
          refine v_if_ge (tgt := 99) F dX11_seek_65 (by decide) (fun h => ?_) (fun h => ?_)
          · rw [if_pos h] at hw
            exact v_vret F hw dX11_seek_99
          · rw [if_neg h] at hw
            exact v_loc [0, 1, 2, 3, 4] rfl (sbX11_seek_68 hR F ih hw)
set_option maxRecDepth 100000 in
theorem sX11_seek {l : Launch} {D : Dx} {a0 : Nat} {p1 : Int32} {p2 : Int32} {p3 : Int32} {p4 : Int32} {G : Wd} {Q : Wd → Prop} (hw : wpX11_seek a0 p1 p2 p3 p4 G Q) : Met l yX11_seek (wM yX11_seek cX11_seek 5 none) rmX11_seek (PM D [.ref a0, .int p1, .int p2, .int p3, .int p4] G) (QMv D Q) 0 0 (Ab D) := by
  refine v_met (by decide) (Nat.le_of_ble_eq_true rfl) (fun X hl hR F => ?_)
  subst hl
  have F : Fx X D cX11_seek 5 RX11 none "seek" := F
  refine v_cast (L' := [(0, .ref a0), (1, .int p1), (2, .int p2), (3, .int p3), (4, .int p4)]) rfl rfl ?_
  unfold wpX11_seek at hw
  refine v_aload_n F dX11_seek_0 rfl 0 rfl ?_
  refine v_iconst (v := 0) F dX11_seek_1 (by decide) ?_
  obtain ⟨kd8, hw⟩ := hw
  refine v_putI F fl_X11_231 (fun h => absurd h (by decide)) rfl kd8 dX11_seek_2 ?_
  refine v_nmG (fun G9 hG9 => ?_)
  have hw := hw G9 hG9
  refine v_aload_n F dX11_seek_5 rfl 0 rfl ?_
  refine v_iload_n F dX11_seek_6 rfl 3 rfl ?_
  have kd10 : gK G9 a0 = 11 := by rw [hG9]; exact kd8
  refine v_putI F fl_X11_234 (fun h => absurd h (by decide)) rfl kd10 dX11_seek_7 ?_
  refine v_nmG (fun G11 hG11 => ?_)
  have hw := hw G11 hG11
  refine v_aload_n F dX11_seek_10 rfl 0 rfl ?_
  refine v_iconst (v := 0) F dX11_seek_11 (by decide) ?_
  have kd12 : gK G11 a0 = 11 := by rw [hG11]; exact kd10
  refine v_putZ F fl_X11_237 (fun h => absurd h (by decide)) rfl (Or.inl rfl) kd12 dX11_seek_12 ?_
  refine v_nmG (fun G13 hG13 => ?_)
  have hw := hw G13 hG13
  refine v_aload_n F dX11_seek_15 rfl 0 rfl ?_
  refine v_iload F dX11_seek_16 4 rfl ?_
  have kd14 : gK G13 a0 = 11 := by rw [hG13]; exact kd12
  obtain ⟨hB16, hw⟩ := hw
  refine v_putZ F fl_X11_243 (fun h => absurd h (by decide)) rfl hB16 kd14 dX11_seek_18 ?_
  refine v_nmG (fun G15 hG15 => ?_)
  have hw := hw G15 hG15
  refine v_aload_n F dX11_seek_21 rfl 0 rfl ?_
  refine v_iconst (v := 0) F dX11_seek_22 (by decide) ?_
  have kd17 : gK G15 a0 = 11 := by rw [hG15]; exact kd14
  refine v_putZ F fl_X11_212 (fun h => absurd h (by decide)) rfl (Or.inl rfl) kd17 dX11_seek_23 ?_
  refine v_nmG (fun G18 hG18 => ?_)
  have hw := hw G18 hG18
  refine v_aload_n F dX11_seek_26 rfl 0 rfl ?_
  refine v_iconst (v := 0) F dX11_seek_27 (by decide) ?_
  have kd19 : gK G18 a0 = 11 := by rw [hG18]; exact kd17
  refine v_putZ F fl_X11_103 (fun h => absurd h (by decide)) rfl (Or.inl rfl) kd19 dX11_seek_28 ?_
  refine v_nmG (fun G20 hG20 => ?_)
  have hw := hw G20 hG20
  refine v_aload_n F dX11_seek_31 rfl 0 rfl ?_
  have kd21 : gK G20 a0 = 11 := by rw [hG20]; exact kd19
  obtain ⟨b22, hr23, hw⟩ := hw
  refine v_getS F fl_X11_72 (fun _ => rfl) kd21 hr23 dX11_seek_32 ?_
  refine v_iconst (v := 0) F dX11_seek_35 (by decide) ?_
  refine v_iload_n F dX11_seek_36 rfl 1 rfl ?_
  obtain ⟨kd24, hw⟩ := hw
  obtain ⟨hi25, hw⟩ := hw
  refine v_iastE F (k := 0) (by decide) kd24 hi25 dX11_seek_37 (fun G26 hG26 => ?_)
  have hw := hw G26 hG26
  refine v_aload_n F dX11_seek_38 rfl 0 rfl ?_
  refine v_iconst (v := 0) F dX11_seek_39 (by decide) ?_
  have kd27 : gK G26 a0 = 11 := by rw [hG26]; exact kd21
  refine v_putI F fl_X11_205 (fun h => absurd h (by decide)) rfl kd27 dX11_seek_40 ?_
  refine v_nmG (fun G28 hG28 => ?_)
  have hw := hw G28 hG28
  obtain ⟨m, hw⟩ := hw
  exact v_loc [0, 1, 2, 3, 4] rfl (sbX11_seek_43 hR F  m _ _ _ _ _ _ hw)
set_option maxRecDepth 100000 in
theorem sX11_isPair {l : Launch} {D : Dx} {p0 : Int32} {G : Wd} {Q : Int32 → Wd → Prop} (hw : wpX11_isPair p0 G Q) : Met l yX11_isPair (wM yX11_isPair cX11_isPair 1 (some .boolean)) rmX11_isPair (PM D [.int p0] G) (QMi D Q) 0 0 (Ab D) := by
  refine v_met (by decide) (Nat.le_of_ble_eq_true rfl) (fun X hl hR F => ?_)
  subst hl
  have F : Fx X D cX11_isPair 1 RX11 (some .boolean) "isPair" := F
  refine v_cast (L' := [(0, .int p0)]) rfl rfl ?_
  unfold wpX11_isPair at hw
  refine v_iload_n F dX11_isPair_0 rfl 0 rfl ?_
  refine v_i2l F dX11_isPair_1 ?_
  refine v_lconst (v := 0) F dX11_isPair_2 rfl ?_
  refine v_ldc2 (v := 99) F wd_1038 dX11_isPair_3 ?_
  refine v_calli (r_S F ls_X11_145 (sX11_isIn hw) (mkRm hR rfl rfl rfl rfl rfl rfl) rfl rfl (Nat.le_of_ble_eq_true rfl) dX11_isPair_6) (fun r1 G2 hw => ?_)
  refine v_widen (c' := 0) (s' := 0) (by decide) (by decide) ?_
  exact v_zret F hw.1 hw.2 dX11_isPair_9
set_option maxRecDepth 100000 in
theorem sX11_isTime {l : Launch} {D : Dx} {p0 : Int32} {G : Wd} {Q : Int32 → Wd → Prop} (hw : wpX11_isTime p0 G Q) : Met l yX11_isTime (wM yX11_isTime cX11_isTime 1 (some .boolean)) rmX11_isTime (PM D [.int p0] G) (QMi D Q) 0 0 (Ab D) := by
  refine v_met (by decide) (Nat.le_of_ble_eq_true rfl) (fun X hl hR F => ?_)
  subst hl
  have F : Fx X D cX11_isTime 1 RX11 (some .boolean) "isTime" := F
  refine v_cast (L' := [(0, .int p0)]) rfl rfl ?_
  unfold wpX11_isTime at hw
  refine v_iload_n F dX11_isTime_0 rfl 0 rfl ?_
  refine v_i2l F dX11_isTime_1 ?_
  refine v_lconst (v := 0) F dX11_isTime_2 rfl ?_
  refine v_ldc2 (v := 79999) F wd_1119 dX11_isTime_3 ?_
  refine v_calli (r_S F ls_X11_145 (sX11_isIn hw) (mkRm hR rfl rfl rfl rfl rfl rfl) rfl rfl (Nat.le_of_ble_eq_true rfl) dX11_isTime_6) (fun r1 G2 hw => ?_)
  refine v_widen (c' := 0) (s' := 0) (by decide) (by decide) ?_
  exact v_zret F hw.1 hw.2 dX11_isTime_9
set_option maxRecDepth 100000 in
theorem sX11_ways {l : Launch} {D : Dx} {a0 : Nat} {p1 : Int32} {p2 : Int32} {G : Wd} {Q : Int64 → Wd → Prop} (hw : wpX11_ways a0 p1 p2 G Q) : Met l yX11_ways (wM yX11_ways cX11_ways 3 (some .long)) rmX11_ways (PM D [.ref a0, .int p1, .int p2] G) (QMl D Q) 0 0 (Ab D) := by
  refine v_met (by decide) (Nat.le_of_ble_eq_true rfl) (fun X hl hR F => ?_)
  subst hl
  have F : Fx X D cX11_ways 3 RX11 (some .long) "ways" := F
  refine v_cast (L' := [(0, .ref a0), (1, .int p1), (2, .int p2)]) rfl rfl ?_
  unfold wpX11_ways at hw
  refine v_iload_n F dX11_ways_0 rfl 1 rfl ?_
  refine v_calli (r_S F ls_X11_257 (sX11_isPair hw) (mkRm hR rfl rfl rfl rfl rfl rfl) rfl rfl (Nat.le_of_ble_eq_true rfl) dX11_ways_1) (fun r1 G2 hw => ?_)
  refine v_if_eq (tgt := 14) F dX11_ways_4 (by decide) (fun h => ?_) (fun h => ?_)
  · rw [if_pos h] at hw
    refine v_ldc2 (v := (-9000000000000000001)) F wd_1021 dX11_ways_14 ?_
    refine v_widen (c' := 0) (s' := 0) (by decide) (by decide) ?_
    exact v_lret F hw dX11_ways_17
  · rw [if_neg h] at hw
    refine v_iload_n F dX11_ways_7 rfl 2 rfl ?_
    refine v_calli (r_S F ls_X11_260 (sX11_isTime hw) (mkRm hR rfl rfl rfl rfl rfl rfl) rfl rfl (Nat.le_of_ble_eq_true rfl) dX11_ways_8) (fun r3 G4 hw => ?_)
    refine v_if_ne (tgt := 18) F dX11_ways_11 (by decide) (fun h => ?_) (fun h => ?_)
    · rw [if_neg h] at hw
      refine v_aload_n F dX11_ways_18 rfl 0 rfl ?_
      refine v_iload_n F dX11_ways_19 rfl 2 rfl ?_
      refine v_sipush (v := 10000) F dX11_ways_20 (by decide) ?_
      refine v_idiv F dX11_ways_23 (by decide) ?_
      refine v_iload_n F dX11_ways_24 rfl 2 rfl ?_
      refine v_sipush (v := 10000) F dX11_ways_25 (by decide) ?_
      refine v_iremE F dX11_ways_28 (by decide) ?_
      obtain ⟨kd5, hw⟩ := hw
      refine v_callv (r_V F lk_X11_263 kd5 (sX11_findCounted hw) (mkRm hR rfl rfl rfl rfl rfl rfl) rfl rfl (Nat.le_of_ble_eq_true rfl) dX11_ways_29) (fun G7 hw => ?_)
      refine v_aload_n F dX11_ways_32 rfl 0 rfl ?_
      refine v_iload_n F dX11_ways_33 rfl 1 rfl ?_
      refine v_bipush (v := 10) F dX11_ways_34 (by decide) ?_
      refine v_idiv F dX11_ways_36 (by decide) ?_
      refine v_iload_n F dX11_ways_37 rfl 1 rfl ?_
      refine v_bipush (v := 10) F dX11_ways_38 (by decide) ?_
      refine v_iremE F dX11_ways_40 (by decide) ?_
      refine v_iconst (v := (-1)) F dX11_ways_41 (by decide) ?_
      refine v_iconst (v := 0) F dX11_ways_42 (by decide) ?_
      obtain ⟨kd8, hw⟩ := hw
      refine v_callv (r_V F lk_X11_266 kd8 (sX11_seek hw) (mkRm hR rfl rfl rfl rfl rfl rfl) rfl rfl (Nat.le_of_ble_eq_true rfl) dX11_ways_43) (fun G10 hw => ?_)
      refine v_aload_n F dX11_ways_46 rfl 0 rfl ?_
      obtain ⟨kd11, hw⟩ := hw
      refine v_get F fl_X11_231 kd11 rfl dX11_ways_47 ?_
      refine v_i2l F dX11_ways_50 ?_
      refine v_widen (c' := 0) (s' := 0) (by decide) (by decide) ?_
      exact v_lret F hw dX11_ways_51
    · rw [if_pos h] at hw
      refine v_ldc2 (v := (-9000000000000000001)) F wd_1021 dX11_ways_14 ?_
      refine v_widen (c' := 0) (s' := 0) (by decide) (by decide) ?_
      exact v_lret F hw dX11_ways_17
set_option maxRecDepth 100000 in
theorem sX11_way {l : Launch} {D : Dx} {a0 : Nat} {p1 : Int32} {p2 : Int32} {p3 : Int32} {p4 : Int32} {G : Wd} {Q : Int64 → Wd → Prop} (hw : wpX11_way a0 p1 p2 p3 p4 G Q) : Met l yX11_way (wM yX11_way cX11_way 5 (some .long)) rmX11_way (PM D [.ref a0, .int p1, .int p2, .int p3, .int p4] G) (QMl D Q) 0 0 (Ab D) := by
  refine v_met (by decide) (Nat.le_of_ble_eq_true rfl) (fun X hl hR F => ?_)
  subst hl
  have F : Fx X D cX11_way 5 RX11 (some .long) "way" := F
  refine v_cast (L' := [(0, .ref a0), (1, .int p1), (2, .int p2), (3, .int p3), (4, .int p4)]) rfl rfl ?_
  unfold wpX11_way at hw
  refine v_iload_n F dX11_way_0 rfl 1 rfl ?_
  refine v_calli (r_S F ls_X11_257 (sX11_isPair hw) (mkRm hR rfl rfl rfl rfl rfl rfl) rfl rfl (Nat.le_of_ble_eq_true rfl) dX11_way_1) (fun r1 G2 hw => ?_)
  refine v_if_eq (tgt := 23) F dX11_way_4 (by decide) (fun h => ?_) (fun h => ?_)
  · rw [if_pos h] at hw
    refine v_ldc2 (v := (-9000000000000000001)) F wd_1021 dX11_way_23 ?_
    refine v_widen (c' := 0) (s' := 0) (by decide) (by decide) ?_
    exact v_lret F hw dX11_way_26
  · rw [if_neg h] at hw
    refine v_iload_n F dX11_way_7 rfl 2 rfl ?_
    refine v_calli (r_S F ls_X11_260 (sX11_isTime hw) (mkRm hR rfl rfl rfl rfl rfl rfl) rfl rfl (Nat.le_of_ble_eq_true rfl) dX11_way_8) (fun r3 G4 hw => ?_)
    refine v_if_eq (tgt := 23) F dX11_way_11 (by decide) (fun h => ?_) (fun h => ?_)
    · rw [if_pos h] at hw
      refine v_ldc2 (v := (-9000000000000000001)) F wd_1021 dX11_way_23 ?_
      refine v_widen (c' := 0) (s' := 0) (by decide) (by decide) ?_
      exact v_lret F hw dX11_way_26
    · rw [if_neg h] at hw
      refine v_iload_n F dX11_way_14 rfl 3 rfl ?_
      refine v_if_lt (tgt := 23) F dX11_way_15 (by decide) (fun h => ?_) (fun h => ?_)
      · rw [if_pos h] at hw
        refine v_ldc2 (v := (-9000000000000000001)) F wd_1021 dX11_way_23 ?_
        refine v_widen (c' := 0) (s' := 0) (by decide) (by decide) ?_
        exact v_lret F hw dX11_way_26
      · rw [if_neg h] at hw
        refine v_iload F dX11_way_18 4 rfl ?_
        refine v_if_ge (tgt := 27) F dX11_way_20 (by decide) (fun h => ?_) (fun h => ?_)
        · rw [if_pos h] at hw
          refine v_aload_n F dX11_way_27 rfl 0 rfl ?_
          refine v_iload_n F dX11_way_28 rfl 2 rfl ?_
          refine v_sipush (v := 10000) F dX11_way_29 (by decide) ?_
          refine v_idiv F dX11_way_32 (by decide) ?_
          refine v_iload_n F dX11_way_33 rfl 2 rfl ?_
          refine v_sipush (v := 10000) F dX11_way_34 (by decide) ?_
          refine v_iremE F dX11_way_37 (by decide) ?_
          obtain ⟨kd5, hw⟩ := hw
          refine v_callv (r_V F lk_X11_263 kd5 (sX11_findCounted hw) (mkRm hR rfl rfl rfl rfl rfl rfl) rfl rfl (Nat.le_of_ble_eq_true rfl) dX11_way_38) (fun G7 hw => ?_)
          refine v_aload_n F dX11_way_41 rfl 0 rfl ?_
          refine v_iload_n F dX11_way_42 rfl 1 rfl ?_
          refine v_bipush (v := 10) F dX11_way_43 (by decide) ?_
          refine v_idiv F dX11_way_45 (by decide) ?_
          refine v_iload_n F dX11_way_46 rfl 1 rfl ?_
          refine v_bipush (v := 10) F dX11_way_47 (by decide) ?_
          refine v_iremE F dX11_way_49 (by decide) ?_
          refine v_iload_n F dX11_way_50 rfl 3 rfl ?_
          refine v_iconst (v := 0) F dX11_way_51 (by decide) ?_
          obtain ⟨kd8, hw⟩ := hw
          refine v_callv (r_V F lk_X11_266 kd8 (sX11_seek hw) (mkRm hR rfl rfl rfl rfl rfl rfl) rfl rfl (Nat.le_of_ble_eq_true rfl) dX11_way_52) (fun G10 hw => ?_)
          refine v_aload_n F dX11_way_55 rfl 0 rfl ?_
          obtain ⟨kd11, hw⟩ := hw
          refine v_get F fl_X11_237 kd11 rfl dX11_way_56 ?_
          refine v_if_eq (tgt := 82) F dX11_way_59 (by decide) (fun h => ?_) (fun h => ?_)
          · rw [if_pos h] at hw
            refine v_ldc2 (v := (-9000000000000000005)) F wd_1168 dX11_way_82 ?_
            refine v_widen (c' := 0) (s' := 0) (by decide) (by decide) ?_
            exact v_lret F hw dX11_way_85
          · rw [if_neg h] at hw
            refine v_iload F dX11_way_62 4 rfl ?_
            refine v_aload_n F dX11_way_64 rfl 0 rfl ?_
            refine v_get F fl_X11_240 kd11 rfl dX11_way_65 ?_
            refine v_icmp_ge (tgt := 82) F dX11_way_68 (by decide) (fun h => ?_) (fun h => ?_)
            · rw [if_pos h] at hw
              refine v_ldc2 (v := (-9000000000000000005)) F wd_1168 dX11_way_82 ?_
              refine v_widen (c' := 0) (s' := 0) (by decide) (by decide) ?_
              exact v_lret F hw dX11_way_85
            · rw [if_neg h] at hw
              refine v_aload_n F dX11_way_71 rfl 0 rfl ?_
              obtain ⟨b12, hr13, hw⟩ := hw
              refine v_getS F fl_X11_78 (fun _ => rfl) kd11 hr13 dX11_way_72 ?_
              refine v_iload F dX11_way_75 4 rfl ?_
              obtain ⟨kd14, hw⟩ := hw
              obtain ⟨hi15, hw⟩ := hw
              refine v_ialdE F rfl kd14 hi15 dX11_way_77 ?_
              refine v_i2l F dX11_way_78 ?_
              refine v_goto (tgt := 85) F dX11_way_79 (by decide) ?_
              refine v_widen (c' := 0) (s' := 0) (by decide) (by decide) ?_
              exact v_lret F hw dX11_way_85
        · rw [if_neg h] at hw
          refine v_ldc2 (v := (-9000000000000000001)) F wd_1021 dX11_way_23 ?_
          refine v_widen (c' := 0) (s' := 0) (by decide) (by decide) ?_
          exact v_lret F hw dX11_way_26
