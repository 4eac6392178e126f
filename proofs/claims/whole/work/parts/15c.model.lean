set_option maxRecDepth 100000 in
def wpX11_theWay (a0 : Nat) (p1 : Int32) (p2 : Int32) (p3 : Int32) (p4 : Int32) (G : Wd) (Q : Int64 → Wd → Prop) : Prop := gK G a0 = 11 ∧ wpX11_findCounted a0 p3 p4 G (fun G3 => gK G3 a0 = 11 ∧ wpX11_seek a0 p1 p2 0 0 G3 (fun G6 => gK G6 a0 = 11 ∧ if (gI G6 a0 34) = 0 then (Q (-9000000000000000005) G6) else (∃ b8, gR G6 a0 32 = some b8 ∧ wpX11_product a0 b8 (gI G6 a0 33) 0 G6 (fun G11 => gK G11 a0 = 11 ∧ ∀ G13 : Wd, G13 = uJ G11 a0 37 (gJ G11 a0 20) → ∀ G15 : Wd, G15 = uJ G13 a0 38 (gJ G13 a0 21) → ∃ b17, gR G15 a0 32 = some b17 ∧ wpX11_product a0 b17 (gI G15 a0 33) 1 G15 (fun G20 => gK G20 a0 = 11 ∧ ∀ G22 : Wd, G22 = uJ G20 a0 39 (gJ G20 a0 20) → ∀ G24 : Wd, G24 = uJ G22 a0 40 (gJ G22 a0 21) → if (gI G24 a0 22) = 0 then (Q 0 G24) else (Q (-9000000000000000004) G24))))))
abbrev rmX11_theWay : Room := { frames := 19, cells := 0, slots := 0, locals := 479 }
set_option maxRecDepth 100000 in
def wpX11_endTold (a0 : Nat) (p1 : Int32) (p2 : Int32) (G : Wd) (Q : Int64 → Wd → Prop) : Prop := if p1 = 0 then (if p2 = 0 then (gK G a0 = 11 ∧ Q (gJ G a0 37) G) else (gK G a0 = 11 ∧ Q (gJ G a0 38) G)) else (if p2 = 0 then (gK G a0 = 11 ∧ Q (gJ G a0 39) G) else (gK G a0 = 11 ∧ Q (gJ G a0 40) G))
abbrev rmX11_endTold : Room := { frames := 0, cells := 0, slots := 0, locals := 0 }
set_option maxRecDepth 100000 in
def wpX11_isEnd (p0 : Int32) (p1 : Int32) (G : Wd) (Q : Int32 → Wd → Prop) : Prop := wpX11_isIn ((p0).toInt64) 0 1 G (fun r1 G2 => if r1 = 0 then (Q 0 G2) else (wpX11_isIn ((p1).toInt64) 0 1 G2 (fun r3 G4 => if r3 = 0 then (Q 0 G4) else (Q 1 G4))))
abbrev rmX11_isEnd : Room := { frames := 1, cells := 0, slots := 0, locals := 25 }
set_option maxRecDepth 100000 in
def wpX11_factor (a0 : Nat) (p1 : Int32) (p2 : Int32) (p3 : Int32) (p4 : Int32) (G : Wd) (Q : Int64 → Wd → Prop) : Prop := wpX11_isPair p1 G (fun r1 G2 => if r1 = 0 then (Q (-9000000000000000001) G2) else (wpX11_isTime p2 G2 (fun r3 G4 => if r3 = 0 then (Q (-9000000000000000001) G4) else (wpX11_isEnd p3 p4 G4 (fun r5 G6 => if r5 = 0 then (Q (-9000000000000000001) G6) else (gK G6 a0 = 11 ∧ wpX11_theWay a0 (p1 / 10) (p1 % 10) (p2 / 10000) (p2 % 10000) G6 (fun r8 G9 => if r8 = 0 then (gK G9 a0 = 11 ∧ wpX11_endTold a0 p3 p4 G9 (fun r11 G12 => Q r11 G12)) else (Q r8 G9))))))))
abbrev rmX11_factor : Room := { frames := 20, cells := 0, slots := 0, locals := 503 }
set_option maxRecDepth 100000 in
def wpX11_span (a0 : Nat) (p1 : Int32) (p2 : Int32) (p3 : Int32) (p4 : Int32) (G : Wd) (Q : Int64 → Wd → Prop) : Prop := wpX11_isPair p1 G (fun r1 G2 => if r1 = 0 then (Q (-9000000000000000001) G2) else (wpX11_isTime p2 G2 (fun r3 G4 => if r3 = 0 then (Q (-9000000000000000001) G4) else (wpX11_isEnd p3 p4 G4 (fun r5 G6 => if r5 = 0 then (Q (-9000000000000000001) G6) else (gK G6 a0 = 11 ∧ wpX11_findCounted a0 (p2 / 10000) (p2 % 10000) G6 (fun G9 => gK G9 a0 = 11 ∧ wpX11_seek a0 (p1 / 10) (p1 % 10) (-1) 1 G9 (fun G12 => gK G12 a0 = 11 ∧ if (gI G12 a0 30) = 0 then (Q (-9000000000000000005) G12) else (if (gI G12 a0 22) = 0 then (wpX11_endTold a0 p3 p4 G12 (fun r14 G15 => Q r14 G15)) else (Q (-9000000000000000004) G12))))))))))
abbrev rmX11_span : Room := { frames := 19, cells := 0, slots := 0, locals := 479 }
def wpX11_isAhead_39 (Q : Int32 → Wd → Prop) (v0 : Nat) (v1 : Int32) (G : Wd) : Prop := gK G v0 = 11 ∧ ∃ b2, gR G v0 28 = some b2 ∧ gK G b2 = 20 ∧ vp_in v1 (gN G b2) ∧ ∃ b6, gR G v0 32 = some b6 ∧ gK G b6 = 20 ∧ vp_in v1 (gN G b6) ∧ if ((gI G b6 (v1).toNatClampNeg) % 100) ≤ ((gI G b2 (v1).toNatClampNeg) % 100) then (Q 0 G) else (Q 1 G)
def wpX11_isAhead_2 (Q : Int32 → Wd → Prop) : Nat → Nat → Int32 → Wd → Prop
  | 0, _, _, _ => False
  | n + 1, v0, v1, G => gK G v0 = 11 ∧ if ((gI G v0 29) - 1) ≤ v1 then (wpX11_isAhead_39 Q v0 v1 G) else (∃ b11, gR G v0 28 = some b11 ∧ gK G b11 = 20 ∧ vp_in v1 (gN G b11) ∧ ∃ b15, gR G v0 32 = some b15 ∧ gK G b15 = 20 ∧ vp_in v1 (gN G b15) ∧ if ((gI G b11 (v1).toNatClampNeg) % 100) = ((gI G b15 (v1).toNatClampNeg) % 100) then (∀ x19 : Int32, x19 = v1 + 1 → wpX11_isAhead_2 Q n v0 x19 G) else (wpX11_isAhead_39 Q v0 v1 G))
set_option maxRecDepth 100000 in
def wpX11_isAhead (a0 : Nat) (G : Wd) (Q : Int32 → Wd → Prop) : Prop := ∃ m, wpX11_isAhead_2 Q m a0 0 G
abbrev rmX11_isAhead : Room := { frames := 0, cells := 0, slots := 0, locals := 0 }
def wpX11_ring_176 (Q : Wd → Prop) (k126 : Nat → Int32 → Int32 → Wd → Prop) (v0 : Nat) (v6 : Int32) (s0 : Int32) (s1 : Int32) (G : Wd) : Prop := ∀ x1 : Int32, x1 = (s0 ||| s1) → ∀ x2 : Int32, x2 = v6 + 1 → k126 v0 x1 x2 G
def wpX11_ring_126 (Q : Wd → Prop) : Nat → Nat → Int32 → Int32 → Wd → Prop
  | 0, _, _, _, _ => False
  | n + 1, v0, v5, v6, G => gK G v0 = 11 ∧ if (gI G v0 29) ≤ v6 then (∃ b4, gR G v0 42 = some b4 ∧ gK G b4 = 22 ∧ vp_in v5 (gN G b4) ∧ ∀ G8 : Wd, G8 = uI G b4 (v5).toNatClampNeg 1 → Q G8) else (∃ b9, gR G v0 43 = some b9 ∧ ∃ b11, gR G v0 28 = some b11 ∧ gK G b11 = 20 ∧ vp_in v6 (gN G b11) ∧ gK G b9 = 20 ∧ vp_in ((gI G b11 (v6).toNatClampNeg) % 100) (gN G b9) ∧ if (gI G b9 (((gI G b11 (v6).toNatClampNeg) % 100)).toNatClampNeg) < 0 then (wpX11_ring_176 Q (fun y0 y1 y2 y3 => wpX11_ring_126 Q n y0 y1 y2 y3) v0 v6 v5 0 G) else (∃ b17, gR G v0 43 = some b17 ∧ ∃ b19, gR G v0 28 = some b19 ∧ gK G b19 = 20 ∧ vp_in v6 (gN G b19) ∧ gK G b17 = 20 ∧ vp_in ((gI G b19 (v6).toNatClampNeg) % 100) (gN G b17) ∧ wpX11_ring_176 Q (fun y0 y1 y2 y3 => wpX11_ring_126 Q n y0 y1 y2 y3) v0 v6 v5 (1 <<< ((gI G b17 (((gI G b19 (v6).toNatClampNeg) % 100)).toNatClampNeg) &&& 31)) G))
def wpX11_ring_120 (Q : Wd → Prop) (v0 : Nat) (G : Wd) : Prop := ∃ m, wpX11_ring_126 Q m v0 0 0 G
def wpX11_ring_91 (Q : Wd → Prop) : Nat → Nat → Int32 → Wd → Prop
  | 0, _, _, _ => False
  | n + 1, v0, v5, G => gK G v0 = 11 ∧ if (gI G v0 29) ≤ v5 then (wpX11_ring_120 Q v0 G) else (∃ b26, gR G v0 32 = some b26 ∧ ∃ b28, gR G v0 28 = some b28 ∧ gK G b28 = 20 ∧ vp_in v5 (gN G b28) ∧ gK G b26 = 20 ∧ vp_in v5 (gN G b26) ∧ ∀ G34 : Wd, G34 = uI G b26 (v5).toNatClampNeg (gI G b28 (v5).toNatClampNeg) → ∀ x35 : Int32, x35 = v5 + 1 → wpX11_ring_91 Q n v0 x35 G34)
def wpX11_ring_75 (Q : Wd → Prop) (v0 : Nat) (G : Wd) : Prop := gK G v0 = 11 ∧ ∀ G37 : Wd, G37 = uI G v0 41 1 → ∀ G39 : Wd, G39 = uI G37 v0 33 (gI G37 v0 29) → ∃ m, wpX11_ring_91 Q m v0 0 G39
set_option maxRecDepth 100000 in
def wpX11_ring (a0 : Nat) (G : Wd) (Q : Wd → Prop) : Prop := gK G a0 = 11 ∧ ∃ b41, gR G a0 28 = some b41 ∧ wpX11_product a0 b41 (gI G a0 29) 0 G (fun G44 => gK G44 a0 = 11 ∧ ∀ x46 : Int64, x46 = gJ G44 a0 20 → ∀ x47 : Int64, x47 = gJ G44 a0 21 → ∃ b48, gR G44 a0 28 = some b48 ∧ wpX11_product a0 b48 (gI G44 a0 29) 1 G44 (fun G51 => gK G51 a0 = 11 ∧ if (gI G51 a0 22) = 0 then (if x47 < x46 then (if (gI G51 a0 41) = 0 then (wpX11_ring_75 Q a0 G51) else (if (gI G51 a0 33) = (gI G51 a0 29) then (wpX11_isAhead a0 G51 (fun r53 G54 => if r53 = 0 then (wpX11_ring_120 Q a0 G54) else (wpX11_ring_75 Q a0 G54))) else (wpX11_ring_120 Q a0 G51))) else (Q G51)) else (Q G51)))
abbrev rmX11_ring : Room := { frames := 4, cells := 0, slots := 0, locals := 110 }
def wpX11_isUsed_2 (Q : Int32 → Wd → Prop) : Nat → Nat → Int32 → Int32 → Int32 → Wd → Prop
  | 0, _, _, _, _, _ => False
  | n + 1, v0, v1, v2, v3, G => if v1 ≤ v3 then (Q 0 G) else (gK G v0 = 11 ∧ ∃ b2, gR G v0 28 = some b2 ∧ gK G b2 = 20 ∧ vp_in v3 (gN G b2) ∧ if ((gI G b2 (v3).toNatClampNeg) % 100) = v2 then (Q 1 G) else (∀ x6 : Int32, x6 = v3 + 1 → wpX11_isUsed_2 Q n v0 v1 v2 x6 G))
set_option maxRecDepth 100000 in
def wpX11_isUsed (a0 : Nat) (p1 : Int32) (p2 : Int32) (G : Wd) (Q : Int32 → Wd → Prop) : Prop := ∃ m, wpX11_isUsed_2 Q m a0 p1 p2 0 G
abbrev rmX11_isUsed : Room := { frames := 0, cells := 0, slots := 0, locals := 0 }
def wpX11_round_202 (rec : Nat → Int32 → Int32 → Wd → (Wd → Prop) → Prop) (Q : Wd → Prop) (k12 : Nat → Int32 → Int32 → Int32 → Wd → Prop) (v0 : Nat) (v1 : Int32) (v2 : Int32) (v3 : Int32) (G : Wd) : Prop := ∀ x1 : Int32, x1 = v3 + 1 → k12 v0 v1 v2 x1 G
def wpX11_round_145 (rec : Nat → Int32 → Int32 → Wd → (Wd → Prop) → Prop) (Q : Wd → Prop) (k12 : Nat → Int32 → Int32 → Int32 → Wd → Prop) (v0 : Nat) (v1 : Int32) (v2 : Int32) (v3 : Int32) (v5 : Int32) (s0 : Nat) (s1 : Int32) (s2 : Int32) (G : Wd) : Prop := gK G s0 = 20 ∧ vp_in s1 (gN G s0) ∧ ∀ G4 : Wd, G4 = uI G s0 (s1).toNatClampNeg s2 → gK G4 v0 = 11 ∧ if v1 = ((gI G4 v0 29) - 1) then (∃ b17, gR G4 v0 27 = some b17 ∧ gK G4 b17 = 20 ∧ vp_in 0 (gN G4 b17) ∧ if v5 = (gI G4 b17 0) then (wpX11_ring v0 G4 (fun G22 => wpX11_round_202 rec Q k12 v0 v1 v2 v3 G22)) else (wpX11_round_202 rec Q k12 v0 v1 v2 v3 G4)) else (wpX11_isMet v0 v1 v5 G4 (fun r6 G7 => if r6 = 0 then (gK G7 v0 = 11 ∧ ∃ b9, gR G7 v0 27 = some b9 ∧ gK G7 b9 = 20 ∧ vp_in (v1 + 1) (gN G7 b9) ∧ ∀ G13 : Wd, G13 = uI G7 b9 ((v1 + 1)).toNatClampNeg v5 → rec v0 (v1 + 1) v2 G13 (fun G16 => wpX11_round_202 rec Q k12 v0 v1 v2 v3 G16)) else (wpX11_round_202 rec Q k12 v0 v1 v2 v3 G7)))
def wpX11_round_125 (rec : Nat → Int32 → Int32 → Wd → (Wd → Prop) → Prop) (Q : Wd → Prop) (k12 : Nat → Int32 → Int32 → Int32 → Wd → Prop) (v0 : Nat) (v1 : Int32) (v2 : Int32) (v3 : Int32) (v4 : Int32) (s0 : Int32) (G : Wd) : Prop := gK G v0 = 11 ∧ ∃ b24, gR G v0 28 = some b24 ∧ if v4 = 0 then (wpX11_round_145 rec Q k12 v0 v1 v2 v3 s0 b24 v1 v3 G) else (wpX11_round_145 rec Q k12 v0 v1 v2 v3 s0 b24 v1 (100 + v3) G)
def wpX11_round_103 (rec : Nat → Int32 → Int32 → Wd → (Wd → Prop) → Prop) (Q : Wd → Prop) (k12 : Nat → Int32 → Int32 → Int32 → Wd → Prop) (v0 : Nat) (v1 : Int32) (v2 : Int32) (v3 : Int32) (s0 : Int32) (G : Wd) : Prop := if s0 = 0 then (gK G v0 = 11 ∧ ∃ b27, gR G v0 4 = some b27 ∧ gK G b27 = 20 ∧ vp_in v3 (gN G b27) ∧ wpX11_round_125 rec Q k12 v0 v1 v2 v3 s0 (gI G b27 (v3).toNatClampNeg) G) else (gK G v0 = 11 ∧ ∃ b32, gR G v0 3 = some b32 ∧ gK G b32 = 20 ∧ vp_in v3 (gN G b32) ∧ wpX11_round_125 rec Q k12 v0 v1 v2 v3 s0 (gI G b32 (v3).toNatClampNeg) G)
def wpX11_round_74 (rec : Nat → Int32 → Int32 → Wd → (Wd → Prop) → Prop) (Q : Wd → Prop) (k12 : Nat → Int32 → Int32 → Int32 → Wd → Prop) (v0 : Nat) (v1 : Int32) (v2 : Int32) (v3 : Int32) (G : Wd) : Prop := gK G v0 = 11 ∧ wpX11_isUsed v0 v1 v3 G (fun r37 G38 => if r37 = 0 then (gK G38 v0 = 11 ∧ ∃ b40, gR G38 v0 4 = some b40 ∧ gK G38 b40 = 20 ∧ vp_in v3 (gN G38 b40) ∧ ∃ b44, gR G38 v0 27 = some b44 ∧ gK G38 b44 = 20 ∧ vp_in v1 (gN G38 b44) ∧ if (gI G38 b40 (v3).toNatClampNeg) = (gI G38 b44 (v1).toNatClampNeg) then (wpX11_round_103 rec Q k12 v0 v1 v2 v3 1 G38) else (wpX11_round_103 rec Q k12 v0 v1 v2 v3 0 G38)) else (wpX11_round_202 rec Q k12 v0 v1 v2 v3 G38))
def wpX11_round_12 (rec : Nat → Int32 → Int32 → Wd → (Wd → Prop) → Prop) (Q : Wd → Prop) : Nat → Nat → Int32 → Int32 → Int32 → Wd → Prop
  | 0, _, _, _, _, _ => False
  | n + 1, v0, v1, v2, v3, G => gK G v0 = 11 ∧ if (gI G v0 1) ≤ v3 then (Q G) else (∃ b49, gR G v0 26 = some b49 ∧ gK G b49 = 22 ∧ vp_in v3 (gN G b49) ∧ if (gI G b49 (v3).toNatClampNeg) = 0 then (wpX11_round_202 rec Q (fun y0 y1 y2 y3 y4 => wpX11_round_12 rec Q n y0 y1 y2 y3 y4) v0 v1 v2 v3 G) else (∃ b53, gR G v0 3 = some b53 ∧ gK G b53 = 20 ∧ vp_in v3 (gN G b53) ∧ ∃ b57, gR G v0 4 = some b57 ∧ gK G b57 = 20 ∧ vp_in v3 (gN G b57) ∧ if (gI G b53 (v3).toNatClampNeg) = (gI G b57 (v3).toNatClampNeg) then (wpX11_round_202 rec Q (fun y0 y1 y2 y3 y4 => wpX11_round_12 rec Q n y0 y1 y2 y3 y4) v0 v1 v2 v3 G) else (∃ b61, gR G v0 3 = some b61 ∧ gK G b61 = 20 ∧ vp_in v3 (gN G b61) ∧ ∃ b65, gR G v0 27 = some b65 ∧ gK G b65 = 20 ∧ vp_in v1 (gN G b65) ∧ if (gI G b61 (v3).toNatClampNeg) = (gI G b65 (v1).toNatClampNeg) then (wpX11_round_74 rec Q (fun y0 y1 y2 y3 y4 => wpX11_round_12 rec Q n y0 y1 y2 y3 y4) v0 v1 v2 v3 G) else (∃ b69, gR G v0 4 = some b69 ∧ gK G b69 = 20 ∧ vp_in v3 (gN G b69) ∧ ∃ b73, gR G v0 27 = some b73 ∧ gK G b73 = 20 ∧ vp_in v1 (gN G b73) ∧ if (gI G b69 (v3).toNatClampNeg) = (gI G b73 (v1).toNatClampNeg) then (wpX11_round_74 rec Q (fun y0 y1 y2 y3 y4 => wpX11_round_12 rec Q n y0 y1 y2 y3 y4) v0 v1 v2 v3 G) else (wpX11_round_202 rec Q (fun y0 y1 y2 y3 y4 => wpX11_round_12 rec Q n y0 y1 y2 y3 y4) v0 v1 v2 v3 G)))))
def wpX11_round : Nat → Nat → Int32 → Int32 → Wd → (Wd → Prop) → Prop
  | 0, _, _, _, _, _ => False
  | d + 1, a0, p1, p2, G, Q => (fun rec : Nat → Int32 → Int32 → Wd → (Wd → Prop) → Prop => gK G a0 = 11 ∧ if (gI G a0 22) = 0 then (∀ x78 : Int32, x78 = (p2 + 1) → ∃ m, wpX11_round_12 rec Q m a0 p1 p2 x78 G) else (Q G)) (fun a0 p1 p2 G Q => wpX11_round d a0 p1 p2 G Q)
def rmX11_round (d : Nat) : Room := { frames := 5 + d, cells := 0, slots := 0, locals := 136 + 25 * d }
def wpX11_begin_95 (Q : Wd → Prop) (v0 : Nat) (v1 : Int32) (s0 : Nat) (s1 : Int32) (s2 : Int32) (G : Wd) : Prop := gK G s0 = 20 ∧ vp_in s1 (gN G s0) ∧ ∀ G3 : Wd, G3 = uI G s0 (s1).toNatClampNeg s2 → gK G3 v0 = 11 ∧ if (gI G3 v0 29) ≤ 1 then (Q G3) else (wpX11_round 12 v0 1 v1 G3 (fun G6 => Q G6))
def wpX11_begin_70 (Q : Wd → Prop) (v0 : Nat) (v1 : Int32) (v2 : Int32) (s0 : Nat) (s1 : Int32) (s2 : Int32) (G : Wd) : Prop := gK G s0 = 20 ∧ vp_in s1 (gN G s0) ∧ ∀ G9 : Wd, G9 = uI G s0 (s1).toNatClampNeg s2 → gK G9 v0 = 11 ∧ ∃ b11, gR G9 v0 27 = some b11 ∧ if v2 = 0 then (∃ b13, gR G9 v0 4 = some b13 ∧ gK G9 b13 = 20 ∧ vp_in v1 (gN G9 b13) ∧ wpX11_begin_95 Q v0 v1 b11 1 (gI G9 b13 (v1).toNatClampNeg) G9) else (∃ b17, gR G9 v0 3 = some b17 ∧ gK G9 b17 = 20 ∧ vp_in v1 (gN G9 b17) ∧ wpX11_begin_95 Q v0 v1 b11 1 (gI G9 b17 (v1).toNatClampNeg) G9)
def wpX11_begin_17 (Q : Wd → Prop) (v0 : Nat) (v1 : Int32) (v2 : Int32) (s0 : Nat) (s1 : Int32) (s2 : Int32) (G : Wd) : Prop := gK G s0 = 20 ∧ vp_in s1 (gN G s0) ∧ ∀ G23 : Wd, G23 = uI G s0 (s1).toNatClampNeg s2 → gK G23 v0 = 11 ∧ ∃ b25, gR G23 v0 3 = some b25 ∧ gK G23 b25 = 20 ∧ vp_in v1 (gN G23 b25) ∧ ∃ b29, gR G23 v0 4 = some b29 ∧ gK G23 b29 = 20 ∧ vp_in v1 (gN G23 b29) ∧ if (gI G23 b25 (v1).toNatClampNeg) = (gI G23 b29 (v1).toNatClampNeg) then (if (gI G23 v0 29) = 1 then (wpX11_ring v0 G23 (fun G44 => Q G44)) else (Q G23)) else (∃ b33, gR G23 v0 27 = some b33 ∧ if v2 = 0 then (∃ b35, gR G23 v0 3 = some b35 ∧ gK G23 b35 = 20 ∧ vp_in v1 (gN G23 b35) ∧ wpX11_begin_70 Q v0 v1 v2 b33 0 (gI G23 b35 (v1).toNatClampNeg) G23) else (∃ b39, gR G23 v0 4 = some b39 ∧ gK G23 b39 = 20 ∧ vp_in v1 (gN G23 b39) ∧ wpX11_begin_70 Q v0 v1 v2 b33 0 (gI G23 b39 (v1).toNatClampNeg) G23))
set_option maxRecDepth 100000 in
def wpX11_begin (a0 : Nat) (p1 : Int32) (p2 : Int32) (G : Wd) (Q : Wd → Prop) : Prop := gK G a0 = 11 ∧ ∃ b46, gR G a0 28 = some b46 ∧ if p2 = 0 then (wpX11_begin_17 Q a0 p1 p2 b46 0 p1 G) else (wpX11_begin_17 Q a0 p1 p2 b46 0 (100 + p1) G)
abbrev rmX11_begin : Room := { frames := 18, cells := 0, slots := 0, locals := 461 }
def wpX11_findRings_225 (Q : Int32 → Wd → Prop)  (G : Wd) : Prop := Q 1 G
def wpX11_findRings_192 (Q : Int32 → Wd → Prop) (k134 : Nat → Int32 → Wd → Prop) (v0 : Nat) (v3 : Int32) (G : Wd) : Prop := gK G v0 = 11 ∧ ∀ G2 : Wd, G2 = uI G v0 29 ((gI G v0 29) + 1) → k134 v0 v3 G2
def wpX11_findRings_186 (Q : Int32 → Wd → Prop) (k134 : Nat → Int32 → Wd → Prop) (k146 : Nat → Int32 → Int32 → Wd → Prop) (v0 : Nat) (v3 : Int32) (v4 : Int32) (G : Wd) : Prop := ∀ x3 : Int32, x3 = v4 + 1 → k146 v0 v3 x3 G
def wpX11_findRings_146 (Q : Int32 → Wd → Prop) (k134 : Nat → Int32 → Wd → Prop) : Nat → Nat → Int32 → Int32 → Wd → Prop
  | 0, _, _, _, _ => False
  | n + 1, v0, v3, v4, G => gK G v0 = 11 ∧ if (gI G v0 1) ≤ v4 then (wpX11_findRings_192 Q k134 v0 v3 G) else (if (gI G v0 22) = 0 then (∃ b5, gR G v0 26 = some b5 ∧ gK G b5 = 22 ∧ vp_in v4 (gN G b5) ∧ if (gI G b5 (v4).toNatClampNeg) = 0 then (wpX11_findRings_186 Q k134 (fun y0 y1 y2 y3 => wpX11_findRings_146 Q k134 n y0 y1 y2 y3) v0 v3 v4 G) else (wpX11_begin v0 v4 0 G (fun G10 => gK G10 v0 = 11 ∧ wpX11_begin v0 v4 1 G10 (fun G13 => wpX11_findRings_186 Q k134 (fun y0 y1 y2 y3 => wpX11_findRings_146 Q k134 n y0 y1 y2 y3) v0 v3 v4 G13)))) else (wpX11_findRings_192 Q k134 v0 v3 G))
def wpX11_findRings_134 (Q : Int32 → Wd → Prop) : Nat → Nat → Int32 → Wd → Prop
  | 0, _, _, _ => False
  | n + 1, v0, v3, G => gK G v0 = 11 ∧ if 10 < (gI G v0 29) then (if (gI G v0 22) = 0 then (if v3 = 0 then (wpX11_findRings_225 Q  G) else (if 10 < (gI G v0 44) then (Q 0 G) else (wpX11_findRings_225 Q  G))) else (Q 0 G)) else (∃ m, wpX11_findRings_146 Q (fun y0 y1 y2 => wpX11_findRings_134 Q n y0 y1 y2) m v0 v3 0 G)
def wpX11_findRings_97 (Q : Int32 → Wd → Prop) : Nat → Nat → Int32 → Int32 → Wd → Prop
  | 0, _, _, _, _ => False
  | n + 1, v0, v3, v4, G => if 1024 ≤ v4 then (gK G v0 = 11 ∧ ∀ G16 : Wd, G16 = uI G v0 41 0 → ∀ G18 : Wd, G18 = uI G16 v0 22 0 → ∀ G20 : Wd, G20 = uI G18 v0 29 1 → ∃ m, wpX11_findRings_134 Q m v0 v3 G20) else (gK G v0 = 11 ∧ ∃ b22, gR G v0 42 = some b22 ∧ gK G b22 = 22 ∧ vp_in v4 (gN G b22) ∧ ∀ G26 : Wd, G26 = uI G b22 (v4).toNatClampNeg 0 → ∀ x27 : Int32, x27 = v4 + 1 → wpX11_findRings_97 Q n v0 v3 x27 G26)
def wpX11_findRings_88 (Q : Int32 → Wd → Prop) (k14 : Nat → Int32 → Int32 → Wd → Prop) (v0 : Nat) (v3 : Int32) (v4 : Int32) (G : Wd) : Prop := ∀ x28 : Int32, x28 = v4 + 1 → k14 v0 v3 x28 G
def wpX11_findRings_77 (Q : Int32 → Wd → Prop) (k14 : Nat → Int32 → Int32 → Wd → Prop) (v0 : Nat) (v3 : Int32) (v4 : Int32) (s0 : Nat) (s1 : Int32) (s2 : Int32) (G : Wd) : Prop := gK G s0 = 20 ∧ vp_in s1 (gN G s0) ∧ ∀ G31 : Wd, G31 = uI G s0 (s1).toNatClampNeg s2 → gK G31 v0 = 11 ∧ ∀ G33 : Wd, G33 = uI G31 v0 44 ((gI G31 v0 44) + 1) → wpX11_findRings_88 Q k14 v0 v3 v4 G33
def wpX11_findRings_76 (Q : Int32 → Wd → Prop) (k14 : Nat → Int32 → Int32 → Wd → Prop) (v0 : Nat) (v3 : Int32) (v4 : Int32) (s0 : Nat) (s1 : Int32) (G : Wd) : Prop := wpX11_findRings_77 Q k14 v0 v3 v4 s0 s1 (-1) G
def wpX11_findRings_14 (Q : Int32 → Wd → Prop) : Nat → Nat → Int32 → Int32 → Wd → Prop
  | 0, _, _, _, _ => False
  | n + 1, v0, v3, v4, G => gK G v0 = 11 ∧ if (gI G v0 1) ≤ v4 then (∃ m, wpX11_findRings_97 Q m v0 v3 0 G) else (∃ b35, gR G v0 43 = some b35 ∧ gK G b35 = 20 ∧ vp_in v4 (gN G b35) ∧ ∀ G39 : Wd, G39 = uI G b35 (v4).toNatClampNeg (-1) → ∃ b41, gR G39 v0 26 = some b41 ∧ gK G39 b41 = 22 ∧ vp_in v4 (gN G39 b41) ∧ if (gI G39 b41 (v4).toNatClampNeg) = 0 then (wpX11_findRings_88 Q (fun y0 y1 y2 y3 => wpX11_findRings_14 Q n y0 y1 y2 y3) v0 v3 v4 G39) else (wpX11_isDoubtful v0 v4 G39 (fun r45 G46 => if r45 = 0 then (wpX11_findRings_88 Q (fun y0 y1 y2 y3 => wpX11_findRings_14 Q n y0 y1 y2 y3) v0 v3 v4 G46) else (gK G46 v0 = 11 ∧ ∃ b48, gR G46 v0 43 = some b48 ∧ if v3 = 0 then (wpX11_findRings_76 Q (fun y0 y1 y2 y3 => wpX11_findRings_14 Q n y0 y1 y2 y3) v0 v3 v4 b48 v4 G46) else (if 10 ≤ (gI G46 v0 44) then (wpX11_findRings_76 Q (fun y0 y1 y2 y3 => wpX11_findRings_14 Q n y0 y1 y2 y3) v0 v3 v4 b48 v4 G46) else (wpX11_findRings_77 Q (fun y0 y1 y2 y3 => wpX11_findRings_14 Q n y0 y1 y2 y3) v0 v3 v4 b48 v4 (gI G46 v0 44) G46))))))
set_option maxRecDepth 100000 in
def wpX11_findRings (a0 : Nat) (p1 : Int32) (p2 : Int32) (p3 : Int32) (G : Wd) (Q : Int32 → Wd → Prop) : Prop := gK G a0 = 11 ∧ wpX11_findCounted a0 p1 p2 G (fun G52 => gK G52 a0 = 11 ∧ ∀ G54 : Wd, G54 = uI G52 a0 44 0 → ∃ m, wpX11_findRings_14 Q m a0 p3 0 G54)
abbrev rmX11_findRings : Room := { frames := 19, cells := 0, slots := 0, locals := 483 }
set_option maxRecDepth 100000 in
def wpX11_quarrel (a0 : Nat) (p1 : Int32) (p2 : Int32) (G : Wd) (Q : Int64 → Wd → Prop) : Prop := wpX11_isTime p1 G (fun r1 G2 => if r1 = 0 then (Q (-9000000000000000001) G2) else (if 0 ≤ p2 then (gK G2 a0 = 11 ∧ wpX11_findRings a0 (p1 / 10000) (p1 % 10000) 0 G2 (fun r4 G5 => if r4 = 0 then (Q (-9000000000000000004) G5) else (gK G5 a0 = 11 ∧ if (gI G5 a0 41) = 0 then (Q (-9000000000000000005) G5) else (if (gI G5 a0 33) ≤ p2 then (Q (-9000000000000000005) G5) else (∃ b7, gR G5 a0 32 = some b7 ∧ gK G5 b7 = 20 ∧ vp_in p2 (gN G5 b7) ∧ Q ((gI G5 b7 (p2).toNatClampNeg).toInt64) G5))))) else (Q (-9000000000000000001) G2)))
abbrev rmX11_quarrel : Room := { frames := 20, cells := 0, slots := 0, locals := 507 }
def wpX11_cureOf_224 (Q : Int64 → Wd → Prop) (k27 : Nat → Int64 → Int32 → Int32 → Int32 → Wd → Prop) (v0 : Nat) (v3 : Int64) (v5 : Int32) (v6 : Int32) (v7 : Int32) (G : Wd) : Prop := ∀ x1 : Int32, x1 = v7 + 1 → k27 v0 v3 v5 v6 x1 G
def wpX11_cureOf_213 (Q : Int64 → Wd → Prop) (k27 : Nat → Int64 → Int32 → Int32 → Int32 → Wd → Prop) (v0 : Nat) (v7 : Int32) (v9 : Int32) (v10 : Int32) (v11 : Int64) (G : Wd) : Prop := wpX11_cureOf_224 Q k27 v0 v11 v9 v10 v7 G
def wpX11_cureOf_164 (Q : Int64 → Wd → Prop) (k27 : Nat → Int64 → Int32 → Int32 → Int32 → Wd → Prop) (k105 : Nat → Int64 → Int32 → Int32 → Int32 → Int32 → Int32 → Int64 → Int32 → Wd → Prop) (v0 : Nat) (v3 : Int64) (v5 : Int32) (v6 : Int32) (v7 : Int32) (v9 : Int32) (v10 : Int32) (v11 : Int64) (v13 : Int32) (G : Wd) : Prop := ∀ x2 : Int32, x2 = v13 + 1 → k105 v0 v3 v5 v6 v7 v9 v10 v11 x2 G
def wpX11_cureOf_105 (Q : Int64 → Wd → Prop) (k27 : Nat → Int64 → Int32 → Int32 → Int32 → Wd → Prop) : Nat → Nat → Int64 → Int32 → Int32 → Int32 → Int32 → Int32 → Int64 → Int32 → Wd → Prop
  | 0, _, _, _, _, _, _, _, _, _, _ => False
  | n + 1, v0, v3, v5, v6, v7, v9, v10, v11, v13, G => gK G v0 = 11 ∧ if (gI G v0 1) ≤ v13 then (if v3 = (-9000000000000000005) then (wpX11_cureOf_213 Q k27 v0 v7 v9 v10 v11 G) else (if v9 < v5 then (wpX11_cureOf_213 Q k27 v0 v7 v9 v10 v11 G) else (if v9 = v5 then (if v10 < v6 then (wpX11_cureOf_213 Q k27 v0 v7 v9 v10 v11 G) else (if v10 = v6 then (if v11 < v3 then (wpX11_cureOf_213 Q k27 v0 v7 v9 v10 v11 G) else (wpX11_cureOf_224 Q k27 v0 v3 v5 v6 v7 G)) else (wpX11_cureOf_224 Q k27 v0 v3 v5 v6 v7 G))) else (wpX11_cureOf_224 Q k27 v0 v3 v5 v6 v7 G)))) else (∃ b4, gR G v0 43 = some b4 ∧ gK G b4 = 20 ∧ vp_in v13 (gN G b4) ∧ if (gI G b4 (v13).toNatClampNeg) < 0 then (wpX11_cureOf_164 Q k27 (fun y0 y1 y2 y3 y4 y5 y6 y7 y8 y9 => wpX11_cureOf_105 Q k27 n y0 y1 y2 y3 y4 y5 y6 y7 y8 y9) v0 v3 v5 v6 v7 v9 v10 v11 v13 G) else (∃ b8, gR G v0 43 = some b8 ∧ gK G b8 = 20 ∧ vp_in v13 (gN G b8) ∧ if ((v7 >>> ((gI G b8 (v13).toNatClampNeg) &&& 31)) &&& 1) = 1 then (∃ b12, gR G v0 10 = some b12 ∧ gK G b12 = 20 ∧ vp_in v13 (gN G b12) ∧ ∀ x16 : Int32, x16 = (v9 + (gI G b12 (v13).toNatClampNeg)) → ∀ x17 : Int32, x17 = v10 + 1 → ∀ x18 : Int64, x18 = (v11 ||| ((1 : Int64) <<< ((v13).toInt64 &&& 63))) → wpX11_cureOf_164 Q k27 (fun y0 y1 y2 y3 y4 y5 y6 y7 y8 y9 => wpX11_cureOf_105 Q k27 n y0 y1 y2 y3 y4 y5 y6 y7 y8 y9) v0 v3 v5 v6 v7 x16 x17 x18 v13 G) else (wpX11_cureOf_164 Q k27 (fun y0 y1 y2 y3 y4 y5 y6 y7 y8 y9 => wpX11_cureOf_105 Q k27 n y0 y1 y2 y3 y4 y5 y6 y7 y8 y9) v0 v3 v5 v6 v7 v9 v10 v11 v13 G)))
def wpX11_cureOf_88 (Q : Int64 → Wd → Prop) (k27 : Nat → Int64 → Int32 → Int32 → Int32 → Wd → Prop) (v0 : Nat) (v3 : Int64) (v5 : Int32) (v6 : Int32) (v7 : Int32) (v8 : Int32) (G : Wd) : Prop := if v8 = 0 then (wpX11_cureOf_224 Q k27 v0 v3 v5 v6 v7 G) else (∃ m, wpX11_cureOf_105 Q k27 m v0 v3 v5 v6 v7 0 0 0 0 G)
def wpX11_cureOf_80 (Q : Int64 → Wd → Prop) (k27 : Nat → Int64 → Int32 → Int32 → Int32 → Wd → Prop) (k44 : Nat → Int64 → Int32 → Int32 → Int32 → Int32 → Int32 → Wd → Prop) (v0 : Nat) (v3 : Int64) (v5 : Int32) (v6 : Int32) (v7 : Int32) (v9 : Int32) (s0 : Int32) (G : Wd) : Prop := ∀ x19 : Int32, x19 = v9 + 1 → k44 v0 v3 v5 v6 v7 s0 x19 G
def wpX11_cureOf_75 (Q : Int64 → Wd → Prop) (k27 : Nat → Int64 → Int32 → Int32 → Int32 → Wd → Prop) (k44 : Nat → Int64 → Int32 → Int32 → Int32 → Int32 → Int32 → Wd → Prop) (v0 : Nat) (v3 : Int64) (v5 : Int32) (v6 : Int32) (v7 : Int32) (v9 : Int32) (G : Wd) : Prop := wpX11_cureOf_80 Q k27 k44 v0 v3 v5 v6 v7 v9 1 G
def wpX11_cureOf_44 (Q : Int64 → Wd → Prop) (k27 : Nat → Int64 → Int32 → Int32 → Int32 → Wd → Prop) : Nat → Nat → Int64 → Int32 → Int32 → Int32 → Int32 → Int32 → Wd → Prop
  | 0, _, _, _, _, _, _, _, _ => False
  | n + 1, v0, v3, v5, v6, v7, v8, v9, G => if 1024 ≤ v9 then (wpX11_cureOf_88 Q k27 v0 v3 v5 v6 v7 v8 G) else (if v8 = 0 then (wpX11_cureOf_88 Q k27 v0 v3 v5 v6 v7 v8 G) else (gK G v0 = 11 ∧ ∃ b21, gR G v0 42 = some b21 ∧ gK G b21 = 22 ∧ vp_in v9 (gN G b21) ∧ if (gI G b21 (v9).toNatClampNeg) = 0 then (wpX11_cureOf_75 Q k27 (fun y0 y1 y2 y3 y4 y5 y6 y7 => wpX11_cureOf_44 Q k27 n y0 y1 y2 y3 y4 y5 y6 y7) v0 v3 v5 v6 v7 v9 G) else (if (v9 &&& v7) = 0 then (wpX11_cureOf_80 Q k27 (fun y0 y1 y2 y3 y4 y5 y6 y7 => wpX11_cureOf_44 Q k27 n y0 y1 y2 y3 y4 y5 y6 y7) v0 v3 v5 v6 v7 v9 0 G) else (wpX11_cureOf_75 Q k27 (fun y0 y1 y2 y3 y4 y5 y6 y7 => wpX11_cureOf_44 Q k27 n y0 y1 y2 y3 y4 y5 y6 y7) v0 v3 v5 v6 v7 v9 G))))
def wpX11_cureOf_27 (Q : Int64 → Wd → Prop) : Nat → Nat → Int64 → Int32 → Int32 → Int32 → Wd → Prop
  | 0, _, _, _, _, _, _ => False
  | n + 1, v0, v3, v5, v6, v7, G => gK G v0 = 11 ∧ if (1 <<< ((gI G v0 44) &&& 31)) ≤ v7 then (Q v3 G) else (∃ m, wpX11_cureOf_44 Q (fun y0 y1 y2 y3 y4 y5 => wpX11_cureOf_27 Q n y0 y1 y2 y3 y4 y5) m v0 v3 v5 v6 v7 1 0 G)
set_option maxRecDepth 100000 in
def wpX11_cureOf (a0 : Nat) (p1 : Int32) (p2 : Int32) (G : Wd) (Q : Int64 → Wd → Prop) : Prop := gK G a0 = 11 ∧ wpX11_findRings a0 p1 p2 1 G (fun r27 G28 => if r27 = 0 then (Q (-9000000000000000004) G28) else (∃ m, wpX11_cureOf_27 Q m a0 (-9000000000000000005) 0 0 0 G28))
abbrev rmX11_cureOf : Room := { frames := 20, cells := 0, slots := 0, locals := 507 }
set_option maxRecDepth 100000 in
def wpX11_cure (a0 : Nat) (p1 : Int32) (G : Wd) (Q : Int64 → Wd → Prop) : Prop := wpX11_isTime p1 G (fun r1 G2 => if r1 = 0 then (Q (-9000000000000000001) G2) else (gK G2 a0 = 11 ∧ wpX11_cureOf a0 (p1 / 10000) (p1 % 10000) G2 (fun r4 G5 => Q r4 G5)))
abbrev rmX11_cure : Room := { frames := 21, cells := 0, slots := 0, locals := 540 }
def wpX11_heal_74 (Q : Int64 → Wd → Prop) (k40 : Nat → Int64 → Int64 → Int32 → Wd → Prop) (v0 : Nat) (v2 : Int64) (v4 : Int64) (v6 : Int32) (G : Wd) : Prop := ∀ x1 : Int32, x1 = v6 + 1 → k40 v0 v2 v4 x1 G
def wpX11_heal_40 (Q : Int64 → Wd → Prop) : Nat → Nat → Int64 → Int64 → Int32 → Wd → Prop
  | 0, _, _, _, _, _ => False
  | n + 1, v0, v2, v4, v6, G => gK G v0 = 11 ∧ if (gI G v0 1) ≤ v6 then (Q v4 G) else (if ((v2 >>> ((v6).toInt64 &&& 63)) &&& 1) = 1 then (∃ b3, gR G v0 12 = some b3 ∧ gK G b3 = 22 ∧ vp_in v6 (gN G b3) ∧ ∀ G7 : Wd, G7 = uI G b3 (v6).toNatClampNeg 1 → ∀ x8 : Int64, x8 = (v4 + 1) → wpX11_heal_74 Q (fun y0 y1 y2 y3 y4 => wpX11_heal_40 Q n y0 y1 y2 y3 y4) v0 v2 x8 v6 G7) else (wpX11_heal_74 Q (fun y0 y1 y2 y3 y4 => wpX11_heal_40 Q n y0 y1 y2 y3 y4) v0 v2 v4 v6 G))
set_option maxRecDepth 100000 in
def wpX11_heal (a0 : Nat) (p1 : Int32) (G : Wd) (Q : Int64 → Wd → Prop) : Prop := wpX11_isTime p1 G (fun r9 G10 => if r9 = 0 then (Q (-9000000000000000001) G10) else (gK G10 a0 = 11 ∧ wpX11_cureOf a0 (p1 / 10000) (p1 % 10000) G10 (fun r12 G13 => if r12 < 0 then (Q r12 G13) else (∃ m, wpX11_heal_40 Q m a0 r12 0 0 G13))))
abbrev rmX11_heal : Room := { frames := 21, cells := 0, slots := 0, locals := 540 }
set_option maxRecDepth 100000 in
def wpX11_isCustom (p0 : Int32) (G : Wd) (Q : Int32 → Wd → Prop) : Prop := wpX11_isIn ((p0).toInt64) 0 3 G (fun r1 G2 => isB r1 ∧ Q r1 G2)
abbrev rmX11_isCustom : Room := { frames := 1, cells := 0, slots := 0, locals := 25 }
def wpX11_custom_33 (Q : Int64 → Wd → Prop) : Nat → Nat → Int32 → Int32 → Int32 → Wd → Prop
  | 0, _, _, _, _, _ => False
  | n + 1, v0, v1, v2, v3, G => if 5 ≤ v3 then (Q ((v2).toInt64) G) else (gK G v0 = 11 ∧ ∃ b2, gR G v0 14 = some b2 ∧ gK G b2 = 20 ∧ vp_in ((5 * v1) + v3) (gN G b2) ∧ ∀ G6 : Wd, G6 = uI G b2 (((5 * v1) + v3)).toNatClampNeg 2 → ∀ x7 : Int32, x7 = v3 + 1 → wpX11_custom_33 Q n v0 v1 v2 x7 G6)
set_option maxRecDepth 100000 in
def wpX11_custom (a0 : Nat) (p1 : Int32) (p2 : Int32) (G : Wd) (Q : Int64 → Wd → Prop) : Prop := wpX11_isCustom p1 G (fun r8 G9 => if r8 = 0 then (Q (-9000000000000000001) G9) else (if p2 ≤ 5 then (if 0 ≤ p2 then (gK G9 a0 = 11 ∧ ∃ b11, gR G9 a0 13 = some b11 ∧ gK G9 b11 = 20 ∧ vp_in p1 (gN G9 b11) ∧ ∀ G15 : Wd, G15 = uI G9 b11 (p1).toNatClampNeg p2 → ∃ m, wpX11_custom_33 Q m a0 p1 p2 0 G15) else (Q (-9000000000000000014) G9)) else (Q (-9000000000000000001) G9)))
abbrev rmX11_custom : Room := { frames := 2, cells := 0, slots := 0, locals := 45 }
set_option maxRecDepth 100000 in
theorem sX11_theWay {l : Launch} {D : Dx} {a0 : Nat} {p1 : Int32} {p2 : Int32} {p3 : Int32} {p4 : Int32} {G : Wd} {Q : Int64 → Wd → Prop} (hw : wpX11_theWay a0 p1 p2 p3 p4 G Q) : Met l yX11_theWay (wM yX11_theWay cX11_theWay 5 (some .long)) rmX11_theWay (PM D [.ref a0, .int p1, .int p2, .int p3, .int p4] G) (QMl D Q) 0 0 (Ab D) := by
  refine v_met (by decide) (Nat.le_of_ble_eq_true rfl) (fun X hl hR F => ?_)
  subst hl
  have F : Fx X D cX11_theWay 5 RX11 (some .long) "theWay" := F
  refine v_cast (L' := [(0, .ref a0), (1, .int p1), (2, .int p2), (3, .int p3), (4, .int p4)]) rfl rfl ?_
  unfold wpX11_theWay at hw
  refine v_aload_n F dX11_theWay_0 rfl 0 rfl ?_
  refine v_iload_n F dX11_theWay_1 rfl 3 rfl ?_
  refine v_iload F dX11_theWay_2 4 rfl ?_
  obtain ⟨kd1, hw⟩ := hw
  refine v_callv (r_V F lk_X11_263 kd1 (sX11_findCounted hw) (mkRm hR rfl rfl rfl rfl rfl rfl) rfl rfl (Nat.le_of_ble_eq_true rfl) dX11_theWay_4) (fun G3 hw => ?_)
  refine v_aload_n F dX11_theWay_7 rfl 0 rfl ?_
  refine v_iload_n F dX11_theWay_8 rfl 1 rfl ?_
  refine v_iload_n F dX11_theWay_9 rfl 2 rfl ?_
  refine v_iconst (v := 0) F dX11_theWay_10 (by decide) ?_
  refine v_iconst (v := 0) F dX11_theWay_11 (by decide) ?_
  obtain ⟨kd4, hw⟩ := hw
  refine v_callv (r_V F lk_X11_266 kd4 (sX11_seek hw) (mkRm hR rfl rfl rfl rfl rfl rfl) rfl rfl (Nat.le_of_ble_eq_true rfl) dX11_theWay_12) (fun G6 hw => ?_)
  refine v_aload_n F dX11_theWay_15 rfl 0 rfl ?_
  obtain ⟨kd7, hw⟩ := hw
  refine v_get F fl_X11_237 kd7 rfl dX11_theWay_16 ?_
  refine v_if_ne (tgt := 26) F dX11_theWay_19 (by decide) (fun h => ?_) (fun h => ?_)
  · rw [if_neg h] at hw
    refine v_aload_n F dX11_theWay_26 rfl 0 rfl ?_
    refine v_aload_n F dX11_theWay_27 rfl 0 rfl ?_
    obtain ⟨b8, hr9, hw⟩ := hw
    refine v_getS F fl_X11_78 (fun _ => rfl) kd7 hr9 dX11_theWay_28 ?_
    refine v_aload_n F dX11_theWay_31 rfl 0 rfl ?_
    refine v_get F fl_X11_240 kd7 rfl dX11_theWay_32 ?_
    refine v_iconst (v := 0) F dX11_theWay_35 (by decide) ?_
    refine v_callv (r_V F lk_X11_208 kd7 (sX11_product hw) (mkRm hR rfl rfl rfl rfl rfl rfl) rfl rfl (Nat.le_of_ble_eq_true rfl) dX11_theWay_36) (fun G11 hw => ?_)
    refine v_aload_n F dX11_theWay_39 rfl 0 rfl ?_
    refine v_aload_n F dX11_theWay_40 rfl 0 rfl ?_
    obtain ⟨kd12, hw⟩ := hw
    refine v_get F fl_X11_94 kd12 rfl dX11_theWay_41 ?_
    refine v_putJ F fl_X11_215 (fun h => absurd h (by decide)) rfl kd12 dX11_theWay_44 ?_
    refine v_nmG (fun G13 hG13 => ?_)
    have hw := hw G13 hG13
    refine v_aload_n F dX11_theWay_47 rfl 0 rfl ?_
    refine v_aload_n F dX11_theWay_48 rfl 0 rfl ?_
    have kd14 : gK G13 a0 = 11 := by rw [hG13]; exact kd12
    refine v_get F fl_X11_98 kd14 rfl dX11_theWay_49 ?_
    refine v_putJ F fl_X11_218 (fun h => absurd h (by decide)) rfl kd14 dX11_theWay_52 ?_
    refine v_nmG (fun G15 hG15 => ?_)
    have hw := hw G15 hG15
    refine v_aload_n F dX11_theWay_55 rfl 0 rfl ?_
    refine v_aload_n F dX11_theWay_56 rfl 0 rfl ?_
    have kd16 : gK G15 a0 = 11 := by rw [hG15]; exact kd14
    obtain ⟨b17, hr18, hw⟩ := hw
    refine v_getS F fl_X11_78 (fun _ => rfl) kd16 hr18 dX11_theWay_57 ?_
    refine v_aload_n F dX11_theWay_60 rfl 0 rfl ?_
    refine v_get F fl_X11_240 kd16 rfl dX11_theWay_61 ?_
    refine v_iconst (v := 1) F dX11_theWay_64 (by decide) ?_
    refine v_callv (r_V F lk_X11_208 kd16 (sX11_product hw) (mkRm hR rfl rfl rfl rfl rfl rfl) rfl rfl (Nat.le_of_ble_eq_true rfl) dX11_theWay_65) (fun G20 hw => ?_)
    refine v_aload_n F dX11_theWay_68 rfl 0 rfl ?_
    refine v_aload_n F dX11_theWay_69 rfl 0 rfl ?_
    obtain ⟨kd21, hw⟩ := hw
    refine v_get F fl_X11_94 kd21 rfl dX11_theWay_70 ?_
    refine v_putJ F fl_X11_225 (fun h => absurd h (by decide)) rfl kd21 dX11_theWay_73 ?_
    refine v_nmG (fun G22 hG22 => ?_)
    have hw := hw G22 hG22
    refine v_aload_n F dX11_theWay_76 rfl 0 rfl ?_
    refine v_aload_n F dX11_theWay_77 rfl 0 rfl ?_
    have kd23 : gK G22 a0 = 11 := by rw [hG22]; exact kd21
    refine v_get F fl_X11_98 kd23 rfl dX11_theWay_78 ?_
    refine v_putJ F fl_X11_228 (fun h => absurd h (by decide)) rfl kd23 dX11_theWay_81 ?_
    refine v_nmG (fun G24 hG24 => ?_)
    have hw := hw G24 hG24
    refine v_aload_n F dX11_theWay_84 rfl 0 rfl ?_
    have kd25 : gK G24 a0 = 11 := by rw [hG24]; exact kd23
    refine v_get F fl_X11_103 kd25 rfl dX11_theWay_85 ?_
    refine v_if_eq (tgt := 97) F dX11_theWay_88 (by decide) (fun h => ?_) (fun h => ?_)
    · rw [if_pos h] at hw
      refine v_lconst (v := 0) F dX11_theWay_97 rfl ?_
      refine v_widen (c' := 0) (s' := 0) (by decide) (by decide) ?_
      exact v_lret F hw dX11_theWay_98
    · rw [if_neg h] at hw
      refine v_ldc2 (v := (-9000000000000000004)) F wd_1180 dX11_theWay_91 ?_
      refine v_goto (tgt := 98) F dX11_theWay_94 (by decide) ?_
      refine v_widen (c' := 0) (s' := 0) (by decide) (by decide) ?_
      exact v_lret F hw dX11_theWay_98
  · rw [if_pos h] at hw
    refine v_ldc2 (v := (-9000000000000000005)) F wd_1168 dX11_theWay_22 ?_
    refine v_widen (c' := 0) (s' := 0) (by decide) (by decide) ?_
    exact v_lret F hw dX11_theWay_25
set_option maxRecDepth 100000 in
theorem sX11_endTold {l : Launch} {D : Dx} {a0 : Nat} {p1 : Int32} {p2 : Int32} {G : Wd} {Q : Int64 → Wd → Prop} (hw : wpX11_endTold a0 p1 p2 G Q) : Met l yX11_endTold (wM yX11_endTold cX11_endTold 3 (some .long)) rmX11_endTold (PM D [.ref a0, .int p1, .int p2] G) (QMl D Q) 0 0 (Ab D) := by
  refine v_met (by decide) (Nat.le_of_ble_eq_true rfl) (fun X hl hR F => ?_)
  subst hl
  have F : Fx X D cX11_endTold 3 RX11 (some .long) "endTold" := F
  refine v_cast (L' := [(0, .ref a0), (1, .int p1), (2, .int p2)]) rfl rfl ?_
  unfold wpX11_endTold at hw
  refine v_iload_n F dX11_endTold_0 rfl 1 rfl ?_
  refine v_if_ne (tgt := 22) F dX11_endTold_1 (by decide) (fun h => ?_) (fun h => ?_)
  · rw [if_neg h] at hw
    refine v_iload_n F dX11_endTold_22 rfl 2 rfl ?_
    refine v_if_ne (tgt := 33) F dX11_endTold_23 (by decide) (fun h => ?_) (fun h => ?_)
    · rw [if_neg h] at hw
      refine v_aload_n F dX11_endTold_33 rfl 0 rfl ?_
      obtain ⟨kd1, hw⟩ := hw
      refine v_get F fl_X11_228 kd1 rfl dX11_endTold_34 ?_
      exact v_lret F hw dX11_endTold_37
    · rw [if_pos h] at hw
      refine v_aload_n F dX11_endTold_26 rfl 0 rfl ?_
      obtain ⟨kd2, hw⟩ := hw
      refine v_get F fl_X11_225 kd2 rfl dX11_endTold_27 ?_
      refine v_goto (tgt := 37) F dX11_endTold_30 (by decide) ?_
      exact v_lret F hw dX11_endTold_37
  · rw [if_pos h] at hw
    refine v_iload_n F dX11_endTold_4 rfl 2 rfl ?_
    refine v_if_ne (tgt := 15) F dX11_endTold_5 (by decide) (fun h => ?_) (fun h => ?_)
    · rw [if_neg h] at hw
      refine v_aload_n F dX11_endTold_15 rfl 0 rfl ?_
      obtain ⟨kd3, hw⟩ := hw
      refine v_get F fl_X11_218 kd3 rfl dX11_endTold_16 ?_
      refine v_goto (tgt := 37) F dX11_endTold_19 (by decide) ?_
      exact v_lret F hw dX11_endTold_37
    · rw [if_pos h] at hw
      refine v_aload_n F dX11_endTold_8 rfl 0 rfl ?_
      obtain ⟨kd4, hw⟩ := hw
      refine v_get F fl_X11_215 kd4 rfl dX11_endTold_9 ?_
      refine v_goto (tgt := 37) F dX11_endTold_12 (by decide) ?_
      exact v_lret F hw dX11_endTold_37
set_option maxRecDepth 100000 in
theorem sX11_isEnd {l : Launch} {D : Dx} {p0 : Int32} {p1 : Int32} {G : Wd} {Q : Int32 → Wd → Prop} (hw : wpX11_isEnd p0 p1 G Q) : Met l yX11_isEnd (wM yX11_isEnd cX11_isEnd 2 (some .boolean)) rmX11_isEnd (PM D [.int p0, .int p1] G) (QMi D Q) 0 0 (Ab D) := by
  refine v_met (by decide) (Nat.le_of_ble_eq_true rfl) (fun X hl hR F => ?_)
  subst hl
  have F : Fx X D cX11_isEnd 2 RX11 (some .boolean) "isEnd" := F
  refine v_cast (L' := [(0, .int p0), (1, .int p1)]) rfl rfl ?_
  unfold wpX11_isEnd at hw
  refine v_iload_n F dX11_isEnd_0 rfl 0 rfl ?_
  refine v_i2l F dX11_isEnd_1 ?_
  refine v_lconst (v := 0) F dX11_isEnd_2 rfl ?_
  refine v_lconst (v := 1) F dX11_isEnd_3 rfl ?_
  refine v_calli (r_S F ls_X11_145 (sX11_isIn hw) (mkRm hR rfl rfl rfl rfl rfl rfl) rfl rfl (Nat.le_of_ble_eq_true rfl) dX11_isEnd_4) (fun r1 G2 hw => ?_)
  refine v_if_eq (tgt := 24) F dX11_isEnd_7 (by decide) (fun h => ?_) (fun h => ?_)
  · rw [if_pos h] at hw
    refine v_iconst (v := 0) F dX11_isEnd_24 (by decide) ?_
    refine v_widen (c' := 0) (s' := 0) (by decide) (by decide) ?_
    exact v_zret F (Or.inl rfl) hw dX11_isEnd_25
  · rw [if_neg h] at hw
    refine v_iload_n F dX11_isEnd_10 rfl 1 rfl ?_
    refine v_i2l F dX11_isEnd_11 ?_
    refine v_lconst (v := 0) F dX11_isEnd_12 rfl ?_
    refine v_lconst (v := 1) F dX11_isEnd_13 rfl ?_
    refine v_calli (r_S F ls_X11_145 (sX11_isIn hw) (mkRm hR rfl rfl rfl rfl rfl rfl) rfl rfl (Nat.le_of_ble_eq_true rfl) dX11_isEnd_14) (fun r3 G4 hw => ?_)
    refine v_if_eq (tgt := 24) F dX11_isEnd_17 (by decide) (fun h => ?_) (fun h => ?_)
    · rw [if_pos h] at hw
      refine v_iconst (v := 0) F dX11_isEnd_24 (by decide) ?_
      refine v_widen (c' := 0) (s' := 0) (by decide) (by decide) ?_
      exact v_zret F (Or.inl rfl) hw dX11_isEnd_25
    · rw [if_neg h] at hw
      refine v_iconst (v := 1) F dX11_isEnd_20 (by decide) ?_
      refine v_goto (tgt := 25) F dX11_isEnd_21 (by decide) ?_
      refine v_widen (c' := 0) (s' := 0) (by decide) (by decide) ?_
      exact v_zret F (Or.inr rfl) hw dX11_isEnd_25
set_option maxRecDepth 100000 in
theorem sX11_factor {l : Launch} {D : Dx} {a0 : Nat} {p1 : Int32} {p2 : Int32} {p3 : Int32} {p4 : Int32} {G : Wd} {Q : Int64 → Wd → Prop} (hw : wpX11_factor a0 p1 p2 p3 p4 G Q) : Met l yX11_factor (wM yX11_factor cX11_factor 7 (some .long)) rmX11_factor (PM D [.ref a0, .int p1, .int p2, .int p3, .int p4] G) (QMl D Q) 0 0 (Ab D) := by
  refine v_met (by decide) (Nat.le_of_ble_eq_true rfl) (fun X hl hR F => ?_)
  subst hl
  have F : Fx X D cX11_factor 7 RX11 (some .long) "factor" := F
  refine v_cast (L' := [(0, .ref a0), (1, .int p1), (2, .int p2), (3, .int p3), (4, .int p4)]) rfl rfl ?_
  unfold wpX11_factor at hw
  refine v_iload_n F dX11_factor_0 rfl 1 rfl ?_
  refine v_calli (r_S F ls_X11_257 (sX11_isPair hw) (mkRm hR rfl rfl rfl rfl rfl rfl) rfl rfl (Nat.le_of_ble_eq_true rfl) dX11_factor_1) (fun r1 G2 hw => ?_)
  refine v_if_eq (tgt := 23) F dX11_factor_4 (by decide) (fun h => ?_) (fun h => ?_)
  · rw [if_pos h] at hw
    refine v_ldc2 (v := (-9000000000000000001)) F wd_1021 dX11_factor_23 ?_
    refine v_widen (c' := 0) (s' := 0) (by decide) (by decide) ?_
    exact v_lret F hw dX11_factor_26
  · rw [if_neg h] at hw
    refine v_iload_n F dX11_factor_7 rfl 2 rfl ?_
    refine v_calli (r_S F ls_X11_260 (sX11_isTime hw) (mkRm hR rfl rfl rfl rfl rfl rfl) rfl rfl (Nat.le_of_ble_eq_true rfl) dX11_factor_8) (fun r3 G4 hw => ?_)
    refine v_if_eq (tgt := 23) F dX11_factor_11 (by decide) (fun h => ?_) (fun h => ?_)
    · rw [if_pos h] at hw
      refine v_ldc2 (v := (-9000000000000000001)) F wd_1021 dX11_factor_23 ?_
      refine v_widen (c' := 0) (s' := 0) (by decide) (by decide) ?_
      exact v_lret F hw dX11_factor_26
    · rw [if_neg h] at hw
      refine v_iload_n F dX11_factor_14 rfl 3 rfl ?_
      refine v_iload F dX11_factor_15 4 rfl ?_
      refine v_calli (r_S F ls_X11_274 (sX11_isEnd hw) (mkRm hR rfl rfl rfl rfl rfl rfl) rfl rfl (Nat.le_of_ble_eq_true rfl) dX11_factor_17) (fun r5 G6 hw => ?_)
      refine v_if_ne (tgt := 27) F dX11_factor_20 (by decide) (fun h => ?_) (fun h => ?_)
      · rw [if_neg h] at hw
        refine v_aload_n F dX11_factor_27 rfl 0 rfl ?_
        refine v_iload_n F dX11_factor_28 rfl 1 rfl ?_
        refine v_bipush (v := 10) F dX11_factor_29 (by decide) ?_
        refine v_idiv F dX11_factor_31 (by decide) ?_
        refine v_iload_n F dX11_factor_32 rfl 1 rfl ?_
        refine v_bipush (v := 10) F dX11_factor_33 (by decide) ?_
        refine v_iremE F dX11_factor_35 (by decide) ?_
        refine v_iload_n F dX11_factor_36 rfl 2 rfl ?_
        refine v_sipush (v := 10000) F dX11_factor_37 (by decide) ?_
        refine v_idiv F dX11_factor_40 (by decide) ?_
        refine v_iload_n F dX11_factor_41 rfl 2 rfl ?_
        refine v_sipush (v := 10000) F dX11_factor_42 (by decide) ?_
        refine v_iremE F dX11_factor_45 (by decide) ?_
        obtain ⟨kd7, hw⟩ := hw
        refine v_calll (r_V F lk_X11_277 kd7 (sX11_theWay hw) (mkRm hR rfl rfl rfl rfl rfl rfl) rfl rfl (Nat.le_of_ble_eq_true rfl) dX11_factor_46) (fun r8 G9 hw => ?_)
        refine v_lstore (L' := [(5, .long r8), (0, .ref a0), (1, .int p1), (2, .int p2), (3, .int p3), (4, .int p4)]) F dX11_factor_49 (by decide) rfl ?_
        refine v_lload F dX11_factor_51 0 rfl ?_
        refine v_lconst (v := 0) F dX11_factor_53 rfl ?_
        refine v_lcmp F dX11_factor_54 ?_
        refine v_lif_eq (tgt := 63) F dX11_factor_55 (by decide) (fun h => ?_) (fun h => ?_)
        · rw [if_pos h] at hw
          refine v_aload_n F dX11_factor_63 rfl 1 rfl ?_
          refine v_iload_n F dX11_factor_64 rfl 4 rfl ?_
          refine v_iload F dX11_factor_65 5 rfl ?_
          obtain ⟨kd10, hw⟩ := hw
          refine v_calll (r_V F lk_X11_281 kd10 (sX11_endTold hw) (mkRm hR rfl rfl rfl rfl rfl rfl) rfl rfl (Nat.le_of_ble_eq_true rfl) dX11_factor_67) (fun r11 G12 hw => ?_)
          refine v_widen (c' := 0) (s' := 0) (by decide) (by decide) ?_
          exact v_lret F hw dX11_factor_70
        · rw [if_neg h] at hw
          refine v_lload F dX11_factor_58 0 rfl ?_
          refine v_goto (tgt := 70) F dX11_factor_60 (by decide) ?_
          refine v_widen (c' := 0) (s' := 0) (by decide) (by decide) ?_
          exact v_lret F hw dX11_factor_70
      · rw [if_pos h] at hw
        refine v_ldc2 (v := (-9000000000000000001)) F wd_1021 dX11_factor_23 ?_
        refine v_widen (c' := 0) (s' := 0) (by decide) (by decide) ?_
        exact v_lret F hw dX11_factor_26
set_option maxRecDepth 100000 in
theorem sX11_span {l : Launch} {D : Dx} {a0 : Nat} {p1 : Int32} {p2 : Int32} {p3 : Int32} {p4 : Int32} {G : Wd} {Q : Int64 → Wd → Prop} (hw : wpX11_span a0 p1 p2 p3 p4 G Q) : Met l yX11_span (wM yX11_span cX11_span 5 (some .long)) rmX11_span (PM D [.ref a0, .int p1, .int p2, .int p3, .int p4] G) (QMl D Q) 0 0 (Ab D) := by
  refine v_met (by decide) (Nat.le_of_ble_eq_true rfl) (fun X hl hR F => ?_)
  subst hl
  have F : Fx X D cX11_span 5 RX11 (some .long) "span" := F
  refine v_cast (L' := [(0, .ref a0), (1, .int p1), (2, .int p2), (3, .int p3), (4, .int p4)]) rfl rfl ?_
  unfold wpX11_span at hw
  refine v_iload_n F dX11_span_0 rfl 1 rfl ?_
  refine v_calli (r_S F ls_X11_257 (sX11_isPair hw) (mkRm hR rfl rfl rfl rfl rfl rfl) rfl rfl (Nat.le_of_ble_eq_true rfl) dX11_span_1) (fun r1 G2 hw => ?_)
  refine v_if_eq (tgt := 23) F dX11_span_4 (by decide) (fun h => ?_) (fun h => ?_)
  · rw [if_pos h] at hw
    refine v_ldc2 (v := (-9000000000000000001)) F wd_1021 dX11_span_23 ?_
    refine v_widen (c' := 0) (s' := 0) (by decide) (by decide) ?_
    exact v_lret F hw dX11_span_26
  · rw [if_neg h] at hw
    refine v_iload_n F dX11_span_7 rfl 2 rfl ?_
    refine v_calli (r_S F ls_X11_260 (sX11_isTime hw) (mkRm hR rfl rfl rfl rfl rfl rfl) rfl rfl (Nat.le_of_ble_eq_true rfl) dX11_span_8) (fun r3 G4 hw => ?_)
    refine v_if_eq (tgt := 23) F dX11_span_11 (by decide) (fun h => ?_) (fun h => ?_)
    · rw [if_pos h] at hw
      refine v_ldc2 (v := (-9000000000000000001)) F wd_1021 dX11_span_23 ?_
      refine v_widen (c' := 0) (s' := 0) (by decide) (by decide) ?_
      exact v_lret F hw dX11_span_26
    · rw [if_neg h] at hw
      refine v_iload_n F dX11_span_14 rfl 3 rfl ?_
      refine v_iload F dX11_span_15 4 rfl ?_
      refine v_calli (r_S F ls_X11_274 (sX11_isEnd hw) (mkRm hR rfl rfl rfl rfl rfl rfl) rfl rfl (Nat.le_of_ble_eq_true rfl) dX11_span_17) (fun r5 G6 hw => ?_)
      refine v_if_ne (tgt := 27) F dX11_span_20 (by decide) (fun h => ?_) (fun h => ?_)
      · rw [if_neg h] at hw
        refine v_aload_n F dX11_span_27 rfl 0 rfl ?_
        refine v_iload_n F dX11_span_28 rfl 2 rfl ?_
        refine v_sipush (v := 10000) F dX11_span_29 (by decide) ?_
        refine v_idiv F dX11_span_32 (by decide) ?_
        refine v_iload_n F dX11_span_33 rfl 2 rfl ?_
        refine v_sipush (v := 10000) F dX11_span_34 (by decide) ?_
        refine v_iremE F dX11_span_37 (by decide) ?_
        obtain ⟨kd7, hw⟩ := hw
        refine v_callv (r_V F lk_X11_263 kd7 (sX11_findCounted hw) (mkRm hR rfl rfl rfl rfl rfl rfl) rfl rfl (Nat.le_of_ble_eq_true rfl) dX11_span_38) (fun G9 hw => ?_)
        refine v_aload_n F dX11_span_41 rfl 0 rfl ?_
        refine v_iload_n F dX11_span_42 rfl 1 rfl ?_
        refine v_bipush (v := 10) F dX11_span_43 (by decide) ?_
        refine v_idiv F dX11_span_45 (by decide) ?_
        refine v_iload_n F dX11_span_46 rfl 1 rfl ?_
        refine v_bipush (v := 10) F dX11_span_47 (by decide) ?_
        refine v_iremE F dX11_span_49 (by decide) ?_
        refine v_iconst (v := (-1)) F dX11_span_50 (by decide) ?_
        refine v_iconst (v := 1) F dX11_span_51 (by decide) ?_
        obtain ⟨kd10, hw⟩ := hw
        refine v_callv (r_V F lk_X11_266 kd10 (sX11_seek hw) (mkRm hR rfl rfl rfl rfl rfl rfl) rfl rfl (Nat.le_of_ble_eq_true rfl) dX11_span_52) (fun G12 hw => ?_)
        refine v_aload_n F dX11_span_55 rfl 0 rfl ?_
        obtain ⟨kd13, hw⟩ := hw
        refine v_get F fl_X11_231 kd13 rfl dX11_span_56 ?_
        refine v_if_ne (tgt := 66) F dX11_span_59 (by decide) (fun h => ?_) (fun h => ?_)
        · rw [if_neg h] at hw
          refine v_aload_n F dX11_span_66 rfl 0 rfl ?_
          refine v_get F fl_X11_103 kd13 rfl dX11_span_67 ?_
          refine v_if_eq (tgt := 79) F dX11_span_70 (by decide) (fun h => ?_) (fun h => ?_)
          · rw [if_pos h] at hw
            refine v_aload_n F dX11_span_79 rfl 0 rfl ?_
            refine v_iload_n F dX11_span_80 rfl 3 rfl ?_
            refine v_iload F dX11_span_81 4 rfl ?_
            refine v_calll (r_V F lk_X11_281 kd13 (sX11_endTold hw) (mkRm hR rfl rfl rfl rfl rfl rfl) rfl rfl (Nat.le_of_ble_eq_true rfl) dX11_span_83) (fun r14 G15 hw => ?_)
            refine v_widen (c' := 0) (s' := 0) (by decide) (by decide) ?_
            exact v_lret F hw dX11_span_86
          · rw [if_neg h] at hw
            refine v_ldc2 (v := (-9000000000000000004)) F wd_1180 dX11_span_73 ?_
            refine v_goto (tgt := 86) F dX11_span_76 (by decide) ?_
            refine v_widen (c' := 0) (s' := 0) (by decide) (by decide) ?_
            exact v_lret F hw dX11_span_86
        · rw [if_pos h] at hw
          refine v_ldc2 (v := (-9000000000000000005)) F wd_1168 dX11_span_62 ?_
          refine v_widen (c' := 0) (s' := 0) (by decide) (by decide) ?_
          exact v_lret F hw dX11_span_65
      · rw [if_pos h] at hw
        refine v_ldc2 (v := (-9000000000000000001)) F wd_1021 dX11_span_23 ?_
        refine v_widen (c' := 0) (s' := 0) (by decide) (by decide) ?_
        exact v_lret F hw dX11_span_26
set_option maxRecDepth 100000 in
theorem sbX11_isAhead_39 {X : Cx} {D : Dx} (hR : X.2.2.2.1 = rmX11_isAhead) (F : Fx X D cX11_isAhead 2 RX11 (some .boolean) "isAhead") {Q : Int32 → Wd → Prop} {v0 : Nat} {v1 : Int32} {G : Wd} (hw : wpX11_isAhead_39 Q  v0 v1 G) : V X D 2 (ZM X D (QMi D Q) 0 0) G 0 0 39 [(0, .ref v0), (1, .int v1)] [] := by
  unfold wpX11_isAhead_39 at hw
  refine v_aload_n F dX11_isAhead_39 rfl 0 rfl ?_
  obtain ⟨kd1, hw⟩ := hw
  obtain ⟨b2, hr3, hw⟩ := hw
  refine v_getS F fl_X11_75 (fun _ => rfl) kd1 hr3 dX11_isAhead_40 ?_
  refine v_iload_n F dX11_isAhead_43 rfl 1 rfl ?_
  obtain ⟨kd4, hw⟩ := hw
  obtain ⟨hi5, hw⟩ := hw
  refine v_ialdE F rfl kd4 hi5 dX11_isAhead_44 ?_
  refine v_bipush (v := 100) F dX11_isAhead_45 (by decide) ?_
  refine v_iremE F dX11_isAhead_47 (by decide) ?_
  refine v_aload_n F dX11_isAhead_48 rfl 0 rfl ?_
  obtain ⟨b6, hr7, hw⟩ := hw
  refine v_getS F fl_X11_78 (fun _ => rfl) kd1 hr7 dX11_isAhead_49 ?_
  refine v_iload_n F dX11_isAhead_52 rfl 1 rfl ?_
  obtain ⟨kd8, hw⟩ := hw
  obtain ⟨hi9, hw⟩ := hw
  refine v_ialdE F rfl kd8 hi9 dX11_isAhead_53 ?_
  refine v_bipush (v := 100) F dX11_isAhead_54 (by decide) ?_
  refine v_iremE F dX11_isAhead_56 (by decide) ?_
  refine v_icmp_ge (tgt := 64) F dX11_isAhead_57 (by decide) (fun h => ?_) (fun h => ?_)
  · rw [if_pos h] at hw
    refine v_iconst (v := 0) F dX11_isAhead_64 (by decide) ?_
    exact v_zret F (Or.inl rfl) hw dX11_isAhead_65
  · rw [if_neg h] at hw
    refine v_iconst (v := 1) F dX11_isAhead_60 (by decide) ?_
    refine v_goto (tgt := 65) F dX11_isAhead_61 (by decide) ?_
    exact v_zret F (Or.inr rfl) hw dX11_isAhead_65
set_option maxRecDepth 100000 in
theorem sbX11_isAhead_2 {X : Cx} {D : Dx} (hR : X.2.2.2.1 = rmX11_isAhead) (F : Fx X D cX11_isAhead 2 RX11 (some .boolean) "isAhead") {Q : Int32 → Wd → Prop} : ∀ (n : Nat) (v0 : Nat) (v1 : Int32) (G : Wd), wpX11_isAhead_2 Q  n v0 v1 G → V X D 2 (ZM X D (QMi D Q) 0 0) G 0 0 2 [(0, .ref v0), (1, .int v1)] [] := by
  intro n
  induction n with
  | zero => intro v0 v1 G hw; exact hw.elim
  | succ n ih =>
    intro v0 v1 G hw
    simp only [wpX11_isAhead_2] at hw
    refine v_iload_n F dX11_isAhead_2 rfl 1 rfl ?_
    refine v_aload_n F dX11_isAhead_3 rfl 0 rfl ?_
    obtain ⟨kd10, hw⟩ := hw
    refine v_get F fl_X11_205 kd10 rfl dX11_isAhead_4 ?_
    refine v_iconst (v := 1) F dX11_isAhead_7 (by decide) ?_
    refine v_isub F dX11_isAhead_8 ?_
    refine v_icmp_ge (tgt := 39) F dX11_isAhead_9 (by decide) (fun h => ?_) (fun h => ?_)
    · rw [if_pos h] at hw
      exact v_loc [0, 1] rfl (sbX11_isAhead_39 hR F  hw)
    · rw [if_neg h] at hw
      refine v_aload_n F dX11_isAhead_12 rfl 0 rfl ?_
      obtain ⟨b11, hr12, hw⟩ := hw
      refine v_getS F fl_X11_75 (fun _ => rfl) kd10 hr12 dX11_isAhead_13 ?_
      refine v_iload_n F dX11_isAhead_16 rfl 1 rfl ?_
      obtain ⟨kd13, hw⟩ := hw
      obtain ⟨hi14, hw⟩ := hw
      refine v_ialdE F rfl kd13 hi14 dX11_isAhead_17 ?_
      refine v_bipush (v := 100) F dX11_isAhead_18 (by decide) ?_
      refine v_iremE F dX11_isAhead_20 (by decide) ?_
      refine v_aload_n F dX11_isAhead_21 rfl 0 rfl ?_
      obtain ⟨b15, hr16, hw⟩ := hw
      refine v_getS F fl_X11_78 (fun _ => rfl) kd10 hr16 dX11_isAhead_22 ?_
      refine v_iload_n F dX11_isAhead_25 rfl 1 rfl ?_
      obtain ⟨kd17, hw⟩ := hw
      obtain ⟨hi18, hw⟩ := hw
      refine v_ialdE F rfl kd17 hi18 dX11_isAhead_26 ?_
      refine v_bipush (v := 100) F dX11_isAhead_27 (by decide) ?_
      refine v_iremE F dX11_isAhead_29 (by decide) ?_
      refine v_icmp_ne (tgt := 39) F dX11_isAhead_30 (by decide) (fun h => ?_) (fun h => ?_)
      · rw [if_neg h] at hw
        exact v_loc [0, 1] rfl (sbX11_isAhead_39 hR F  hw)
      · rw [if_pos h] at hw
        refine v_iincN (c := 1) F dX11_isAhead_33 1 rfl (by decide) (by decide) (fun x19 hx19 => ?_)
        refine v_cast (L' := [(1, .int x19), (0, .ref v0)]) rfl rfl ?_
        have hw := hw x19 hx19
        refine v_goto (tgt := 2) F dX11_isAhead_36 (by decide) ?_
        exact v_loc [1, 0] rfl (ih _ _ _ hw)
set_option maxRecDepth 100000 in
theorem sX11_isAhead {l : Launch} {D : Dx} {a0 : Nat} {G : Wd} {Q : Int32 → Wd → Prop} (hw : wpX11_isAhead a0 G Q) : Met l yX11_isAhead (wM yX11_isAhead cX11_isAhead 2 (some .boolean)) rmX11_isAhead (PM D [.ref a0] G) (QMi D Q) 0 0 (Ab D) := by
  refine v_met (by decide) (Nat.le_of_ble_eq_true rfl) (fun X hl hR F => ?_)
  subst hl
  have F : Fx X D cX11_isAhead 2 RX11 (some .boolean) "isAhead" := F
  refine v_cast (L' := [(0, .ref a0)]) rfl rfl ?_
  unfold wpX11_isAhead at hw
  refine v_iconst (v := 0) F dX11_isAhead_0 (by decide) ?_
  refine v_istore_n (L' := [(1, .int 0), (0, .ref a0)]) F dX11_isAhead_1 rfl (by decide) rfl ?_
  obtain ⟨m, hw⟩ := hw
  exact v_loc [1, 0] rfl (sbX11_isAhead_2 hR F  m _ _ _ hw)
set_option maxRecDepth 100000 in
theorem sbX11_ring_176 {X : Cx} {D : Dx} (hR : X.2.2.2.1 = rmX11_ring) (F : Fx X D cX11_ring 7 RX11 none "ring") {Q : Wd → Prop} {k126 : Nat → Int32 → Int32 → Wd → Prop} (hk126 : ∀ v0 v5 v6 G, k126 v0 v5 v6 G → V X D 7 (ZM X D (QMv D Q) 0 0) G 0 0 126 [(0, .ref v0), (5, .int v5), (6, .int v6)] []) {v0 : Nat} {v6 : Int32} {s0 : Int32} {s1 : Int32} {G : Wd} (hw : wpX11_ring_176 Q k126 v0 v6 s0 s1 G) : V X D 7 (ZM X D (QMv D Q) 0 0) G 0 0 176 [(0, .ref v0), (6, .int v6)] [.int s1, .int s0] := by
  unfold wpX11_ring_176 at hw
  refine v_ior F dX11_ring_176 ?_
  refine v_topi (fun x1 hx1 => ?_)
  have hw := hw x1 hx1
  refine v_istore (L' := [(5, .int x1), (0, .ref v0), (6, .int v6)]) F dX11_ring_177 (by decide) rfl ?_
  refine v_iincN (c := 1) F dX11_ring_179 2 rfl (by decide) (by decide) (fun x2 hx2 => ?_)
  refine v_cast (L' := [(6, .int x2), (5, .int x1), (0, .ref v0)]) rfl rfl ?_
  have hw := hw x2 hx2
  refine v_goto (tgt := 126) F dX11_ring_182 (by decide) ?_
  exact v_loc [2, 1, 0] rfl (hk126 _ _ _ _ hw)
set_option maxRecDepth 100000 in
theorem sbX11_ring_126 {X : Cx} {D : Dx} (hR : X.2.2.2.1 = rmX11_ring) (F : Fx X D cX11_ring 7 RX11 none "ring") {Q : Wd → Prop} : ∀ (n : Nat) (v0 : Nat) (v5 : Int32) (v6 : Int32) (G : Wd), wpX11_ring_126 Q  n v0 v5 v6 G → V X D 7 (ZM X D (QMv D Q) 0 0) G 0 0 126 [(0, .ref v0), (5, .int v5), (6, .int v6)] [] := by
  intro n
  induction n with
  | zero => intro v0 v5 v6 G hw; exact hw.elim
  | succ n ih =>
    intro v0 v5 v6 G hw
    simp only [wpX11_ring_126] at hw
    refine v_iload F dX11_ring_126 2 rfl ?_
    refine v_aload_n F dX11_ring_128 rfl 0 rfl ?_
    obtain ⟨kd3, hw⟩ := hw
    refine v_get F fl_X11_205 kd3 rfl dX11_ring_129 ?_
    refine v_icmp_ge (tgt := 185) F dX11_ring_132 (by decide) (fun h => ?_) (fun h => ?_)
    · rw [if_pos h] at hw
      refine v_aload_n F dX11_ring_185 rfl 0 rfl ?_
      obtain ⟨b4, hr5, hw⟩ := hw
      refine v_getS F fl_X11_81 (fun _ => rfl) kd3 hr5 dX11_ring_186 ?_
      refine v_iload F dX11_ring_189 1 rfl ?_
      refine v_iconst (v := 1) F dX11_ring_191 (by decide) ?_
      obtain ⟨kd6, hw⟩ := hw
      obtain ⟨hi7, hw⟩ := hw
      refine v_zastE F rfl (Or.inr rfl) kd6 hi7 dX11_ring_192 (fun G8 hG8 => ?_)
      have hw := hw G8 hG8
      exact v_vret F hw dX11_ring_193
    · rw [if_neg h] at hw
      refine v_iload F dX11_ring_135 1 rfl ?_
      refine v_aload_n F dX11_ring_137 rfl 0 rfl ?_
      obtain ⟨b9, hr10, hw⟩ := hw
      refine v_getS F fl_X11_84 (fun _ => rfl) kd3 hr10 dX11_ring_138 ?_
      refine v_aload_n F dX11_ring_141 rfl 0 rfl ?_
      obtain ⟨b11, hr12, hw⟩ := hw
      refine v_getS F fl_X11_75 (fun _ => rfl) kd3 hr12 dX11_ring_142 ?_
      refine v_iload F dX11_ring_145 2 rfl ?_
      obtain ⟨kd13, hw⟩ := hw
      obtain ⟨hi14, hw⟩ := hw
      refine v_ialdE F rfl kd13 hi14 dX11_ring_147 ?_
      refine v_bipush (v := 100) F dX11_ring_148 (by decide) ?_
      refine v_iremE F dX11_ring_150 (by decide) ?_
      obtain ⟨kd15, hw⟩ := hw
      obtain ⟨hi16, hw⟩ := hw
      refine v_ialdE F rfl kd15 hi16 dX11_ring_151 ?_
      refine v_if_lt (tgt := 175) F dX11_ring_152 (by decide) (fun h => ?_) (fun h => ?_)
      · rw [if_pos h] at hw
        refine v_iconst (v := 0) F dX11_ring_175 (by decide) ?_
        exact v_loc [0, 2] rfl (sbX11_ring_176 hR F ih hw)
      · rw [if_neg h] at hw
        refine v_iconst (v := 1) F dX11_ring_155 (by decide) ?_
        refine v_aload_n F dX11_ring_156 rfl 0 rfl ?_
        obtain ⟨b17, hr18, hw⟩ := hw
        refine v_getS F fl_X11_84 (fun _ => rfl) kd3 hr18 dX11_ring_157 ?_
        refine v_aload_n F dX11_ring_160 rfl 0 rfl ?_
        obtain ⟨b19, hr20, hw⟩ := hw
        refine v_getS F fl_X11_75 (fun _ => rfl) kd3 hr20 dX11_ring_161 ?_
        refine v_iload F dX11_ring_164 2 rfl ?_
        obtain ⟨kd21, hw⟩ := hw
        obtain ⟨hi22, hw⟩ := hw
        refine v_ialdE F rfl kd21 hi22 dX11_ring_166 ?_
        refine v_bipush (v := 100) F dX11_ring_167 (by decide) ?_
        refine v_iremE F dX11_ring_169 (by decide) ?_
        obtain ⟨kd23, hw⟩ := hw
        obtain ⟨hi24, hw⟩ := hw
        refine v_ialdE F rfl kd23 hi24 dX11_ring_170 ?_
        refine v_ishl F dX11_ring_171 ?_
        refine v_goto (tgt := 176) F dX11_ring_172 (by decide) ?_
        exact v_loc [0, 2] rfl (sbX11_ring_176 hR F ih hw)
set_option maxRecDepth 100000 in
theorem sbX11_ring_120 {X : Cx} {D : Dx} (hR : X.2.2.2.1 = rmX11_ring) (F : Fx X D cX11_ring 7 RX11 none "ring") {Q : Wd → Prop} {v0 : Nat} {G : Wd} (hw : wpX11_ring_120 Q  v0 G) : V X D 7 (ZM X D (QMv D Q) 0 0) G 0 0 120 [(0, .ref v0)] [] := by
  unfold wpX11_ring_120 at hw
  refine v_iconst (v := 0) F dX11_ring_120 (by decide) ?_
  refine v_istore (L' := [(5, .int 0), (0, .ref v0)]) F dX11_ring_121 (by decide) rfl ?_
  refine v_iconst (v := 0) F dX11_ring_123 (by decide) ?_
  refine v_istore (L' := [(6, .int 0), (5, .int 0), (0, .ref v0)]) F dX11_ring_124 (by decide) rfl ?_
  obtain ⟨m, hw⟩ := hw
  exact v_loc [2, 1, 0] rfl (sbX11_ring_126 hR F  m _ _ _ _ hw)
set_option maxRecDepth 100000 in
theorem sbX11_ring_91 {X : Cx} {D : Dx} (hR : X.2.2.2.1 = rmX11_ring) (F : Fx X D cX11_ring 7 RX11 none "ring") {Q : Wd → Prop} : ∀ (n : Nat) (v0 : Nat) (v5 : Int32) (G : Wd), wpX11_ring_91 Q  n v0 v5 G → V X D 7 (ZM X D (QMv D Q) 0 0) G 0 0 91 [(0, .ref v0), (5, .int v5)] [] := by
  intro n
  induction n with
  | zero => intro v0 v5 G hw; exact hw.elim
  | succ n ih =>
    intro v0 v5 G hw
    simp only [wpX11_ring_91] at hw
    refine v_iload F dX11_ring_91 1 rfl ?_
    refine v_aload_n F dX11_ring_93 rfl 0 rfl ?_
    obtain ⟨kd25, hw⟩ := hw
    refine v_get F fl_X11_205 kd25 rfl dX11_ring_94 ?_
    refine v_icmp_ge (tgt := 120) F dX11_ring_97 (by decide) (fun h => ?_) (fun h => ?_)
    · rw [if_pos h] at hw
      exact v_loc [0] rfl (sbX11_ring_120 hR F  hw)
    · rw [if_neg h] at hw
      refine v_aload_n F dX11_ring_100 rfl 0 rfl ?_
      obtain ⟨b26, hr27, hw⟩ := hw
      refine v_getS F fl_X11_78 (fun _ => rfl) kd25 hr27 dX11_ring_101 ?_
      refine v_iload F dX11_ring_104 1 rfl ?_
      refine v_aload_n F dX11_ring_106 rfl 0 rfl ?_
      obtain ⟨b28, hr29, hw⟩ := hw
      refine v_getS F fl_X11_75 (fun _ => rfl) kd25 hr29 dX11_ring_107 ?_
      refine v_iload F dX11_ring_110 1 rfl ?_
      obtain ⟨kd30, hw⟩ := hw
      obtain ⟨hi31, hw⟩ := hw
      refine v_ialdE F rfl kd30 hi31 dX11_ring_112 ?_
      obtain ⟨kd32, hw⟩ := hw
      obtain ⟨hi33, hw⟩ := hw
      refine v_iastE F rfl kd32 hi33 dX11_ring_113 (fun G34 hG34 => ?_)
      have hw := hw G34 hG34
      refine v_iincN (c := 1) F dX11_ring_114 1 rfl (by decide) (by decide) (fun x35 hx35 => ?_)
      refine v_cast (L' := [(5, .int x35), (0, .ref v0)]) rfl rfl ?_
      have hw := hw x35 hx35
      refine v_goto (tgt := 91) F dX11_ring_117 (by decide) ?_
      exact v_loc [1, 0] rfl (ih _ _ _ hw)
set_option maxRecDepth 100000 in
theorem sbX11_ring_75 {X : Cx} {D : Dx} (hR : X.2.2.2.1 = rmX11_ring) (F : Fx X D cX11_ring 7 RX11 none "ring") {Q : Wd → Prop} {v0 : Nat} {G : Wd} (hw : wpX11_ring_75 Q  v0 G) : V X D 7 (ZM X D (QMv D Q) 0 0) G 0 0 75 [(0, .ref v0)] [] := by
  unfold wpX11_ring_75 at hw
  refine v_aload_n F dX11_ring_75 rfl 0 rfl ?_
  refine v_iconst (v := 1) F dX11_ring_76 (by decide) ?_
  obtain ⟨kd36, hw⟩ := hw
  refine v_putZ F fl_X11_285 (fun h => absurd h (by decide)) rfl (Or.inr rfl) kd36 dX11_ring_77 ?_
  refine v_nmG (fun G37 hG37 => ?_)
  have hw := hw G37 hG37
  refine v_aload_n F dX11_ring_80 rfl 0 rfl ?_
  refine v_aload_n F dX11_ring_81 rfl 0 rfl ?_
  have kd38 : gK G37 v0 = 11 := by rw [hG37]; exact kd36
  refine v_get F fl_X11_205 kd38 rfl dX11_ring_82 ?_
  refine v_putI F fl_X11_240 (fun h => absurd h (by decide)) rfl kd38 dX11_ring_85 ?_
  refine v_nmG (fun G39 hG39 => ?_)
  have hw := hw G39 hG39
  refine v_iconst (v := 0) F dX11_ring_88 (by decide) ?_
  refine v_istore (L' := [(5, .int 0), (0, .ref v0)]) F dX11_ring_89 (by decide) rfl ?_
  obtain ⟨m, hw⟩ := hw
  exact v_loc [1, 0] rfl (sbX11_ring_91 hR F  m _ _ _ hw)
set_option maxRecDepth 100000 in
theorem sX11_ring {l : Launch} {D : Dx} {a0 : Nat} {G : Wd} {Q : Wd → Prop} (hw : wpX11_ring a0 G Q) : Met l yX11_ring (wM yX11_ring cX11_ring 7 none) rmX11_ring (PM D [.ref a0] G) (QMv D Q) 0 0 (Ab D) := by
  refine v_met (by decide) (Nat.le_of_ble_eq_true rfl) (fun X hl hR F => ?_)
  subst hl
  have F : Fx X D cX11_ring 7 RX11 none "ring" := F
  refine v_cast (L' := [(0, .ref a0)]) rfl rfl ?_
  unfold wpX11_ring at hw
  refine v_aload_n F dX11_ring_0 rfl 0 rfl ?_
  refine v_aload_n F dX11_ring_1 rfl 0 rfl ?_
  obtain ⟨kd40, hw⟩ := hw
  obtain ⟨b41, hr42, hw⟩ := hw
  refine v_getS F fl_X11_75 (fun _ => rfl) kd40 hr42 dX11_ring_2 ?_
  refine v_aload_n F dX11_ring_5 rfl 0 rfl ?_
  refine v_get F fl_X11_205 kd40 rfl dX11_ring_6 ?_
  refine v_iconst (v := 0) F dX11_ring_9 (by decide) ?_
  refine v_callv (r_V F lk_X11_208 kd40 (sX11_product hw) (mkRm hR rfl rfl rfl rfl rfl rfl) rfl rfl (Nat.le_of_ble_eq_true rfl) dX11_ring_10) (fun G44 hw => ?_)
  refine v_aload_n F dX11_ring_13 rfl 0 rfl ?_
  obtain ⟨kd45, hw⟩ := hw
  refine v_get F fl_X11_94 kd45 rfl dX11_ring_14 ?_
  refine v_topl (fun x46 hx46 => ?_)
  have hw := hw x46 hx46
  refine v_lstore_n (L' := [(1, .long x46), (0, .ref a0)]) F dX11_ring_17 rfl (by decide) rfl ?_
  refine v_aload_n F dX11_ring_18 rfl 1 rfl ?_
  refine v_get F fl_X11_98 kd45 rfl dX11_ring_19 ?_
  refine v_topl (fun x47 hx47 => ?_)
  have hw := hw x47 hx47
  refine v_lstore_n (L' := [(3, .long x47), (1, .long x46), (0, .ref a0)]) F dX11_ring_22 rfl (by decide) rfl ?_
  refine v_aload_n F dX11_ring_23 rfl 2 rfl ?_
  refine v_aload_n F dX11_ring_24 rfl 2 rfl ?_
  obtain ⟨b48, hr49, hw⟩ := hw
  refine v_getS F fl_X11_75 (fun _ => rfl) kd45 hr49 dX11_ring_25 ?_
  refine v_aload_n F dX11_ring_28 rfl 2 rfl ?_
  refine v_get F fl_X11_205 kd45 rfl dX11_ring_29 ?_
  refine v_iconst (v := 1) F dX11_ring_32 (by decide) ?_
  refine v_callv (r_V F lk_X11_208 kd45 (sX11_product hw) (mkRm hR rfl rfl rfl rfl rfl rfl) rfl rfl (Nat.le_of_ble_eq_true rfl) dX11_ring_33) (fun G51 hw => ?_)
  refine v_aload_n F dX11_ring_36 rfl 2 rfl ?_
  obtain ⟨kd52, hw⟩ := hw
  refine v_get F fl_X11_103 kd52 rfl dX11_ring_37 ?_
  refine v_if_ne (tgt := 49) F dX11_ring_40 (by decide) (fun h => ?_) (fun h => ?_)
  · rw [if_neg h] at hw
    refine v_widen (c' := 0) (s' := 0) (by decide) (by decide) ?_
    exact v_vret F hw dX11_ring_49
  · rw [if_pos h] at hw
    refine v_lload_n F dX11_ring_43 rfl 1 rfl ?_
    refine v_lload_n F dX11_ring_44 rfl 0 rfl ?_
    refine v_lcmp F dX11_ring_45 ?_
    refine v_lif_gt (tgt := 50) F dX11_ring_46 (by decide) (fun h => ?_) (fun h => ?_)
    · rw [if_pos h] at hw
      refine v_aload_n F dX11_ring_50 rfl 2 rfl ?_
      refine v_get F fl_X11_285 kd52 rfl dX11_ring_51 ?_
      refine v_if_eq (tgt := 75) F dX11_ring_54 (by decide) (fun h => ?_) (fun h => ?_)
      · rw [if_pos h] at hw
        exact v_loc [2] rfl (sbX11_ring_75 hR F  hw)
      · rw [if_neg h] at hw
        refine v_aload_n F dX11_ring_57 rfl 2 rfl ?_
        refine v_get F fl_X11_240 kd52 rfl dX11_ring_58 ?_
        refine v_aload_n F dX11_ring_61 rfl 2 rfl ?_
        refine v_get F fl_X11_205 kd52 rfl dX11_ring_62 ?_
        refine v_icmp_ne (tgt := 120) F dX11_ring_65 (by decide) (fun h => ?_) (fun h => ?_)
        · rw [if_neg h] at hw
          exact v_loc [2] rfl (sbX11_ring_120 hR F  hw)
        · rw [if_pos h] at hw
          refine v_aload_n F dX11_ring_68 rfl 2 rfl ?_
          refine v_calli (r_V F lk_X11_288 kd52 (sX11_isAhead hw) (mkRm hR rfl rfl rfl rfl rfl rfl) rfl rfl (Nat.le_of_ble_eq_true rfl) dX11_ring_69) (fun r53 G54 hw => ?_)
          refine v_if_eq (tgt := 120) F dX11_ring_72 (by decide) (fun h => ?_) (fun h => ?_)
          · rw [if_pos h] at hw
            exact v_loc [2] rfl (sbX11_ring_120 hR F  hw)
          · rw [if_neg h] at hw
            exact v_loc [2] rfl (sbX11_ring_75 hR F  hw)
    · rw [if_neg h] at hw
      refine v_widen (c' := 0) (s' := 0) (by decide) (by decide) ?_
      exact v_vret F hw dX11_ring_49
set_option maxRecDepth 100000 in
theorem sbX11_isUsed_2 {X : Cx} {D : Dx} (hR : X.2.2.2.1 = rmX11_isUsed) (F : Fx X D cX11_isUsed 4 RX11 (some .boolean) "isUsed") {Q : Int32 → Wd → Prop} : ∀ (n : Nat) (v0 : Nat) (v1 : Int32) (v2 : Int32) (v3 : Int32) (G : Wd), wpX11_isUsed_2 Q  n v0 v1 v2 v3 G → V X D 4 (ZM X D (QMi D Q) 0 0) G 0 0 2 [(0, .ref v0), (1, .int v1), (2, .int v2), (3, .int v3)] [] := by
  intro n
  induction n with
  | zero => intro v0 v1 v2 v3 G hw; exact hw.elim
  | succ n ih =>
    intro v0 v1 v2 v3 G hw
    simp only [wpX11_isUsed_2] at hw
    refine v_iload_n F dX11_isUsed_2 rfl 3 rfl ?_
    refine v_iload_n F dX11_isUsed_3 rfl 1 rfl ?_
    refine v_icmp_ge (tgt := 28) F dX11_isUsed_4 (by decide) (fun h => ?_) (fun h => ?_)
    · rw [if_pos h] at hw
      refine v_iconst (v := 0) F dX11_isUsed_28 (by decide) ?_
      exact v_zret F (Or.inl rfl) hw dX11_isUsed_29
    · rw [if_neg h] at hw
      refine v_aload_n F dX11_isUsed_7 rfl 0 rfl ?_
      obtain ⟨kd1, hw⟩ := hw
      obtain ⟨b2, hr3, hw⟩ := hw
      refine v_getS F fl_X11_75 (fun _ => rfl) kd1 hr3 dX11_isUsed_8 ?_
      refine v_iload_n F dX11_isUsed_11 rfl 3 rfl ?_
      obtain ⟨kd4, hw⟩ := hw
      obtain ⟨hi5, hw⟩ := hw
      refine v_ialdE F rfl kd4 hi5 dX11_isUsed_12 ?_
      refine v_bipush (v := 100) F dX11_isUsed_13 (by decide) ?_
      refine v_iremE F dX11_isUsed_15 (by decide) ?_
      refine v_iload_n F dX11_isUsed_16 rfl 2 rfl ?_
      refine v_icmp_ne (tgt := 22) F dX11_isUsed_17 (by decide) (fun h => ?_) (fun h => ?_)
      · rw [if_neg h] at hw
        refine v_iincN (c := 1) F dX11_isUsed_22 3 rfl (by decide) (by decide) (fun x6 hx6 => ?_)
        refine v_cast (L' := [(3, .int x6), (0, .ref v0), (1, .int v1), (2, .int v2)]) rfl rfl ?_
        have hw := hw x6 hx6
        refine v_goto (tgt := 2) F dX11_isUsed_25 (by decide) ?_
        exact v_loc [1, 2, 3, 0] rfl (ih _ _ _ _ _ hw)
      · rw [if_pos h] at hw
        refine v_iconst (v := 1) F dX11_isUsed_20 (by decide) ?_
        exact v_zret F (Or.inr rfl) hw dX11_isUsed_21
set_option maxRecDepth 100000 in
theorem sX11_isUsed {l : Launch} {D : Dx} {a0 : Nat} {p1 : Int32} {p2 : Int32} {G : Wd} {Q : Int32 → Wd → Prop} (hw : wpX11_isUsed a0 p1 p2 G Q) : Met l yX11_isUsed (wM yX11_isUsed cX11_isUsed 4 (some .boolean)) rmX11_isUsed (PM D [.ref a0, .int p1, .int p2] G) (QMi D Q) 0 0 (Ab D) := by
  refine v_met (by decide) (Nat.le_of_ble_eq_true rfl) (fun X hl hR F => ?_)
  subst hl
  have F : Fx X D cX11_isUsed 4 RX11 (some .boolean) "isUsed" := F
  refine v_cast (L' := [(0, .ref a0), (1, .int p1), (2, .int p2)]) rfl rfl ?_
  unfold wpX11_isUsed at hw
  refine v_iconst (v := 0) F dX11_isUsed_0 (by decide) ?_
  refine v_istore_n (L' := [(3, .int 0), (0, .ref a0), (1, .int p1), (2, .int p2)]) F dX11_isUsed_1 rfl (by decide) rfl ?_
  obtain ⟨m, hw⟩ := hw
  exact v_loc [1, 2, 3, 0] rfl (sbX11_isUsed_2 hR F  m _ _ _ _ _ hw)
set_option maxRecDepth 100000 in
theorem sbX11_round_202 {X : Cx} {D : Dx} {d : Nat} (hR : X.2.2.2.1 = rmX11_round (d + 1)) (F : Fx X D cX11_round 6 RX11 none "round") {Q : Wd → Prop} {rec : Nat → Int32 → Int32 → Wd → (Wd → Prop) → Prop} (hrec : ∀ (a0 : Nat) (p1 : Int32) (p2 : Int32) (G : Wd) (Q : Wd → Prop), rec a0 p1 p2 G Q → Met X.2.1 yX11_round (wM yX11_round cX11_round 6 none) (rmX11_round d) (PM D [.ref a0, .int p1, .int p2] G) (QMv D Q) 0 0 (Ab D)) (hRr : Rm X 0 0 6 0 0 (rmX11_round d)) {k12 : Nat → Int32 → Int32 → Int32 → Wd → Prop} (hk12 : ∀ v0 v1 v2 v3 G, k12 v0 v1 v2 v3 G → V X D 6 (ZM X D (QMv D Q) 0 0) G 0 0 12 [(0, .ref v0), (1, .int v1), (2, .int v2), (3, .int v3)] []) {v0 : Nat} {v1 : Int32} {v2 : Int32} {v3 : Int32} {G : Wd} (hw : wpX11_round_202 rec Q k12 v0 v1 v2 v3 G) : V X D 6 (ZM X D (QMv D Q) 0 0) G 0 0 202 [(0, .ref v0), (1, .int v1), (2, .int v2), (3, .int v3)] [] := by
  unfold wpX11_round_202 at hw
  refine v_iincN (c := 1) F dX11_round_202 3 rfl (by decide) (by decide) (fun x1 hx1 => ?_)
  refine v_cast (L' := [(3, .int x1), (0, .ref v0), (1, .int v1), (2, .int v2)]) rfl rfl ?_
  have hw := hw x1 hx1
  refine v_goto (tgt := 12) F dX11_round_205 (by decide) ?_
  exact v_loc [1, 2, 3, 0] rfl (hk12 _ _ _ _ _ hw)
set_option maxRecDepth 100000 in
theorem sbX11_round_145 {X : Cx} {D : Dx} {d : Nat} (hR : X.2.2.2.1 = rmX11_round (d + 1)) (F : Fx X D cX11_round 6 RX11 none "round") {Q : Wd → Prop} {rec : Nat → Int32 → Int32 → Wd → (Wd → Prop) → Prop} (hrec : ∀ (a0 : Nat) (p1 : Int32) (p2 : Int32) (G : Wd) (Q : Wd → Prop), rec a0 p1 p2 G Q → Met X.2.1 yX11_round (wM yX11_round cX11_round 6 none) (rmX11_round d) (PM D [.ref a0, .int p1, .int p2] G) (QMv D Q) 0 0 (Ab D)) (hRr : Rm X 0 0 6 0 0 (rmX11_round d)) {k12 : Nat → Int32 → Int32 → Int32 → Wd → Prop} (hk12 : ∀ v0 v1 v2 v3 G, k12 v0 v1 v2 v3 G → V X D 6 (ZM X D (QMv D Q) 0 0) G 0 0 12 [(0, .ref v0), (1, .int v1), (2, .int v2), (3, .int v3)] []) {v0 : Nat} {v1 : Int32} {v2 : Int32} {v3 : Int32} {v5 : Int32} {s0 : Nat} {s1 : Int32} {s2 : Int32} {G : Wd} (hw : wpX11_round_145 rec Q k12 v0 v1 v2 v3 v5 s0 s1 s2 G) : V X D 6 (ZM X D (QMv D Q) 0 0) G 0 0 145 [(0, .ref v0), (1, .int v1), (2, .int v2), (3, .int v3), (5, .int v5)] [.int s2, .int s1, .ref s0] := by
  unfold wpX11_round_145 at hw
  obtain ⟨kd2, hw⟩ := hw
  obtain ⟨hi3, hw⟩ := hw
  refine v_iastE F rfl kd2 hi3 dX11_round_145 (fun G4 hG4 => ?_)
  have hw := hw G4 hG4
  refine v_iload_n F dX11_round_146 rfl 1 rfl ?_
  refine v_aload_n F dX11_round_147 rfl 0 rfl ?_
  obtain ⟨kd5, hw⟩ := hw
  refine v_get F fl_X11_205 kd5 rfl dX11_round_148 ?_
  refine v_iconst (v := 1) F dX11_round_151 (by decide) ?_
  refine v_isub F dX11_round_152 ?_
  refine v_icmp_ne (tgt := 174) F dX11_round_153 (by decide) (fun h => ?_) (fun h => ?_)
  · rw [if_neg h] at hw
    refine v_aload_n F dX11_round_174 rfl 0 rfl ?_
    refine v_iload_n F dX11_round_175 rfl 1 rfl ?_
    refine v_iload F dX11_round_176 4 rfl ?_
    refine v_calli (r_V F lk_X11_249 kd5 (sX11_isMet hw) (mkRm2 hR rfl rfl (by simp [rmX11_isMet, rmX11_round]; try omega) (by simp [rmX11_isMet, rmX11_round]; try omega) (Nat.le_of_ble_eq_true rfl) (Nat.le_of_ble_eq_true rfl)) rfl rfl (Nat.le_of_ble_eq_true rfl) dX11_round_178) (fun r6 G7 hw => ?_)
    refine v_if_ne (tgt := 202) F dX11_round_181 (by decide) (fun h => ?_) (fun h => ?_)
    · rw [if_neg h] at hw
      exact v_loc [0, 1, 2, 3] rfl (sbX11_round_202 hR F hrec hRr hk12 hw)
    · rw [if_pos h] at hw
      refine v_aload_n F dX11_round_184 rfl 0 rfl ?_
      obtain ⟨kd8, hw⟩ := hw
      obtain ⟨b9, hr10, hw⟩ := hw
      refine v_getS F fl_X11_72 (fun _ => rfl) kd8 hr10 dX11_round_185 ?_
      refine v_iload_n F dX11_round_188 rfl 1 rfl ?_
      refine v_iconst (v := 1) F dX11_round_189 (by decide) ?_
      refine v_iadd F dX11_round_190 ?_
      refine v_iload F dX11_round_191 4 rfl ?_
      obtain ⟨kd11, hw⟩ := hw
      obtain ⟨hi12, hw⟩ := hw
      refine v_iastE F rfl kd11 hi12 dX11_round_193 (fun G13 hG13 => ?_)
      have hw := hw G13 hG13
      refine v_aload_n F dX11_round_194 rfl 0 rfl ?_
      refine v_iload_n F dX11_round_195 rfl 1 rfl ?_
      refine v_iconst (v := 1) F dX11_round_196 (by decide) ?_
      refine v_iadd F dX11_round_197 ?_
      refine v_iload_n F dX11_round_198 rfl 2 rfl ?_
      have kd14 : gK G13 v0 = 11 := by rw [hG13]; exact kd8
      refine v_callv (r_V F lk_X11_298 kd14 (hrec _ _ _ _ _ hw) hRr rfl rfl (Nat.le_of_ble_eq_true rfl) dX11_round_199) (fun G16 hw => ?_)
      exact v_loc [0, 1, 2, 3] rfl (sbX11_round_202 hR F hrec hRr hk12 hw)
  · rw [if_pos h] at hw
    refine v_iload F dX11_round_156 4 rfl ?_
    refine v_aload_n F dX11_round_158 rfl 0 rfl ?_
    obtain ⟨b17, hr18, hw⟩ := hw
    refine v_getS F fl_X11_72 (fun _ => rfl) kd5 hr18 dX11_round_159 ?_
    refine v_iconst (v := 0) F dX11_round_162 (by decide) ?_
    obtain ⟨kd19, hw⟩ := hw
    obtain ⟨hi20, hw⟩ := hw
    refine v_ialdE F (k := 0) (by decide) kd19 hi20 dX11_round_163 ?_
    refine v_icmp_ne (tgt := 202) F dX11_round_164 (by decide) (fun h => ?_) (fun h => ?_)
    · rw [if_neg h] at hw
      exact v_loc [0, 1, 2, 3] rfl (sbX11_round_202 hR F hrec hRr hk12 hw)
    · rw [if_pos h] at hw
      refine v_aload_n F dX11_round_167 rfl 0 rfl ?_
      refine v_callv (r_V F lk_X11_295 kd5 (sX11_ring hw) (mkRm2 hR rfl rfl (by simp [rmX11_ring, rmX11_round]; try omega) (by simp [rmX11_ring, rmX11_round]; try omega) (Nat.le_of_ble_eq_true rfl) (Nat.le_of_ble_eq_true rfl)) rfl rfl (Nat.le_of_ble_eq_true rfl) dX11_round_168) (fun G22 hw => ?_)
      refine v_goto (tgt := 202) F dX11_round_171 (by decide) ?_
      exact v_loc [0, 1, 2, 3] rfl (sbX11_round_202 hR F hrec hRr hk12 hw)
set_option maxRecDepth 100000 in
theorem sbX11_round_125 {X : Cx} {D : Dx} {d : Nat} (hR : X.2.2.2.1 = rmX11_round (d + 1)) (F : Fx X D cX11_round 6 RX11 none "round") {Q : Wd → Prop} {rec : Nat → Int32 → Int32 → Wd → (Wd → Prop) → Prop} (hrec : ∀ (a0 : Nat) (p1 : Int32) (p2 : Int32) (G : Wd) (Q : Wd → Prop), rec a0 p1 p2 G Q → Met X.2.1 yX11_round (wM yX11_round cX11_round 6 none) (rmX11_round d) (PM D [.ref a0, .int p1, .int p2] G) (QMv D Q) 0 0 (Ab D)) (hRr : Rm X 0 0 6 0 0 (rmX11_round d)) {k12 : Nat → Int32 → Int32 → Int32 → Wd → Prop} (hk12 : ∀ v0 v1 v2 v3 G, k12 v0 v1 v2 v3 G → V X D 6 (ZM X D (QMv D Q) 0 0) G 0 0 12 [(0, .ref v0), (1, .int v1), (2, .int v2), (3, .int v3)] []) {v0 : Nat} {v1 : Int32} {v2 : Int32} {v3 : Int32} {v4 : Int32} {s0 : Int32} {G : Wd} (hw : wpX11_round_125 rec Q k12 v0 v1 v2 v3 v4 s0 G) : V X D 6 (ZM X D (QMv D Q) 0 0) G 0 0 125 [(0, .ref v0), (1, .int v1), (2, .int v2), (3, .int v3), (4, .int v4)] [.int s0] := by
  unfold wpX11_round_125 at hw
  refine v_istore (L' := [(5, .int s0), (0, .ref v0), (1, .int v1), (2, .int v2), (3, .int v3), (4, .int v4)]) F dX11_round_125 (by decide) rfl ?_
  refine v_aload_n F dX11_round_127 rfl 1 rfl ?_
  obtain ⟨kd23, hw⟩ := hw
  obtain ⟨b24, hr25, hw⟩ := hw
  refine v_getS F fl_X11_75 (fun _ => rfl) kd23 hr25 dX11_round_128 ?_
  refine v_iload_n F dX11_round_131 rfl 2 rfl ?_
  refine v_iload F dX11_round_132 5 rfl ?_
  refine v_if_eq (tgt := 144) F dX11_round_134 (by decide) (fun h => ?_) (fun h => ?_)
  · rw [if_pos h] at hw
    refine v_iload_n F dX11_round_144 rfl 4 rfl ?_
    exact v_loc [1, 2, 3, 4, 0] rfl (sbX11_round_145 hR F hrec hRr hk12 hw)
  · rw [if_neg h] at hw
    refine v_bipush (v := 100) F dX11_round_137 (by decide) ?_
    refine v_iload_n F dX11_round_139 rfl 4 rfl ?_
    refine v_iadd F dX11_round_140 ?_
    refine v_goto (tgt := 145) F dX11_round_141 (by decide) ?_
    exact v_loc [1, 2, 3, 4, 0] rfl (sbX11_round_145 hR F hrec hRr hk12 hw)
set_option maxRecDepth 100000 in
theorem sbX11_round_103 {X : Cx} {D : Dx} {d : Nat} (hR : X.2.2.2.1 = rmX11_round (d + 1)) (F : Fx X D cX11_round 6 RX11 none "round") {Q : Wd → Prop} {rec : Nat → Int32 → Int32 → Wd → (Wd → Prop) → Prop} (hrec : ∀ (a0 : Nat) (p1 : Int32) (p2 : Int32) (G : Wd) (Q : Wd → Prop), rec a0 p1 p2 G Q → Met X.2.1 yX11_round (wM yX11_round cX11_round 6 none) (rmX11_round d) (PM D [.ref a0, .int p1, .int p2] G) (QMv D Q) 0 0 (Ab D)) (hRr : Rm X 0 0 6 0 0 (rmX11_round d)) {k12 : Nat → Int32 → Int32 → Int32 → Wd → Prop} (hk12 : ∀ v0 v1 v2 v3 G, k12 v0 v1 v2 v3 G → V X D 6 (ZM X D (QMv D Q) 0 0) G 0 0 12 [(0, .ref v0), (1, .int v1), (2, .int v2), (3, .int v3)] []) {v0 : Nat} {v1 : Int32} {v2 : Int32} {v3 : Int32} {s0 : Int32} {G : Wd} (hw : wpX11_round_103 rec Q k12 v0 v1 v2 v3 s0 G) : V X D 6 (ZM X D (QMv D Q) 0 0) G 0 0 103 [(0, .ref v0), (1, .int v1), (2, .int v2), (3, .int v3)] [.int s0] := by
  unfold wpX11_round_103 at hw
  refine v_istore (L' := [(4, .int s0), (0, .ref v0), (1, .int v1), (2, .int v2), (3, .int v3)]) F dX11_round_103 (by decide) rfl ?_
  refine v_iload F dX11_round_105 0 rfl ?_
  refine v_if_eq (tgt := 119) F dX11_round_107 (by decide) (fun h => ?_) (fun h => ?_)
  · rw [if_pos h] at hw
    refine v_aload_n F dX11_round_119 rfl 1 rfl ?_
    obtain ⟨kd26, hw⟩ := hw
    obtain ⟨b27, hr28, hw⟩ := hw
    refine v_getS F fl_X11_19 (fun _ => rfl) kd26 hr28 dX11_round_120 ?_
    refine v_iload_n F dX11_round_123 rfl 4 rfl ?_
    obtain ⟨kd29, hw⟩ := hw
    obtain ⟨hi30, hw⟩ := hw
    refine v_ialdE F rfl kd29 hi30 dX11_round_124 ?_
    exact v_loc [1, 2, 3, 4, 0] rfl (sbX11_round_125 hR F hrec hRr hk12 hw)
  · rw [if_neg h] at hw
    refine v_aload_n F dX11_round_110 rfl 1 rfl ?_
    obtain ⟨kd31, hw⟩ := hw
    obtain ⟨b32, hr33, hw⟩ := hw
    refine v_getS F fl_X11_16 (fun _ => rfl) kd31 hr33 dX11_round_111 ?_
    refine v_iload_n F dX11_round_114 rfl 4 rfl ?_
    obtain ⟨kd34, hw⟩ := hw
    obtain ⟨hi35, hw⟩ := hw
    refine v_ialdE F rfl kd34 hi35 dX11_round_115 ?_
    refine v_goto (tgt := 125) F dX11_round_116 (by decide) ?_
    exact v_loc [1, 2, 3, 4, 0] rfl (sbX11_round_125 hR F hrec hRr hk12 hw)
set_option maxRecDepth 100000 in
theorem sbX11_round_74 {X : Cx} {D : Dx} {d : Nat} (hR : X.2.2.2.1 = rmX11_round (d + 1)) (F : Fx X D cX11_round 6 RX11 none "round") {Q : Wd → Prop} {rec : Nat → Int32 → Int32 → Wd → (Wd → Prop) → Prop} (hrec : ∀ (a0 : Nat) (p1 : Int32) (p2 : Int32) (G : Wd) (Q : Wd → Prop), rec a0 p1 p2 G Q → Met X.2.1 yX11_round (wM yX11_round cX11_round 6 none) (rmX11_round d) (PM D [.ref a0, .int p1, .int p2] G) (QMv D Q) 0 0 (Ab D)) (hRr : Rm X 0 0 6 0 0 (rmX11_round d)) {k12 : Nat → Int32 → Int32 → Int32 → Wd → Prop} (hk12 : ∀ v0 v1 v2 v3 G, k12 v0 v1 v2 v3 G → V X D 6 (ZM X D (QMv D Q) 0 0) G 0 0 12 [(0, .ref v0), (1, .int v1), (2, .int v2), (3, .int v3)] []) {v0 : Nat} {v1 : Int32} {v2 : Int32} {v3 : Int32} {G : Wd} (hw : wpX11_round_74 rec Q k12 v0 v1 v2 v3 G) : V X D 6 (ZM X D (QMv D Q) 0 0) G 0 0 74 [(0, .ref v0), (1, .int v1), (2, .int v2), (3, .int v3)] [] := by
  unfold wpX11_round_74 at hw
  refine v_aload_n F dX11_round_74 rfl 0 rfl ?_
  refine v_iload_n F dX11_round_75 rfl 1 rfl ?_
  refine v_iload_n F dX11_round_76 rfl 3 rfl ?_
  obtain ⟨kd36, hw⟩ := hw
  refine v_calli (r_V F lk_X11_292 kd36 (sX11_isUsed hw) (mkRm2 hR rfl rfl (by simp [rmX11_isUsed, rmX11_round]; try omega) (by simp [rmX11_isUsed, rmX11_round]; try omega) (Nat.le_of_ble_eq_true rfl) (Nat.le_of_ble_eq_true rfl)) rfl rfl (Nat.le_of_ble_eq_true rfl) dX11_round_77) (fun r37 G38 hw => ?_)
  refine v_if_ne (tgt := 202) F dX11_round_80 (by decide) (fun h => ?_) (fun h => ?_)
  · rw [if_neg h] at hw
    exact v_loc [0, 1, 2, 3] rfl (sbX11_round_202 hR F hrec hRr hk12 hw)
  · rw [if_pos h] at hw
    refine v_aload_n F dX11_round_83 rfl 0 rfl ?_
    obtain ⟨kd39, hw⟩ := hw
    obtain ⟨b40, hr41, hw⟩ := hw
    refine v_getS F fl_X11_19 (fun _ => rfl) kd39 hr41 dX11_round_84 ?_
    refine v_iload_n F dX11_round_87 rfl 3 rfl ?_
    obtain ⟨kd42, hw⟩ := hw
    obtain ⟨hi43, hw⟩ := hw
    refine v_ialdE F rfl kd42 hi43 dX11_round_88 ?_
    refine v_aload_n F dX11_round_89 rfl 0 rfl ?_
    obtain ⟨b44, hr45, hw⟩ := hw
    refine v_getS F fl_X11_72 (fun _ => rfl) kd39 hr45 dX11_round_90 ?_
    refine v_iload_n F dX11_round_93 rfl 1 rfl ?_
    obtain ⟨kd46, hw⟩ := hw
    obtain ⟨hi47, hw⟩ := hw
    refine v_ialdE F rfl kd46 hi47 dX11_round_94 ?_
    refine v_icmp_ne (tgt := 102) F dX11_round_95 (by decide) (fun h => ?_) (fun h => ?_)
    · rw [if_neg h] at hw
      refine v_iconst (v := 0) F dX11_round_102 (by decide) ?_
      exact v_loc [0, 1, 2, 3] rfl (sbX11_round_103 hR F hrec hRr hk12 hw)
    · rw [if_pos h] at hw
      refine v_iconst (v := 1) F dX11_round_98 (by decide) ?_
      refine v_goto (tgt := 103) F dX11_round_99 (by decide) ?_
      exact v_loc [0, 1, 2, 3] rfl (sbX11_round_103 hR F hrec hRr hk12 hw)
set_option maxRecDepth 100000 in
theorem sbX11_round_12 {X : Cx} {D : Dx} {d : Nat} (hR : X.2.2.2.1 = rmX11_round (d + 1)) (F : Fx X D cX11_round 6 RX11 none "round") {Q : Wd → Prop} {rec : Nat → Int32 → Int32 → Wd → (Wd → Prop) → Prop} (hrec : ∀ (a0 : Nat) (p1 : Int32) (p2 : Int32) (G : Wd) (Q : Wd → Prop), rec a0 p1 p2 G Q → Met X.2.1 yX11_round (wM yX11_round cX11_round 6 none) (rmX11_round d) (PM D [.ref a0, .int p1, .int p2] G) (QMv D Q) 0 0 (Ab D)) (hRr : Rm X 0 0 6 0 0 (rmX11_round d)) : ∀ (n : Nat) (v0 : Nat) (v1 : Int32) (v2 : Int32) (v3 : Int32) (G : Wd), wpX11_round_12 rec Q  n v0 v1 v2 v3 G → V X D 6 (ZM X D (QMv D Q) 0 0) G 0 0 12 [(0, .ref v0), (1, .int v1), (2, .int v2), (3, .int v3)] [] := by
  intro n
  induction n with
  | zero => intro v0 v1 v2 v3 G hw; exact hw.elim
  | succ n ih =>
    intro v0 v1 v2 v3 G hw
    simp only [wpX11_round_12] at hw
    refine v_iload_n F dX11_round_12 rfl 3 rfl ?_
    refine v_aload_n F dX11_round_13 rfl 0 rfl ?_
    obtain ⟨kd48, hw⟩ := hw
    refine v_get F fl_X11_159 kd48 rfl dX11_round_14 ?_
    refine v_icmp_ge (tgt := 208) F dX11_round_17 (by decide) (fun h => ?_) (fun h => ?_)
    · rw [if_pos h] at hw
      exact v_vret F hw dX11_round_208
    · rw [if_neg h] at hw
      refine v_aload_n F dX11_round_20 rfl 0 rfl ?_
      obtain ⟨b49, hr50, hw⟩ := hw
      refine v_getS F fl_X11_69 (fun _ => rfl) kd48 hr50 dX11_round_21 ?_
      refine v_iload_n F dX11_round_24 rfl 3 rfl ?_
      obtain ⟨kd51, hw⟩ := hw
      obtain ⟨hi52, hw⟩ := hw
      refine v_zaldE F rfl kd51 hi52 dX11_round_25 ?_
      refine v_if_eq (tgt := 202) F dX11_round_26 (by decide) (fun h => ?_) (fun h => ?_)
      · rw [if_pos h] at hw
        exact v_loc [0, 1, 2, 3] rfl (sbX11_round_202 hR F hrec hRr ih hw)
      · rw [if_neg h] at hw
        refine v_aload_n F dX11_round_29 rfl 0 rfl ?_
        obtain ⟨b53, hr54, hw⟩ := hw
        refine v_getS F fl_X11_16 (fun _ => rfl) kd48 hr54 dX11_round_30 ?_
        refine v_iload_n F dX11_round_33 rfl 3 rfl ?_
        obtain ⟨kd55, hw⟩ := hw
        obtain ⟨hi56, hw⟩ := hw
        refine v_ialdE F rfl kd55 hi56 dX11_round_34 ?_
        refine v_aload_n F dX11_round_35 rfl 0 rfl ?_
        obtain ⟨b57, hr58, hw⟩ := hw
        refine v_getS F fl_X11_19 (fun _ => rfl) kd48 hr58 dX11_round_36 ?_
        refine v_iload_n F dX11_round_39 rfl 3 rfl ?_
        obtain ⟨kd59, hw⟩ := hw
        obtain ⟨hi60, hw⟩ := hw
        refine v_ialdE F rfl kd59 hi60 dX11_round_40 ?_
        refine v_icmp_eq (tgt := 202) F dX11_round_41 (by decide) (fun h => ?_) (fun h => ?_)
        · rw [if_pos h] at hw
          exact v_loc [0, 1, 2, 3] rfl (sbX11_round_202 hR F hrec hRr ih hw)
        · rw [if_neg h] at hw
          refine v_aload_n F dX11_round_44 rfl 0 rfl ?_
          obtain ⟨b61, hr62, hw⟩ := hw
          refine v_getS F fl_X11_16 (fun _ => rfl) kd48 hr62 dX11_round_45 ?_
          refine v_iload_n F dX11_round_48 rfl 3 rfl ?_
          obtain ⟨kd63, hw⟩ := hw
          obtain ⟨hi64, hw⟩ := hw
          refine v_ialdE F rfl kd63 hi64 dX11_round_49 ?_
          refine v_aload_n F dX11_round_50 rfl 0 rfl ?_
          obtain ⟨b65, hr66, hw⟩ := hw
          refine v_getS F fl_X11_72 (fun _ => rfl) kd48 hr66 dX11_round_51 ?_
          refine v_iload_n F dX11_round_54 rfl 1 rfl ?_
          obtain ⟨kd67, hw⟩ := hw
          obtain ⟨hi68, hw⟩ := hw
          refine v_ialdE F rfl kd67 hi68 dX11_round_55 ?_
          refine v_icmp_eq (tgt := 74) F dX11_round_56 (by decide) (fun h => ?_) (fun h => ?_)
          · rw [if_pos h] at hw
            exact v_loc [0, 1, 2, 3] rfl (sbX11_round_74 hR F hrec hRr ih hw)
          · rw [if_neg h] at hw
            refine v_aload_n F dX11_round_59 rfl 0 rfl ?_
            obtain ⟨b69, hr70, hw⟩ := hw
            refine v_getS F fl_X11_19 (fun _ => rfl) kd48 hr70 dX11_round_60 ?_
            refine v_iload_n F dX11_round_63 rfl 3 rfl ?_
            obtain ⟨kd71, hw⟩ := hw
            obtain ⟨hi72, hw⟩ := hw
            refine v_ialdE F rfl kd71 hi72 dX11_round_64 ?_
            refine v_aload_n F dX11_round_65 rfl 0 rfl ?_
            obtain ⟨b73, hr74, hw⟩ := hw
            refine v_getS F fl_X11_72 (fun _ => rfl) kd48 hr74 dX11_round_66 ?_
            refine v_iload_n F dX11_round_69 rfl 1 rfl ?_
            obtain ⟨kd75, hw⟩ := hw
            obtain ⟨hi76, hw⟩ := hw
            refine v_ialdE F rfl kd75 hi76 dX11_round_70 ?_
            refine v_icmp_ne (tgt := 202) F dX11_round_71 (by decide) (fun h => ?_) (fun h => ?_)
            · rw [if_neg h] at hw
              exact v_loc [0, 1, 2, 3] rfl (sbX11_round_202 hR F hrec hRr ih hw)
            · rw [if_pos h] at hw
              exact v_loc [0, 1, 2, 3] rfl (sbX11_round_74 hR F hrec hRr ih hw)
set_option maxRecDepth 100000 in
theorem sX11_round {l : Launch} {D : Dx} : ∀ (d : Nat) (a0 : Nat) (p1 : Int32) (p2 : Int32) {G : Wd} {Q : Wd → Prop}, wpX11_round d a0 p1 p2 G Q → Met l yX11_round (wM yX11_round cX11_round 6 none) (rmX11_round d) (PM D [.ref a0, .int p1, .int p2] G) (QMv D Q) 0 0 (Ab D) := by
  intro d
  induction d with
  | zero => intro a0 p1 p2 G Q hw; exact hw.elim
  | succ d ihd =>
    intro a0 p1 p2 G Q hw
    refine v_met (by decide) (Nat.le_of_ble_eq_true rfl) (fun X hl hR F => ?_)
    subst hl
    have F : Fx X D cX11_round 6 RX11 none "round" := F
    have hrec : ∀ (a0 : Nat) (p1 : Int32) (p2 : Int32) (G : Wd) (Q : Wd → Prop), wpX11_round d a0 p1 p2 G Q → Met X.2.1 yX11_round (wM yX11_round cX11_round 6 none) (rmX11_round d) (PM D [.ref a0, .int p1, .int p2] G) (QMv D Q) 0 0 (Ab D) := fun a0 p1 p2 G Q hw => ihd a0 p1 p2 hw
    have hRr : Rm X 0 0 6 0 0 (rmX11_round d) := mkRm2 hR rfl rfl (by simp [rmX11_round]; try omega) (by simp [rmX11_round]; try omega) (Nat.le_of_ble_eq_true rfl) (Nat.le_of_ble_eq_true rfl)
    refine v_cast (L' := [(0, .ref a0), (1, .int p1), (2, .int p2)]) rfl rfl ?_
    simp only [wpX11_round] at hw
    refine v_aload_n F dX11_round_0 rfl 0 rfl ?_
    obtain ⟨kd77, hw⟩ := hw
    refine v_get F fl_X11_103 kd77 rfl dX11_round_1 ?_
    refine v_if_eq (tgt := 8) F dX11_round_4 (by decide) (fun h => ?_) (fun h => ?_)
    · rw [if_pos h] at hw
      refine v_iload_n F dX11_round_8 rfl 2 rfl ?_
      refine v_iconst (v := 1) F dX11_round_9 (by decide) ?_
      refine v_iadd F dX11_round_10 ?_
      refine v_topi (fun x78 hx78 => ?_)
      have hw := hw x78 hx78
      refine v_istore_n (L' := [(3, .int x78), (0, .ref a0), (1, .int p1), (2, .int p2)]) F dX11_round_11 rfl (by decide) rfl ?_
      obtain ⟨m, hw⟩ := hw
      exact v_loc [1, 2, 3, 0] rfl (sbX11_round_12 hR F hrec hRr  m _ _ _ _ _ hw)
    · rw [if_neg h] at hw
      exact v_vret F hw dX11_round_7
set_option maxRecDepth 100000 in
theorem sbX11_begin_95 {X : Cx} {D : Dx} (hR : X.2.2.2.1 = rmX11_begin) (F : Fx X D cX11_begin 3 RX11 none "begin") {Q : Wd → Prop} {v0 : Nat} {v1 : Int32} {s0 : Nat} {s1 : Int32} {s2 : Int32} {G : Wd} (hw : wpX11_begin_95 Q  v0 v1 s0 s1 s2 G) : V X D 3 (ZM X D (QMv D Q) 0 0) G 0 0 95 [(0, .ref v0), (1, .int v1)] [.int s2, .int s1, .ref s0] := by
  unfold wpX11_begin_95 at hw
  obtain ⟨kd1, hw⟩ := hw
  obtain ⟨hi2, hw⟩ := hw
  refine v_iastE F rfl kd1 hi2 dX11_begin_95 (fun G3 hG3 => ?_)
  have hw := hw G3 hG3
  refine v_aload_n F dX11_begin_96 rfl 0 rfl ?_
  obtain ⟨kd4, hw⟩ := hw
  refine v_get F fl_X11_205 kd4 rfl dX11_begin_97 ?_
  refine v_iconst (v := 1) F dX11_begin_100 (by decide) ?_
  refine v_icmp_le (tgt := 110) F dX11_begin_101 (by decide) (fun h => ?_) (fun h => ?_)
  · rw [if_pos h] at hw
    exact v_vret F hw dX11_begin_110
  · rw [if_neg h] at hw
    refine v_aload_n F dX11_begin_104 rfl 0 rfl ?_
    refine v_iconst (v := 1) F dX11_begin_105 (by decide) ?_
    refine v_iload_n F dX11_begin_106 rfl 1 rfl ?_
    refine v_callv (r_V F lk_X11_298 kd4 (sX11_round 12 _ _ _ hw) (mkRm hR rfl rfl rfl rfl rfl rfl) rfl rfl (Nat.le_of_ble_eq_true rfl) dX11_begin_107) (fun G6 hw => ?_)
    refine v_widen (c' := 0) (s' := 0) (by decide) (by decide) ?_
    exact v_vret F hw dX11_begin_110
set_option maxRecDepth 100000 in
theorem sbX11_begin_70 {X : Cx} {D : Dx} (hR : X.2.2.2.1 = rmX11_begin) (F : Fx X D cX11_begin 3 RX11 none "begin") {Q : Wd → Prop} {v0 : Nat} {v1 : Int32} {v2 : Int32} {s0 : Nat} {s1 : Int32} {s2 : Int32} {G : Wd} (hw : wpX11_begin_70 Q  v0 v1 v2 s0 s1 s2 G) : V X D 3 (ZM X D (QMv D Q) 0 0) G 0 0 70 [(0, .ref v0), (1, .int v1), (2, .int v2)] [.int s2, .int s1, .ref s0] := by
  unfold wpX11_begin_70 at hw
  obtain ⟨kd7, hw⟩ := hw
  obtain ⟨hi8, hw⟩ := hw
  refine v_iastE F rfl kd7 hi8 dX11_begin_70 (fun G9 hG9 => ?_)
  have hw := hw G9 hG9
  refine v_aload_n F dX11_begin_71 rfl 0 rfl ?_
  obtain ⟨kd10, hw⟩ := hw
  obtain ⟨b11, hr12, hw⟩ := hw
  refine v_getS F fl_X11_72 (fun _ => rfl) kd10 hr12 dX11_begin_72 ?_
  refine v_iconst (v := 1) F dX11_begin_75 (by decide) ?_
  refine v_iload_n F dX11_begin_76 rfl 2 rfl ?_
  refine v_if_eq (tgt := 89) F dX11_begin_77 (by decide) (fun h => ?_) (fun h => ?_)
  · rw [if_pos h] at hw
    refine v_aload_n F dX11_begin_89 rfl 0 rfl ?_
    obtain ⟨b13, hr14, hw⟩ := hw
    refine v_getS F fl_X11_19 (fun _ => rfl) kd10 hr14 dX11_begin_90 ?_
    refine v_iload_n F dX11_begin_93 rfl 1 rfl ?_
    obtain ⟨kd15, hw⟩ := hw
    obtain ⟨hi16, hw⟩ := hw
    refine v_ialdE F rfl kd15 hi16 dX11_begin_94 ?_
    exact v_loc [0, 1] rfl (sbX11_begin_95 hR F  hw)
  · rw [if_neg h] at hw
    refine v_aload_n F dX11_begin_80 rfl 0 rfl ?_
    obtain ⟨b17, hr18, hw⟩ := hw
    refine v_getS F fl_X11_16 (fun _ => rfl) kd10 hr18 dX11_begin_81 ?_
    refine v_iload_n F dX11_begin_84 rfl 1 rfl ?_
    obtain ⟨kd19, hw⟩ := hw
    obtain ⟨hi20, hw⟩ := hw
    refine v_ialdE F rfl kd19 hi20 dX11_begin_85 ?_
    refine v_goto (tgt := 95) F dX11_begin_86 (by decide) ?_
    exact v_loc [0, 1] rfl (sbX11_begin_95 hR F  hw)
set_option maxRecDepth 100000 in
theorem sbX11_begin_17 {X : Cx} {D : Dx} (hR : X.2.2.2.1 = rmX11_begin) (F : Fx X D cX11_begin 3 RX11 none "begin") {Q : Wd → Prop} {v0 : Nat} {v1 : Int32} {v2 : Int32} {s0 : Nat} {s1 : Int32} {s2 : Int32} {G : Wd} (hw : wpX11_begin_17 Q  v0 v1 v2 s0 s1 s2 G) : V X D 3 (ZM X D (QMv D Q) 0 0) G 0 0 17 [(0, .ref v0), (1, .int v1), (2, .int v2)] [.int s2, .int s1, .ref s0] := by
  unfold wpX11_begin_17 at hw
  obtain ⟨kd21, hw⟩ := hw
  obtain ⟨hi22, hw⟩ := hw
  refine v_iastE F rfl kd21 hi22 dX11_begin_17 (fun G23 hG23 => ?_)
  have hw := hw G23 hG23
  refine v_aload_n F dX11_begin_18 rfl 0 rfl ?_
  obtain ⟨kd24, hw⟩ := hw
  obtain ⟨b25, hr26, hw⟩ := hw
  refine v_getS F fl_X11_16 (fun _ => rfl) kd24 hr26 dX11_begin_19 ?_
  refine v_iload_n F dX11_begin_22 rfl 1 rfl ?_
  obtain ⟨kd27, hw⟩ := hw
  obtain ⟨hi28, hw⟩ := hw
  refine v_ialdE F rfl kd27 hi28 dX11_begin_23 ?_
  refine v_aload_n F dX11_begin_24 rfl 0 rfl ?_
  obtain ⟨b29, hr30, hw⟩ := hw
  refine v_getS F fl_X11_19 (fun _ => rfl) kd24 hr30 dX11_begin_25 ?_
  refine v_iload_n F dX11_begin_28 rfl 1 rfl ?_
  obtain ⟨kd31, hw⟩ := hw
  obtain ⟨hi32, hw⟩ := hw
  refine v_ialdE F rfl kd31 hi32 dX11_begin_29 ?_
  refine v_icmp_ne (tgt := 46) F dX11_begin_30 (by decide) (fun h => ?_) (fun h => ?_)
  · rw [if_neg h] at hw
    refine v_aload_n F dX11_begin_46 rfl 0 rfl ?_
    obtain ⟨b33, hr34, hw⟩ := hw
    refine v_getS F fl_X11_72 (fun _ => rfl) kd24 hr34 dX11_begin_47 ?_
    refine v_iconst (v := 0) F dX11_begin_50 (by decide) ?_
    refine v_iload_n F dX11_begin_51 rfl 2 rfl ?_
    refine v_if_eq (tgt := 64) F dX11_begin_52 (by decide) (fun h => ?_) (fun h => ?_)
    · rw [if_pos h] at hw
      refine v_aload_n F dX11_begin_64 rfl 0 rfl ?_
      obtain ⟨b35, hr36, hw⟩ := hw
      refine v_getS F fl_X11_16 (fun _ => rfl) kd24 hr36 dX11_begin_65 ?_
      refine v_iload_n F dX11_begin_68 rfl 1 rfl ?_
      obtain ⟨kd37, hw⟩ := hw
      obtain ⟨hi38, hw⟩ := hw
      refine v_ialdE F rfl kd37 hi38 dX11_begin_69 ?_
      exact v_loc [0, 1, 2] rfl (sbX11_begin_70 hR F  hw)
    · rw [if_neg h] at hw
      refine v_aload_n F dX11_begin_55 rfl 0 rfl ?_
      obtain ⟨b39, hr40, hw⟩ := hw
      refine v_getS F fl_X11_19 (fun _ => rfl) kd24 hr40 dX11_begin_56 ?_
      refine v_iload_n F dX11_begin_59 rfl 1 rfl ?_
      obtain ⟨kd41, hw⟩ := hw
      obtain ⟨hi42, hw⟩ := hw
      refine v_ialdE F rfl kd41 hi42 dX11_begin_60 ?_
      refine v_goto (tgt := 70) F dX11_begin_61 (by decide) ?_
      exact v_loc [0, 1, 2] rfl (sbX11_begin_70 hR F  hw)
  · rw [if_pos h] at hw
    refine v_aload_n F dX11_begin_33 rfl 0 rfl ?_
    refine v_get F fl_X11_205 kd24 rfl dX11_begin_34 ?_
    refine v_iconst (v := 1) F dX11_begin_37 (by decide) ?_
    refine v_icmp_ne (tgt := 45) F dX11_begin_38 (by decide) (fun h => ?_) (fun h => ?_)
    · rw [if_neg h] at hw
      exact v_vret F hw dX11_begin_45
    · rw [if_pos h] at hw
      refine v_aload_n F dX11_begin_41 rfl 0 rfl ?_
      refine v_callv (r_V F lk_X11_295 kd24 (sX11_ring hw) (mkRm hR rfl rfl rfl rfl rfl rfl) rfl rfl (Nat.le_of_ble_eq_true rfl) dX11_begin_42) (fun G44 hw => ?_)
      refine v_widen (c' := 0) (s' := 0) (by decide) (by decide) ?_
      exact v_vret F hw dX11_begin_45
set_option maxRecDepth 100000 in
theorem sX11_begin {l : Launch} {D : Dx} {a0 : Nat} {p1 : Int32} {p2 : Int32} {G : Wd} {Q : Wd → Prop} (hw : wpX11_begin a0 p1 p2 G Q) : Met l yX11_begin (wM yX11_begin cX11_begin 3 none) rmX11_begin (PM D [.ref a0, .int p1, .int p2] G) (QMv D Q) 0 0 (Ab D) := by
  refine v_met (by decide) (Nat.le_of_ble_eq_true rfl) (fun X hl hR F => ?_)
  subst hl
  have F : Fx X D cX11_begin 3 RX11 none "begin" := F
  refine v_cast (L' := [(0, .ref a0), (1, .int p1), (2, .int p2)]) rfl rfl ?_
  unfold wpX11_begin at hw
  refine v_aload_n F dX11_begin_0 rfl 0 rfl ?_
  obtain ⟨kd45, hw⟩ := hw
  obtain ⟨b46, hr47, hw⟩ := hw
  refine v_getS F fl_X11_75 (fun _ => rfl) kd45 hr47 dX11_begin_1 ?_
  refine v_iconst (v := 0) F dX11_begin_4 (by decide) ?_
  refine v_iload_n F dX11_begin_5 rfl 2 rfl ?_
  refine v_if_eq (tgt := 16) F dX11_begin_6 (by decide) (fun h => ?_) (fun h => ?_)
  · rw [if_pos h] at hw
    refine v_iload_n F dX11_begin_16 rfl 1 rfl ?_
    exact v_loc [0, 1, 2] rfl (sbX11_begin_17 hR F  hw)
  · rw [if_neg h] at hw
    refine v_bipush (v := 100) F dX11_begin_9 (by decide) ?_
    refine v_iload_n F dX11_begin_11 rfl 1 rfl ?_
    refine v_iadd F dX11_begin_12 ?_
    refine v_goto (tgt := 17) F dX11_begin_13 (by decide) ?_
    exact v_loc [0, 1, 2] rfl (sbX11_begin_17 hR F  hw)
set_option maxRecDepth 100000 in
theorem sbX11_findRings_225 {X : Cx} {D : Dx} (hR : X.2.2.2.1 = rmX11_findRings) (F : Fx X D cX11_findRings 5 RX11 (some .boolean) "findRings") {Q : Int32 → Wd → Prop}  {G : Wd} (hw : wpX11_findRings_225 Q   G) : V X D 5 (ZM X D (QMi D Q) 0 0) G 0 0 225 [] [] := by
  unfold wpX11_findRings_225 at hw
  refine v_iconst (v := 1) F dX11_findRings_225 (by decide) ?_
  refine v_goto (tgt := 230) F dX11_findRings_226 (by decide) ?_
  exact v_zret F (Or.inr rfl) hw dX11_findRings_230
set_option maxRecDepth 100000 in
theorem sbX11_findRings_192 {X : Cx} {D : Dx} (hR : X.2.2.2.1 = rmX11_findRings) (F : Fx X D cX11_findRings 5 RX11 (some .boolean) "findRings") {Q : Int32 → Wd → Prop} {k134 : Nat → Int32 → Wd → Prop} (hk134 : ∀ v0 v3 G, k134 v0 v3 G → V X D 5 (ZM X D (QMi D Q) 0 0) G 0 0 134 [(0, .ref v0), (3, .int v3)] []) {v0 : Nat} {v3 : Int32} {G : Wd} (hw : wpX11_findRings_192 Q k134 v0 v3 G) : V X D 5 (ZM X D (QMi D Q) 0 0) G 0 0 192 [(0, .ref v0), (3, .int v3)] [] := by
  unfold wpX11_findRings_192 at hw
  refine v_aload_n F dX11_findRings_192 rfl 0 rfl ?_
  refine v_dup F dX11_findRings_193 rfl ?_
  obtain ⟨kd1, hw⟩ := hw
  refine v_get F fl_X11_205 kd1 rfl dX11_findRings_194 ?_
  refine v_iconst (v := 1) F dX11_findRings_197 (by decide) ?_
  refine v_iadd F dX11_findRings_198 ?_
  refine v_putI F fl_X11_205 (fun h => absurd h (by decide)) rfl kd1 dX11_findRings_199 ?_
  refine v_nmG (fun G2 hG2 => ?_)
  have hw := hw G2 hG2
  refine v_goto (tgt := 134) F dX11_findRings_202 (by decide) ?_
  exact v_loc [0, 1] rfl (hk134 _ _ _ hw)
set_option maxRecDepth 100000 in
theorem sbX11_findRings_186 {X : Cx} {D : Dx} (hR : X.2.2.2.1 = rmX11_findRings) (F : Fx X D cX11_findRings 5 RX11 (some .boolean) "findRings") {Q : Int32 → Wd → Prop} {k134 : Nat → Int32 → Wd → Prop} {k146 : Nat → Int32 → Int32 → Wd → Prop} (hk134 : ∀ v0 v3 G, k134 v0 v3 G → V X D 5 (ZM X D (QMi D Q) 0 0) G 0 0 134 [(0, .ref v0), (3, .int v3)] []) (hk146 : ∀ v0 v3 v4 G, k146 v0 v3 v4 G → V X D 5 (ZM X D (QMi D Q) 0 0) G 0 0 146 [(0, .ref v0), (3, .int v3), (4, .int v4)] []) {v0 : Nat} {v3 : Int32} {v4 : Int32} {G : Wd} (hw : wpX11_findRings_186 Q k134 k146 v0 v3 v4 G) : V X D 5 (ZM X D (QMi D Q) 0 0) G 0 0 186 [(0, .ref v0), (3, .int v3), (4, .int v4)] [] := by
  unfold wpX11_findRings_186 at hw
  refine v_iincN (c := 1) F dX11_findRings_186 2 rfl (by decide) (by decide) (fun x3 hx3 => ?_)
  refine v_cast (L' := [(4, .int x3), (0, .ref v0), (3, .int v3)]) rfl rfl ?_
  have hw := hw x3 hx3
  refine v_goto (tgt := 146) F dX11_findRings_189 (by decide) ?_
  exact v_loc [1, 2, 0] rfl (hk146 _ _ _ _ hw)
set_option maxRecDepth 100000 in
theorem sbX11_findRings_146 {X : Cx} {D : Dx} (hR : X.2.2.2.1 = rmX11_findRings) (F : Fx X D cX11_findRings 5 RX11 (some .boolean) "findRings") {Q : Int32 → Wd → Prop} {k134 : Nat → Int32 → Wd → Prop} (hk134 : ∀ v0 v3 G, k134 v0 v3 G → V X D 5 (ZM X D (QMi D Q) 0 0) G 0 0 134 [(0, .ref v0), (3, .int v3)] []) : ∀ (n : Nat) (v0 : Nat) (v3 : Int32) (v4 : Int32) (G : Wd), wpX11_findRings_146 Q k134 n v0 v3 v4 G → V X D 5 (ZM X D (QMi D Q) 0 0) G 0 0 146 [(0, .ref v0), (3, .int v3), (4, .int v4)] [] := by
  intro n
  induction n with
  | zero => intro v0 v3 v4 G hw; exact hw.elim
  | succ n ih =>
    intro v0 v3 v4 G hw
    simp only [wpX11_findRings_146] at hw
    refine v_iload F dX11_findRings_146 2 rfl ?_
    refine v_aload_n F dX11_findRings_148 rfl 0 rfl ?_
    obtain ⟨kd4, hw⟩ := hw
    refine v_get F fl_X11_159 kd4 rfl dX11_findRings_149 ?_
    refine v_icmp_ge (tgt := 192) F dX11_findRings_152 (by decide) (fun h => ?_) (fun h => ?_)
    · rw [if_pos h] at hw
      exact v_loc [0, 1] rfl (sbX11_findRings_192 hR F hk134 hw)
    · rw [if_neg h] at hw
      refine v_aload_n F dX11_findRings_155 rfl 0 rfl ?_
      refine v_get F fl_X11_103 kd4 rfl dX11_findRings_156 ?_
      refine v_if_ne (tgt := 192) F dX11_findRings_159 (by decide) (fun h => ?_) (fun h => ?_)
      · rw [if_neg h] at hw
        exact v_loc [0, 1] rfl (sbX11_findRings_192 hR F hk134 hw)
      · rw [if_pos h] at hw
        refine v_aload_n F dX11_findRings_162 rfl 0 rfl ?_
        obtain ⟨b5, hr6, hw⟩ := hw
        refine v_getS F fl_X11_69 (fun _ => rfl) kd4 hr6 dX11_findRings_163 ?_
        refine v_iload F dX11_findRings_166 2 rfl ?_
        obtain ⟨kd7, hw⟩ := hw
        obtain ⟨hi8, hw⟩ := hw
        refine v_zaldE F rfl kd7 hi8 dX11_findRings_168 ?_
        refine v_if_eq (tgt := 186) F dX11_findRings_169 (by decide) (fun h => ?_) (fun h => ?_)
        · rw [if_pos h] at hw
          exact v_loc [0, 1, 2] rfl (sbX11_findRings_186 hR F hk134 ih hw)
        · rw [if_neg h] at hw
          refine v_aload_n F dX11_findRings_172 rfl 0 rfl ?_
          refine v_iload F dX11_findRings_173 2 rfl ?_
          refine v_iconst (v := 0) F dX11_findRings_175 (by decide) ?_
          refine v_callv (r_V F lk_X11_304 kd4 (sX11_begin hw) (mkRm hR rfl rfl rfl rfl rfl rfl) rfl rfl (Nat.le_of_ble_eq_true rfl) dX11_findRings_176) (fun G10 hw => ?_)
          refine v_aload_n F dX11_findRings_179 rfl 0 rfl ?_
          refine v_iload F dX11_findRings_180 2 rfl ?_
          refine v_iconst (v := 1) F dX11_findRings_182 (by decide) ?_
          obtain ⟨kd11, hw⟩ := hw
          refine v_callv (r_V F lk_X11_304 kd11 (sX11_begin hw) (mkRm hR rfl rfl rfl rfl rfl rfl) rfl rfl (Nat.le_of_ble_eq_true rfl) dX11_findRings_183) (fun G13 hw => ?_)
          exact v_loc [0, 1, 2] rfl (sbX11_findRings_186 hR F hk134 ih hw)
set_option maxRecDepth 100000 in
theorem sbX11_findRings_134 {X : Cx} {D : Dx} (hR : X.2.2.2.1 = rmX11_findRings) (F : Fx X D cX11_findRings 5 RX11 (some .boolean) "findRings") {Q : Int32 → Wd → Prop} : ∀ (n : Nat) (v0 : Nat) (v3 : Int32) (G : Wd), wpX11_findRings_134 Q  n v0 v3 G → V X D 5 (ZM X D (QMi D Q) 0 0) G 0 0 134 [(0, .ref v0), (3, .int v3)] [] := by
  intro n
  induction n with
  | zero => intro v0 v3 G hw; exact hw.elim
  | succ n ih =>
    intro v0 v3 G hw
    simp only [wpX11_findRings_134] at hw
    refine v_aload_n F dX11_findRings_134 rfl 0 rfl ?_
    obtain ⟨kd14, hw⟩ := hw
    refine v_get F fl_X11_205 kd14 rfl dX11_findRings_135 ?_
    refine v_bipush (v := 10) F dX11_findRings_138 (by decide) ?_
    refine v_icmp_gt (tgt := 205) F dX11_findRings_140 (by decide) (fun h => ?_) (fun h => ?_)
    · rw [if_pos h] at hw
      refine v_aload_n F dX11_findRings_205 rfl 0 rfl ?_
      refine v_get F fl_X11_103 kd14 rfl dX11_findRings_206 ?_
      refine v_if_ne (tgt := 229) F dX11_findRings_209 (by decide) (fun h => ?_) (fun h => ?_)
      · rw [if_neg h] at hw
        refine v_iconst (v := 0) F dX11_findRings_229 (by decide) ?_
        exact v_zret F (Or.inl rfl) hw dX11_findRings_230
      · rw [if_pos h] at hw
        refine v_iload_n F dX11_findRings_212 rfl 1 rfl ?_
        refine v_if_eq (tgt := 225) F dX11_findRings_213 (by decide) (fun h => ?_) (fun h => ?_)
        · rw [if_pos h] at hw
          exact v_loc [] rfl (sbX11_findRings_225 hR F  hw)
        · rw [if_neg h] at hw
          refine v_aload_n F dX11_findRings_216 rfl 0 rfl ?_
          refine v_get F fl_X11_301 kd14 rfl dX11_findRings_217 ?_
          refine v_bipush (v := 10) F dX11_findRings_220 (by decide) ?_
          refine v_icmp_gt (tgt := 229) F dX11_findRings_222 (by decide) (fun h => ?_) (fun h => ?_)
          · rw [if_pos h] at hw
            refine v_iconst (v := 0) F dX11_findRings_229 (by decide) ?_
            exact v_zret F (Or.inl rfl) hw dX11_findRings_230
          · rw [if_neg h] at hw
            exact v_loc [] rfl (sbX11_findRings_225 hR F  hw)
    · rw [if_neg h] at hw
      refine v_iconst (v := 0) F dX11_findRings_143 (by decide) ?_
      refine v_istore (L' := [(4, .int 0), (0, .ref v0), (3, .int v3)]) F dX11_findRings_144 (by decide) rfl ?_
      obtain ⟨m, hw⟩ := hw
      exact v_loc [1, 2, 0] rfl (sbX11_findRings_146 hR F ih m _ _ _ _ hw)
set_option maxRecDepth 100000 in
theorem sbX11_findRings_97 {X : Cx} {D : Dx} (hR : X.2.2.2.1 = rmX11_findRings) (F : Fx X D cX11_findRings 5 RX11 (some .boolean) "findRings") {Q : Int32 → Wd → Prop} : ∀ (n : Nat) (v0 : Nat) (v3 : Int32) (v4 : Int32) (G : Wd), wpX11_findRings_97 Q  n v0 v3 v4 G → V X D 5 (ZM X D (QMi D Q) 0 0) G 0 0 97 [(0, .ref v0), (3, .int v3), (4, .int v4)] [] := by
  intro n
  induction n with
  | zero => intro v0 v3 v4 G hw; exact hw.elim
  | succ n ih =>
    intro v0 v3 v4 G hw
    simp only [wpX11_findRings_97] at hw
    refine v_iload F dX11_findRings_97 2 rfl ?_
    refine v_sipush (v := 1024) F dX11_findRings_99 (by decide) ?_
    refine v_icmp_ge (tgt := 119) F dX11_findRings_102 (by decide) (fun h => ?_) (fun h => ?_)
    · rw [if_pos h] at hw
      refine v_aload_n F dX11_findRings_119 rfl 0 rfl ?_
      refine v_iconst (v := 0) F dX11_findRings_120 (by decide) ?_
      obtain ⟨kd15, hw⟩ := hw
      refine v_putZ F fl_X11_285 (fun h => absurd h (by decide)) rfl (Or.inl rfl) kd15 dX11_findRings_121 ?_
      refine v_nmG (fun G16 hG16 => ?_)
      have hw := hw G16 hG16
      refine v_aload_n F dX11_findRings_124 rfl 0 rfl ?_
      refine v_iconst (v := 0) F dX11_findRings_125 (by decide) ?_
      have kd17 : gK G16 v0 = 11 := by rw [hG16]; exact kd15
      refine v_putZ F fl_X11_103 (fun h => absurd h (by decide)) rfl (Or.inl rfl) kd17 dX11_findRings_126 ?_
      refine v_nmG (fun G18 hG18 => ?_)
      have hw := hw G18 hG18
      refine v_aload_n F dX11_findRings_129 rfl 0 rfl ?_
      refine v_iconst (v := 1) F dX11_findRings_130 (by decide) ?_
      have kd19 : gK G18 v0 = 11 := by rw [hG18]; exact kd17
      refine v_putI F fl_X11_205 (fun h => absurd h (by decide)) rfl kd19 dX11_findRings_131 ?_
      refine v_nmG (fun G20 hG20 => ?_)
      have hw := hw G20 hG20
      obtain ⟨m, hw⟩ := hw
      exact v_loc [0, 1] rfl (sbX11_findRings_134 hR F  m _ _ _ hw)
    · rw [if_neg h] at hw
      refine v_aload_n F dX11_findRings_105 rfl 0 rfl ?_
      obtain ⟨kd21, hw⟩ := hw
      obtain ⟨b22, hr23, hw⟩ := hw
      refine v_getS F fl_X11_81 (fun _ => rfl) kd21 hr23 dX11_findRings_106 ?_
      refine v_iload F dX11_findRings_109 2 rfl ?_
      refine v_iconst (v := 0) F dX11_findRings_111 (by decide) ?_
      obtain ⟨kd24, hw⟩ := hw
      obtain ⟨hi25, hw⟩ := hw
      refine v_zastE F rfl (Or.inl rfl) kd24 hi25 dX11_findRings_112 (fun G26 hG26 => ?_)
      have hw := hw G26 hG26
      refine v_iincN (c := 1) F dX11_findRings_113 2 rfl (by decide) (by decide) (fun x27 hx27 => ?_)
      refine v_cast (L' := [(4, .int x27), (0, .ref v0), (3, .int v3)]) rfl rfl ?_
      have hw := hw x27 hx27
      refine v_goto (tgt := 97) F dX11_findRings_116 (by decide) ?_
      exact v_loc [1, 2, 0] rfl (ih _ _ _ _ hw)
set_option maxRecDepth 100000 in
theorem sbX11_findRings_88 {X : Cx} {D : Dx} (hR : X.2.2.2.1 = rmX11_findRings) (F : Fx X D cX11_findRings 5 RX11 (some .boolean) "findRings") {Q : Int32 → Wd → Prop} {k14 : Nat → Int32 → Int32 → Wd → Prop} (hk14 : ∀ v0 v3 v4 G, k14 v0 v3 v4 G → V X D 5 (ZM X D (QMi D Q) 0 0) G 0 0 14 [(0, .ref v0), (3, .int v3), (4, .int v4)] []) {v0 : Nat} {v3 : Int32} {v4 : Int32} {G : Wd} (hw : wpX11_findRings_88 Q k14 v0 v3 v4 G) : V X D 5 (ZM X D (QMi D Q) 0 0) G 0 0 88 [(0, .ref v0), (3, .int v3), (4, .int v4)] [] := by
  unfold wpX11_findRings_88 at hw
  refine v_iincN (c := 1) F dX11_findRings_88 2 rfl (by decide) (by decide) (fun x28 hx28 => ?_)
  refine v_cast (L' := [(4, .int x28), (0, .ref v0), (3, .int v3)]) rfl rfl ?_
  have hw := hw x28 hx28
  refine v_goto (tgt := 14) F dX11_findRings_91 (by decide) ?_
  exact v_loc [1, 2, 0] rfl (hk14 _ _ _ _ hw)
set_option maxRecDepth 100000 in
theorem sbX11_findRings_77 {X : Cx} {D : Dx} (hR : X.2.2.2.1 = rmX11_findRings) (F : Fx X D cX11_findRings 5 RX11 (some .boolean) "findRings") {Q : Int32 → Wd → Prop} {k14 : Nat → Int32 → Int32 → Wd → Prop} (hk14 : ∀ v0 v3 v4 G, k14 v0 v3 v4 G → V X D 5 (ZM X D (QMi D Q) 0 0) G 0 0 14 [(0, .ref v0), (3, .int v3), (4, .int v4)] []) {v0 : Nat} {v3 : Int32} {v4 : Int32} {s0 : Nat} {s1 : Int32} {s2 : Int32} {G : Wd} (hw : wpX11_findRings_77 Q k14 v0 v3 v4 s0 s1 s2 G) : V X D 5 (ZM X D (QMi D Q) 0 0) G 0 0 77 [(0, .ref v0), (3, .int v3), (4, .int v4)] [.int s2, .int s1, .ref s0] := by
  unfold wpX11_findRings_77 at hw
  obtain ⟨kd29, hw⟩ := hw
  obtain ⟨hi30, hw⟩ := hw
  refine v_iastE F rfl kd29 hi30 dX11_findRings_77 (fun G31 hG31 => ?_)
  have hw := hw G31 hG31
  refine v_aload_n F dX11_findRings_78 rfl 0 rfl ?_
  refine v_dup F dX11_findRings_79 rfl ?_
  obtain ⟨kd32, hw⟩ := hw
  refine v_get F fl_X11_301 kd32 rfl dX11_findRings_80 ?_
  refine v_iconst (v := 1) F dX11_findRings_83 (by decide) ?_
  refine v_iadd F dX11_findRings_84 ?_
  refine v_putI F fl_X11_301 (fun h => absurd h (by decide)) rfl kd32 dX11_findRings_85 ?_
  refine v_nmG (fun G33 hG33 => ?_)
  have hw := hw G33 hG33
  exact v_loc [0, 1, 2] rfl (sbX11_findRings_88 hR F hk14 hw)
set_option maxRecDepth 100000 in
theorem sbX11_findRings_76 {X : Cx} {D : Dx} (hR : X.2.2.2.1 = rmX11_findRings) (F : Fx X D cX11_findRings 5 RX11 (some .boolean) "findRings") {Q : Int32 → Wd → Prop} {k14 : Nat → Int32 → Int32 → Wd → Prop} (hk14 : ∀ v0 v3 v4 G, k14 v0 v3 v4 G → V X D 5 (ZM X D (QMi D Q) 0 0) G 0 0 14 [(0, .ref v0), (3, .int v3), (4, .int v4)] []) {v0 : Nat} {v3 : Int32} {v4 : Int32} {s0 : Nat} {s1 : Int32} {G : Wd} (hw : wpX11_findRings_76 Q k14 v0 v3 v4 s0 s1 G) : V X D 5 (ZM X D (QMi D Q) 0 0) G 0 0 76 [(0, .ref v0), (3, .int v3), (4, .int v4)] [.int s1, .ref s0] := by
  unfold wpX11_findRings_76 at hw
  refine v_iconst (v := (-1)) F dX11_findRings_76 (by decide) ?_
  exact v_loc [0, 1, 2] rfl (sbX11_findRings_77 hR F hk14 hw)
set_option maxRecDepth 100000 in
theorem sbX11_findRings_14 {X : Cx} {D : Dx} (hR : X.2.2.2.1 = rmX11_findRings) (F : Fx X D cX11_findRings 5 RX11 (some .boolean) "findRings") {Q : Int32 → Wd → Prop} : ∀ (n : Nat) (v0 : Nat) (v3 : Int32) (v4 : Int32) (G : Wd), wpX11_findRings_14 Q  n v0 v3 v4 G → V X D 5 (ZM X D (QMi D Q) 0 0) G 0 0 14 [(0, .ref v0), (3, .int v3), (4, .int v4)] [] := by
  intro n
  induction n with
  | zero => intro v0 v3 v4 G hw; exact hw.elim
  | succ n ih =>
    intro v0 v3 v4 G hw
    simp only [wpX11_findRings_14] at hw
    refine v_iload F dX11_findRings_14 2 rfl ?_
    refine v_aload_n F dX11_findRings_16 rfl 0 rfl ?_
    obtain ⟨kd34, hw⟩ := hw
    refine v_get F fl_X11_159 kd34 rfl dX11_findRings_17 ?_
    refine v_icmp_ge (tgt := 94) F dX11_findRings_20 (by decide) (fun h => ?_) (fun h => ?_)
    · rw [if_pos h] at hw
      refine v_iconst (v := 0) F dX11_findRings_94 (by decide) ?_
      refine v_istore (L' := [(4, .int 0), (0, .ref v0), (3, .int v3)]) F dX11_findRings_95 (by decide) rfl ?_
      obtain ⟨m, hw⟩ := hw
      exact v_loc [1, 2, 0] rfl (sbX11_findRings_97 hR F  m _ _ _ _ hw)
    · rw [if_neg h] at hw
      refine v_aload_n F dX11_findRings_23 rfl 0 rfl ?_
      obtain ⟨b35, hr36, hw⟩ := hw
      refine v_getS F fl_X11_84 (fun _ => rfl) kd34 hr36 dX11_findRings_24 ?_
      refine v_iload F dX11_findRings_27 2 rfl ?_
      refine v_iconst (v := (-1)) F dX11_findRings_29 (by decide) ?_
      obtain ⟨kd37, hw⟩ := hw
      obtain ⟨hi38, hw⟩ := hw
      refine v_iastE F rfl kd37 hi38 dX11_findRings_30 (fun G39 hG39 => ?_)
      have hw := hw G39 hG39
      refine v_aload_n F dX11_findRings_31 rfl 0 rfl ?_
      have kd40 : gK G39 v0 = 11 := by rw [hG39]; exact kd34
      obtain ⟨b41, hr42, hw⟩ := hw
      refine v_getS F fl_X11_69 (fun _ => rfl) kd40 hr42 dX11_findRings_32 ?_
      refine v_iload F dX11_findRings_35 2 rfl ?_
      obtain ⟨kd43, hw⟩ := hw
      obtain ⟨hi44, hw⟩ := hw
      refine v_zaldE F rfl kd43 hi44 dX11_findRings_37 ?_
      refine v_if_eq (tgt := 88) F dX11_findRings_38 (by decide) (fun h => ?_) (fun h => ?_)
      · rw [if_pos h] at hw
        exact v_loc [0, 1, 2] rfl (sbX11_findRings_88 hR F ih hw)
      · rw [if_neg h] at hw
        refine v_aload_n F dX11_findRings_41 rfl 0 rfl ?_
        refine v_iload F dX11_findRings_42 2 rfl ?_
        refine v_calli (r_V F lk_X11_178 kd40 (sX11_isDoubtful hw) (mkRm hR rfl rfl rfl rfl rfl rfl) rfl rfl (Nat.le_of_ble_eq_true rfl) dX11_findRings_44) (fun r45 G46 hw => ?_)
        refine v_if_eq (tgt := 88) F dX11_findRings_47 (by decide) (fun h => ?_) (fun h => ?_)
        · rw [if_pos h] at hw
          exact v_loc [0, 1, 2] rfl (sbX11_findRings_88 hR F ih hw)
        · rw [if_neg h] at hw
          refine v_aload_n F dX11_findRings_50 rfl 0 rfl ?_
          obtain ⟨kd47, hw⟩ := hw
          obtain ⟨b48, hr49, hw⟩ := hw
          refine v_getS F fl_X11_84 (fun _ => rfl) kd47 hr49 dX11_findRings_51 ?_
          refine v_iload F dX11_findRings_54 2 rfl ?_
          refine v_iload_n F dX11_findRings_56 rfl 1 rfl ?_
          refine v_if_eq (tgt := 76) F dX11_findRings_57 (by decide) (fun h => ?_) (fun h => ?_)
          · rw [if_pos h] at hw
            exact v_loc [0, 1, 2] rfl (sbX11_findRings_76 hR F ih hw)
          · rw [if_neg h] at hw
            refine v_aload_n F dX11_findRings_60 rfl 0 rfl ?_
            refine v_get F fl_X11_301 kd47 rfl dX11_findRings_61 ?_
            refine v_bipush (v := 10) F dX11_findRings_64 (by decide) ?_
            refine v_icmp_ge (tgt := 76) F dX11_findRings_66 (by decide) (fun h => ?_) (fun h => ?_)
            · rw [if_pos h] at hw
              exact v_loc [0, 1, 2] rfl (sbX11_findRings_76 hR F ih hw)
            · rw [if_neg h] at hw
              refine v_aload_n F dX11_findRings_69 rfl 0 rfl ?_
              refine v_get F fl_X11_301 kd47 rfl dX11_findRings_70 ?_
              refine v_goto (tgt := 77) F dX11_findRings_73 (by decide) ?_
              exact v_loc [0, 1, 2] rfl (sbX11_findRings_77 hR F ih hw)
set_option maxRecDepth 100000 in
theorem sX11_findRings {l : Launch} {D : Dx} {a0 : Nat} {p1 : Int32} {p2 : Int32} {p3 : Int32} {G : Wd} {Q : Int32 → Wd → Prop} (hw : wpX11_findRings a0 p1 p2 p3 G Q) : Met l yX11_findRings (wM yX11_findRings cX11_findRings 5 (some .boolean)) rmX11_findRings (PM D [.ref a0, .int p1, .int p2, .int p3] G) (QMi D Q) 0 0 (Ab D) := by
  refine v_met (by decide) (Nat.le_of_ble_eq_true rfl) (fun X hl hR F => ?_)
  subst hl
  have F : Fx X D cX11_findRings 5 RX11 (some .boolean) "findRings" := F
  refine v_cast (L' := [(0, .ref a0), (1, .int p1), (2, .int p2), (3, .int p3)]) rfl rfl ?_
  unfold wpX11_findRings at hw
  refine v_aload_n F dX11_findRings_0 rfl 0 rfl ?_
  refine v_iload_n F dX11_findRings_1 rfl 1 rfl ?_
  refine v_iload_n F dX11_findRings_2 rfl 2 rfl ?_
  obtain ⟨kd50, hw⟩ := hw
  refine v_callv (r_V F lk_X11_263 kd50 (sX11_findCounted hw) (mkRm hR rfl rfl rfl rfl rfl rfl) rfl rfl (Nat.le_of_ble_eq_true rfl) dX11_findRings_3) (fun G52 hw => ?_)
  refine v_aload_n F dX11_findRings_6 rfl 0 rfl ?_
  refine v_iconst (v := 0) F dX11_findRings_7 (by decide) ?_
  obtain ⟨kd53, hw⟩ := hw
  refine v_putI F fl_X11_301 (fun h => absurd h (by decide)) rfl kd53 dX11_findRings_8 ?_
  refine v_nmG (fun G54 hG54 => ?_)
  have hw := hw G54 hG54
  refine v_iconst (v := 0) F dX11_findRings_11 (by decide) ?_
  refine v_istore (L' := [(4, .int 0), (0, .ref a0), (1, .int p1), (2, .int p2), (3, .int p3)]) F dX11_findRings_12 (by decide) rfl ?_
  obtain ⟨m, hw⟩ := hw
  exact v_loc [1, 4, 0] rfl (sbX11_findRings_14 hR F  m _ _ _ _ hw)
set_option maxRecDepth 100000 in
theorem sX11_quarrel {l : Launch} {D : Dx} {a0 : Nat} {p1 : Int32} {p2 : Int32} {G : Wd} {Q : Int64 → Wd → Prop} (hw : wpX11_quarrel a0 p1 p2 G Q) : Met l yX11_quarrel (wM yX11_quarrel cX11_quarrel 3 (some .long)) rmX11_quarrel (PM D [.ref a0, .int p1, .int p2] G) (QMl D Q) 0 0 (Ab D) := by
  refine v_met (by decide) (Nat.le_of_ble_eq_true rfl) (fun X hl hR F => ?_)
  subst hl
  have F : Fx X D cX11_quarrel 3 RX11 (some .long) "quarrel" := F
  refine v_cast (L' := [(0, .ref a0), (1, .int p1), (2, .int p2)]) rfl rfl ?_
  unfold wpX11_quarrel at hw
  refine v_iload_n F dX11_quarrel_0 rfl 1 rfl ?_
  refine v_calli (r_S F ls_X11_260 (sX11_isTime hw) (mkRm hR rfl rfl rfl rfl rfl rfl) rfl rfl (Nat.le_of_ble_eq_true rfl) dX11_quarrel_1) (fun r1 G2 hw => ?_)
  refine v_if_eq (tgt := 11) F dX11_quarrel_4 (by decide) (fun h => ?_) (fun h => ?_)
  · rw [if_pos h] at hw
    refine v_ldc2 (v := (-9000000000000000001)) F wd_1021 dX11_quarrel_11 ?_
    refine v_widen (c' := 0) (s' := 0) (by decide) (by decide) ?_
    exact v_lret F hw dX11_quarrel_14
  · rw [if_neg h] at hw
    refine v_iload_n F dX11_quarrel_7 rfl 2 rfl ?_
    refine v_if_ge (tgt := 15) F dX11_quarrel_8 (by decide) (fun h => ?_) (fun h => ?_)
    · rw [if_pos h] at hw
      refine v_aload_n F dX11_quarrel_15 rfl 0 rfl ?_
      refine v_iload_n F dX11_quarrel_16 rfl 1 rfl ?_
      refine v_sipush (v := 10000) F dX11_quarrel_17 (by decide) ?_
      refine v_idiv F dX11_quarrel_20 (by decide) ?_
      refine v_iload_n F dX11_quarrel_21 rfl 1 rfl ?_
      refine v_sipush (v := 10000) F dX11_quarrel_22 (by decide) ?_
      refine v_iremE F dX11_quarrel_25 (by decide) ?_
      refine v_iconst (v := 0) F dX11_quarrel_26 (by decide) ?_
      obtain ⟨kd3, hw⟩ := hw
      refine v_calli (r_V F lk_X11_308 kd3 (sX11_findRings hw) (mkRm hR rfl rfl rfl rfl rfl rfl) rfl rfl (Nat.le_of_ble_eq_true rfl) dX11_quarrel_27) (fun r4 G5 hw => ?_)
      refine v_if_ne (tgt := 37) F dX11_quarrel_30 (by decide) (fun h => ?_) (fun h => ?_)
      · rw [if_neg h] at hw
        refine v_aload_n F dX11_quarrel_37 rfl 0 rfl ?_
        obtain ⟨kd6, hw⟩ := hw
        refine v_get F fl_X11_285 kd6 rfl dX11_quarrel_38 ?_
        refine v_if_eq (tgt := 62) F dX11_quarrel_41 (by decide) (fun h => ?_) (fun h => ?_)
        · rw [if_pos h] at hw
          refine v_ldc2 (v := (-9000000000000000005)) F wd_1168 dX11_quarrel_62 ?_
          refine v_widen (c' := 0) (s' := 0) (by decide) (by decide) ?_
          exact v_lret F hw dX11_quarrel_65
        · rw [if_neg h] at hw
          refine v_iload_n F dX11_quarrel_44 rfl 2 rfl ?_
          refine v_aload_n F dX11_quarrel_45 rfl 0 rfl ?_
          refine v_get F fl_X11_240 kd6 rfl dX11_quarrel_46 ?_
          refine v_icmp_ge (tgt := 62) F dX11_quarrel_49 (by decide) (fun h => ?_) (fun h => ?_)
          · rw [if_pos h] at hw
            refine v_ldc2 (v := (-9000000000000000005)) F wd_1168 dX11_quarrel_62 ?_
            refine v_widen (c' := 0) (s' := 0) (by decide) (by decide) ?_
            exact v_lret F hw dX11_quarrel_65
          · rw [if_neg h] at hw
            refine v_aload_n F dX11_quarrel_52 rfl 0 rfl ?_
            obtain ⟨b7, hr8, hw⟩ := hw
            refine v_getS F fl_X11_78 (fun _ => rfl) kd6 hr8 dX11_quarrel_53 ?_
            refine v_iload_n F dX11_quarrel_56 rfl 2 rfl ?_
            obtain ⟨kd9, hw⟩ := hw
            obtain ⟨hi10, hw⟩ := hw
            refine v_ialdE F rfl kd9 hi10 dX11_quarrel_57 ?_
            refine v_i2l F dX11_quarrel_58 ?_
            refine v_goto (tgt := 65) F dX11_quarrel_59 (by decide) ?_
            refine v_widen (c' := 0) (s' := 0) (by decide) (by decide) ?_
            exact v_lret F hw dX11_quarrel_65
      · rw [if_pos h] at hw
        refine v_ldc2 (v := (-9000000000000000004)) F wd_1180 dX11_quarrel_33 ?_
        refine v_widen (c' := 0) (s' := 0) (by decide) (by decide) ?_
        exact v_lret F hw dX11_quarrel_36
    · rw [if_neg h] at hw
      refine v_ldc2 (v := (-9000000000000000001)) F wd_1021 dX11_quarrel_11 ?_
      refine v_widen (c' := 0) (s' := 0) (by decide) (by decide) ?_
      exact v_lret F hw dX11_quarrel_14
set_option maxRecDepth 100000 in
theorem sbX11_cureOf_224 {X : Cx} {D : Dx} (hR : X.2.2.2.1 = rmX11_cureOf) (F : Fx X D cX11_cureOf 14 RX11 (some .long) "cureOf") {Q : Int64 → Wd → Prop} {k27 : Nat → Int64 → Int32 → Int32 → Int32 → Wd → Prop} (hk27 : ∀ v0 v3 v5 v6 v7 G, k27 v0 v3 v5 v6 v7 G → V X D 14 (ZM X D (QMl D Q) 0 0) G 0 0 27 [(0, .ref v0), (3, .long v3), (5, .int v5), (6, .int v6), (7, .int v7)] []) {v0 : Nat} {v3 : Int64} {v5 : Int32} {v6 : Int32} {v7 : Int32} {G : Wd} (hw : wpX11_cureOf_224 Q k27 v0 v3 v5 v6 v7 G) : V X D 14 (ZM X D (QMl D Q) 0 0) G 0 0 224 [(0, .ref v0), (3, .long v3), (5, .int v5), (6, .int v6), (7, .int v7)] [] := by
  unfold wpX11_cureOf_224 at hw
  refine v_iincN (c := 1) F dX11_cureOf_224 4 rfl (by decide) (by decide) (fun x1 hx1 => ?_)
  refine v_cast (L' := [(7, .int x1), (0, .ref v0), (3, .long v3), (5, .int v5), (6, .int v6)]) rfl rfl ?_
  have hw := hw x1 hx1
  refine v_goto (tgt := 27) F dX11_cureOf_227 (by decide) ?_
  exact v_loc [1, 2, 3, 4, 0] rfl (hk27 _ _ _ _ _ _ hw)
set_option maxRecDepth 100000 in
theorem sbX11_cureOf_213 {X : Cx} {D : Dx} (hR : X.2.2.2.1 = rmX11_cureOf) (F : Fx X D cX11_cureOf 14 RX11 (some .long) "cureOf") {Q : Int64 → Wd → Prop} {k27 : Nat → Int64 → Int32 → Int32 → Int32 → Wd → Prop} (hk27 : ∀ v0 v3 v5 v6 v7 G, k27 v0 v3 v5 v6 v7 G → V X D 14 (ZM X D (QMl D Q) 0 0) G 0 0 27 [(0, .ref v0), (3, .long v3), (5, .int v5), (6, .int v6), (7, .int v7)] []) {v0 : Nat} {v7 : Int32} {v9 : Int32} {v10 : Int32} {v11 : Int64} {G : Wd} (hw : wpX11_cureOf_213 Q k27 v0 v7 v9 v10 v11 G) : V X D 14 (ZM X D (QMl D Q) 0 0) G 0 0 213 [(0, .ref v0), (7, .int v7), (9, .int v9), (10, .int v10), (11, .long v11)] [] := by
  unfold wpX11_cureOf_213 at hw
  refine v_lload F dX11_cureOf_213 4 rfl ?_
  refine v_lstore_n (L' := [(3, .long v11), (0, .ref v0), (7, .int v7), (9, .int v9), (10, .int v10), (11, .long v11)]) F dX11_cureOf_215 rfl (by decide) rfl ?_
  refine v_iload F dX11_cureOf_216 3 rfl ?_
  refine v_istore (L' := [(5, .int v9), (3, .long v11), (0, .ref v0), (7, .int v7), (9, .int v9), (10, .int v10), (11, .long v11)]) F dX11_cureOf_218 (by decide) rfl ?_
  refine v_iload F dX11_cureOf_220 5 rfl ?_
  refine v_istore (L' := [(6, .int v10), (5, .int v9), (3, .long v11), (0, .ref v0), (7, .int v7), (9, .int v9), (10, .int v10), (11, .long v11)]) F dX11_cureOf_222 (by decide) rfl ?_
  exact v_loc [3, 2, 1, 0, 4] rfl (sbX11_cureOf_224 hR F hk27 hw)
set_option maxRecDepth 100000 in
theorem sbX11_cureOf_164 {X : Cx} {D : Dx} (hR : X.2.2.2.1 = rmX11_cureOf) (F : Fx X D cX11_cureOf 14 RX11 (some .long) "cureOf") {Q : Int64 → Wd → Prop} {k27 : Nat → Int64 → Int32 → Int32 → Int32 → Wd → Prop} {k105 : Nat → Int64 → Int32 → Int32 → Int32 → Int32 → Int32 → Int64 → Int32 → Wd → Prop} (hk27 : ∀ v0 v3 v5 v6 v7 G, k27 v0 v3 v5 v6 v7 G → V X D 14 (ZM X D (QMl D Q) 0 0) G 0 0 27 [(0, .ref v0), (3, .long v3), (5, .int v5), (6, .int v6), (7, .int v7)] []) (hk105 : ∀ v0 v3 v5 v6 v7 v9 v10 v11 v13 G, k105 v0 v3 v5 v6 v7 v9 v10 v11 v13 G → V X D 14 (ZM X D (QMl D Q) 0 0) G 0 0 105 [(0, .ref v0), (3, .long v3), (5, .int v5), (6, .int v6), (7, .int v7), (9, .int v9), (10, .int v10), (11, .long v11), (13, .int v13)] []) {v0 : Nat} {v3 : Int64} {v5 : Int32} {v6 : Int32} {v7 : Int32} {v9 : Int32} {v10 : Int32} {v11 : Int64} {v13 : Int32} {G : Wd} (hw : wpX11_cureOf_164 Q k27 k105 v0 v3 v5 v6 v7 v9 v10 v11 v13 G) : V X D 14 (ZM X D (QMl D Q) 0 0) G 0 0 164 [(0, .ref v0), (3, .long v3), (5, .int v5), (6, .int v6), (7, .int v7), (9, .int v9), (10, .int v10), (11, .long v11), (13, .int v13)] [] := by
  unfold wpX11_cureOf_164 at hw
  refine v_iincN (c := 1) F dX11_cureOf_164 8 rfl (by decide) (by decide) (fun x2 hx2 => ?_)
  refine v_cast (L' := [(13, .int x2), (0, .ref v0), (3, .long v3), (5, .int v5), (6, .int v6), (7, .int v7), (9, .int v9), (10, .int v10), (11, .long v11)]) rfl rfl ?_
  have hw := hw x2 hx2
  refine v_goto (tgt := 105) F dX11_cureOf_167 (by decide) ?_
  exact v_loc [1, 2, 3, 4, 5, 6, 7, 8, 0] rfl (hk105 _ _ _ _ _ _ _ _ _ _ hw)
set_option maxRecDepth 100000 in
theorem sbX11_cureOf_105 {X : Cx} {D : Dx} (hR : X.2.2.2.1 = rmX11_cureOf) (F : Fx X D cX11_cureOf 14 RX11 (some .long) "cureOf") {Q : Int64 → Wd → Prop} {k27 : Nat → Int64 → Int32 → Int32 → Int32 → Wd → Prop} (hk27 : ∀ v0 v3 v5 v6 v7 G, k27 v0 v3 v5 v6 v7 G → V X D 14 (ZM X D (QMl D Q) 0 0) G 0 0 27 [(0, .ref v0), (3, .long v3), (5, .int v5), (6, .int v6), (7, .int v7)] []) : ∀ (n : Nat) (v0 : Nat) (v3 : Int64) (v5 : Int32) (v6 : Int32) (v7 : Int32) (v9 : Int32) (v10 : Int32) (v11 : Int64) (v13 : Int32) (G : Wd), wpX11_cureOf_105 Q k27 n v0 v3 v5 v6 v7 v9 v10 v11 v13 G → V X D 14 (ZM X D (QMl D Q) 0 0) G 0 0 105 [(0, .ref v0), (3, .long v3), (5, .int v5), (6, .int v6), (7, .int v7), (9, .int v9), (10, .int v10), (11, .long v11), (13, .int v13)] [] := by
  intro n
  induction n with
  | zero => intro v0 v3 v5 v6 v7 v9 v10 v11 v13 G hw; exact hw.elim
  | succ n ih =>
    intro v0 v3 v5 v6 v7 v9 v10 v11 v13 G hw
    simp only [wpX11_cureOf_105] at hw
    refine v_iload F dX11_cureOf_105 8 rfl ?_
    refine v_aload_n F dX11_cureOf_107 rfl 0 rfl ?_
    obtain ⟨kd3, hw⟩ := hw
    refine v_get F fl_X11_159 kd3 rfl dX11_cureOf_108 ?_
    refine v_icmp_ge (tgt := 170) F dX11_cureOf_111 (by decide) (fun h => ?_) (fun h => ?_)
    · rw [if_pos h] at hw
      refine v_lload_n F dX11_cureOf_170 rfl 1 rfl ?_
      refine v_ldc2 (v := (-9000000000000000005)) F wd_1168 dX11_cureOf_171 ?_
      refine v_lcmp F dX11_cureOf_174 ?_
      refine v_lif_eq (tgt := 213) F dX11_cureOf_175 (by decide) (fun h => ?_) (fun h => ?_)
      · rw [if_pos h] at hw
        exact v_loc [0, 4, 5, 6, 7] rfl (sbX11_cureOf_213 hR F hk27 hw)
      · rw [if_neg h] at hw
        refine v_iload F dX11_cureOf_178 5 rfl ?_
        refine v_iload F dX11_cureOf_180 2 rfl ?_
        refine v_icmp_lt (tgt := 213) F dX11_cureOf_182 (by decide) (fun h => ?_) (fun h => ?_)
        · rw [if_pos h] at hw
          exact v_loc [0, 4, 5, 6, 7] rfl (sbX11_cureOf_213 hR F hk27 hw)
        · rw [if_neg h] at hw
          refine v_iload F dX11_cureOf_185 5 rfl ?_
          refine v_iload F dX11_cureOf_187 2 rfl ?_
          refine v_icmp_ne (tgt := 224) F dX11_cureOf_189 (by decide) (fun h => ?_) (fun h => ?_)
          · rw [if_neg h] at hw
            exact v_loc [0, 1, 2, 3, 4] rfl (sbX11_cureOf_224 hR F hk27 hw)
          · rw [if_pos h] at hw
            refine v_iload F dX11_cureOf_192 6 rfl ?_
            refine v_iload F dX11_cureOf_194 3 rfl ?_
            refine v_icmp_lt (tgt := 213) F dX11_cureOf_196 (by decide) (fun h => ?_) (fun h => ?_)
            · rw [if_pos h] at hw
              exact v_loc [0, 4, 5, 6, 7] rfl (sbX11_cureOf_213 hR F hk27 hw)
            · rw [if_neg h] at hw
              refine v_iload F dX11_cureOf_199 6 rfl ?_
              refine v_iload F dX11_cureOf_201 3 rfl ?_
              refine v_icmp_ne (tgt := 224) F dX11_cureOf_203 (by decide) (fun h => ?_) (fun h => ?_)
              · rw [if_neg h] at hw
                exact v_loc [0, 1, 2, 3, 4] rfl (sbX11_cureOf_224 hR F hk27 hw)
              · rw [if_pos h] at hw
                refine v_lload F dX11_cureOf_206 7 rfl ?_
                refine v_lload_n F dX11_cureOf_208 rfl 1 rfl ?_
                refine v_lcmp F dX11_cureOf_209 ?_
                refine v_lif_ge (tgt := 224) F dX11_cureOf_210 (by decide) (fun h => ?_) (fun h => ?_)
                · rw [if_neg h] at hw
                  exact v_loc [0, 1, 2, 3, 4] rfl (sbX11_cureOf_224 hR F hk27 hw)
                · rw [if_pos h] at hw
                  exact v_loc [0, 4, 5, 6, 7] rfl (sbX11_cureOf_213 hR F hk27 hw)
    · rw [if_neg h] at hw
      refine v_aload_n F dX11_cureOf_114 rfl 0 rfl ?_
      obtain ⟨b4, hr5, hw⟩ := hw
      refine v_getS F fl_X11_84 (fun _ => rfl) kd3 hr5 dX11_cureOf_115 ?_
      refine v_iload F dX11_cureOf_118 8 rfl ?_
      obtain ⟨kd6, hw⟩ := hw
      obtain ⟨hi7, hw⟩ := hw
      refine v_ialdE F rfl kd6 hi7 dX11_cureOf_120 ?_
      refine v_if_lt (tgt := 164) F dX11_cureOf_121 (by decide) (fun h => ?_) (fun h => ?_)
      · rw [if_pos h] at hw
        exact v_loc [0, 1, 2, 3, 4, 5, 6, 7, 8] rfl (sbX11_cureOf_164 hR F hk27 ih hw)
      · rw [if_neg h] at hw
        refine v_iload F dX11_cureOf_124 4 rfl ?_
        refine v_aload_n F dX11_cureOf_126 rfl 0 rfl ?_
        obtain ⟨b8, hr9, hw⟩ := hw
        refine v_getS F fl_X11_84 (fun _ => rfl) kd3 hr9 dX11_cureOf_127 ?_
        refine v_iload F dX11_cureOf_130 8 rfl ?_
        obtain ⟨kd10, hw⟩ := hw
        obtain ⟨hi11, hw⟩ := hw
        refine v_ialdE F rfl kd10 hi11 dX11_cureOf_132 ?_
        refine v_ishr F dX11_cureOf_133 ?_
        refine v_iconst (v := 1) F dX11_cureOf_134 (by decide) ?_
        refine v_iand F dX11_cureOf_135 ?_
        refine v_iconst (v := 1) F dX11_cureOf_136 (by decide) ?_
        refine v_icmp_ne (tgt := 164) F dX11_cureOf_137 (by decide) (fun h => ?_) (fun h => ?_)
        · rw [if_neg h] at hw
          exact v_loc [0, 1, 2, 3, 4, 5, 6, 7, 8] rfl (sbX11_cureOf_164 hR F hk27 ih hw)
        · rw [if_pos h] at hw
          refine v_iload F dX11_cureOf_140 5 rfl ?_
          refine v_aload_n F dX11_cureOf_142 rfl 0 rfl ?_
          obtain ⟨b12, hr13, hw⟩ := hw
          refine v_getS F fl_X11_37 (fun _ => rfl) kd3 hr13 dX11_cureOf_143 ?_
          refine v_iload F dX11_cureOf_146 8 rfl ?_
          obtain ⟨kd14, hw⟩ := hw
          obtain ⟨hi15, hw⟩ := hw
          refine v_ialdE F rfl kd14 hi15 dX11_cureOf_148 ?_
          refine v_iadd F dX11_cureOf_149 ?_
          refine v_topi (fun x16 hx16 => ?_)
          have hw := hw x16 hx16
          refine v_istore (L' := [(9, .int x16), (0, .ref v0), (3, .long v3), (5, .int v5), (6, .int v6), (7, .int v7), (10, .int v10), (11, .long v11), (13, .int v13)]) F dX11_cureOf_150 (by decide) rfl ?_
          refine v_iincN (c := 1) F dX11_cureOf_152 6 rfl (by decide) (by decide) (fun x17 hx17 => ?_)
          refine v_cast (L' := [(10, .int x17), (9, .int x16), (0, .ref v0), (3, .long v3), (5, .int v5), (6, .int v6), (7, .int v7), (11, .long v11), (13, .int v13)]) rfl rfl ?_
          have hw := hw x17 hx17
          refine v_lload F dX11_cureOf_155 7 rfl ?_
          refine v_lconst (v := 1) F dX11_cureOf_157 rfl ?_
          refine v_iload F dX11_cureOf_158 8 rfl ?_
          refine v_lshl F dX11_cureOf_160 ?_
          refine v_lor F dX11_cureOf_161 ?_
          refine v_topl (fun x18 hx18 => ?_)
          have hw := hw x18 hx18
          refine v_lstore (L' := [(11, .long x18), (10, .int x17), (9, .int x16), (0, .ref v0), (3, .long v3), (5, .int v5), (6, .int v6), (7, .int v7), (13, .int v13)]) F dX11_cureOf_162 (by decide) rfl ?_
          exact v_loc [3, 4, 5, 6, 7, 2, 1, 0, 8] rfl (sbX11_cureOf_164 hR F hk27 ih hw)
set_option maxRecDepth 100000 in
theorem sbX11_cureOf_88 {X : Cx} {D : Dx} (hR : X.2.2.2.1 = rmX11_cureOf) (F : Fx X D cX11_cureOf 14 RX11 (some .long) "cureOf") {Q : Int64 → Wd → Prop} {k27 : Nat → Int64 → Int32 → Int32 → Int32 → Wd → Prop} (hk27 : ∀ v0 v3 v5 v6 v7 G, k27 v0 v3 v5 v6 v7 G → V X D 14 (ZM X D (QMl D Q) 0 0) G 0 0 27 [(0, .ref v0), (3, .long v3), (5, .int v5), (6, .int v6), (7, .int v7)] []) {v0 : Nat} {v3 : Int64} {v5 : Int32} {v6 : Int32} {v7 : Int32} {v8 : Int32} {G : Wd} (hw : wpX11_cureOf_88 Q k27 v0 v3 v5 v6 v7 v8 G) : V X D 14 (ZM X D (QMl D Q) 0 0) G 0 0 88 [(0, .ref v0), (3, .long v3), (5, .int v5), (6, .int v6), (7, .int v7), (8, .int v8)] [] := by
  unfold wpX11_cureOf_88 at hw
  refine v_iload F dX11_cureOf_88 5 rfl ?_
  refine v_if_eq (tgt := 224) F dX11_cureOf_90 (by decide) (fun h => ?_) (fun h => ?_)
  · rw [if_pos h] at hw
    exact v_loc [0, 1, 2, 3, 4] rfl (sbX11_cureOf_224 hR F hk27 hw)
  · rw [if_neg h] at hw
    refine v_iconst (v := 0) F dX11_cureOf_93 (by decide) ?_
    refine v_istore (L' := [(9, .int 0), (0, .ref v0), (3, .long v3), (5, .int v5), (6, .int v6), (7, .int v7), (8, .int v8)]) F dX11_cureOf_94 (by decide) rfl ?_
    refine v_iconst (v := 0) F dX11_cureOf_96 (by decide) ?_
    refine v_istore (L' := [(10, .int 0), (9, .int 0), (0, .ref v0), (3, .long v3), (5, .int v5), (6, .int v6), (7, .int v7), (8, .int v8)]) F dX11_cureOf_97 (by decide) rfl ?_
    refine v_lconst (v := 0) F dX11_cureOf_99 rfl ?_
    refine v_lstore (L' := [(11, .long 0), (10, .int 0), (9, .int 0), (0, .ref v0), (3, .long v3), (5, .int v5), (6, .int v6), (7, .int v7), (8, .int v8)]) F dX11_cureOf_100 (by decide) rfl ?_
    refine v_iconst (v := 0) F dX11_cureOf_102 (by decide) ?_
    refine v_istore (L' := [(13, .int 0), (11, .long 0), (10, .int 0), (9, .int 0), (0, .ref v0), (3, .long v3), (5, .int v5), (6, .int v6), (7, .int v7), (8, .int v8)]) F dX11_cureOf_103 (by decide) rfl ?_
    obtain ⟨m, hw⟩ := hw
    exact v_loc [4, 5, 6, 7, 8, 3, 2, 1, 0] rfl (sbX11_cureOf_105 hR F hk27 m _ _ _ _ _ _ _ _ _ _ hw)
set_option maxRecDepth 100000 in
theorem sbX11_cureOf_80 {X : Cx} {D : Dx} (hR : X.2.2.2.1 = rmX11_cureOf) (F : Fx X D cX11_cureOf 14 RX11 (some .long) "cureOf") {Q : Int64 → Wd → Prop} {k27 : Nat → Int64 → Int32 → Int32 → Int32 → Wd → Prop} {k44 : Nat → Int64 → Int32 → Int32 → Int32 → Int32 → Int32 → Wd → Prop} (hk27 : ∀ v0 v3 v5 v6 v7 G, k27 v0 v3 v5 v6 v7 G → V X D 14 (ZM X D (QMl D Q) 0 0) G 0 0 27 [(0, .ref v0), (3, .long v3), (5, .int v5), (6, .int v6), (7, .int v7)] []) (hk44 : ∀ v0 v3 v5 v6 v7 v8 v9 G, k44 v0 v3 v5 v6 v7 v8 v9 G → V X D 14 (ZM X D (QMl D Q) 0 0) G 0 0 44 [(0, .ref v0), (3, .long v3), (5, .int v5), (6, .int v6), (7, .int v7), (8, .int v8), (9, .int v9)] []) {v0 : Nat} {v3 : Int64} {v5 : Int32} {v6 : Int32} {v7 : Int32} {v9 : Int32} {s0 : Int32} {G : Wd} (hw : wpX11_cureOf_80 Q k27 k44 v0 v3 v5 v6 v7 v9 s0 G) : V X D 14 (ZM X D (QMl D Q) 0 0) G 0 0 80 [(0, .ref v0), (3, .long v3), (5, .int v5), (6, .int v6), (7, .int v7), (9, .int v9)] [.int s0] := by
  unfold wpX11_cureOf_80 at hw
  refine v_istore (L' := [(8, .int s0), (0, .ref v0), (3, .long v3), (5, .int v5), (6, .int v6), (7, .int v7), (9, .int v9)]) F dX11_cureOf_80 (by decide) rfl ?_
  refine v_iincN (c := 1) F dX11_cureOf_82 6 rfl (by decide) (by decide) (fun x19 hx19 => ?_)
  refine v_cast (L' := [(9, .int x19), (8, .int s0), (0, .ref v0), (3, .long v3), (5, .int v5), (6, .int v6), (7, .int v7)]) rfl rfl ?_
  have hw := hw x19 hx19
  refine v_goto (tgt := 44) F dX11_cureOf_85 (by decide) ?_
  exact v_loc [2, 3, 4, 5, 6, 1, 0] rfl (hk44 _ _ _ _ _ _ _ _ hw)
set_option maxRecDepth 100000 in
theorem sbX11_cureOf_75 {X : Cx} {D : Dx} (hR : X.2.2.2.1 = rmX11_cureOf) (F : Fx X D cX11_cureOf 14 RX11 (some .long) "cureOf") {Q : Int64 → Wd → Prop} {k27 : Nat → Int64 → Int32 → Int32 → Int32 → Wd → Prop} {k44 : Nat → Int64 → Int32 → Int32 → Int32 → Int32 → Int32 → Wd → Prop} (hk27 : ∀ v0 v3 v5 v6 v7 G, k27 v0 v3 v5 v6 v7 G → V X D 14 (ZM X D (QMl D Q) 0 0) G 0 0 27 [(0, .ref v0), (3, .long v3), (5, .int v5), (6, .int v6), (7, .int v7)] []) (hk44 : ∀ v0 v3 v5 v6 v7 v8 v9 G, k44 v0 v3 v5 v6 v7 v8 v9 G → V X D 14 (ZM X D (QMl D Q) 0 0) G 0 0 44 [(0, .ref v0), (3, .long v3), (5, .int v5), (6, .int v6), (7, .int v7), (8, .int v8), (9, .int v9)] []) {v0 : Nat} {v3 : Int64} {v5 : Int32} {v6 : Int32} {v7 : Int32} {v9 : Int32} {G : Wd} (hw : wpX11_cureOf_75 Q k27 k44 v0 v3 v5 v6 v7 v9 G) : V X D 14 (ZM X D (QMl D Q) 0 0) G 0 0 75 [(0, .ref v0), (3, .long v3), (5, .int v5), (6, .int v6), (7, .int v7), (9, .int v9)] [] := by
  unfold wpX11_cureOf_75 at hw
  refine v_iconst (v := 1) F dX11_cureOf_75 (by decide) ?_
  refine v_goto (tgt := 80) F dX11_cureOf_76 (by decide) ?_
  exact v_loc [0, 1, 2, 3, 4, 5] rfl (sbX11_cureOf_80 hR F hk27 hk44 hw)
set_option maxRecDepth 100000 in
theorem sbX11_cureOf_44 {X : Cx} {D : Dx} (hR : X.2.2.2.1 = rmX11_cureOf) (F : Fx X D cX11_cureOf 14 RX11 (some .long) "cureOf") {Q : Int64 → Wd → Prop} {k27 : Nat → Int64 → Int32 → Int32 → Int32 → Wd → Prop} (hk27 : ∀ v0 v3 v5 v6 v7 G, k27 v0 v3 v5 v6 v7 G → V X D 14 (ZM X D (QMl D Q) 0 0) G 0 0 27 [(0, .ref v0), (3, .long v3), (5, .int v5), (6, .int v6), (7, .int v7)] []) : ∀ (n : Nat) (v0 : Nat) (v3 : Int64) (v5 : Int32) (v6 : Int32) (v7 : Int32) (v8 : Int32) (v9 : Int32) (G : Wd), wpX11_cureOf_44 Q k27 n v0 v3 v5 v6 v7 v8 v9 G → V X D 14 (ZM X D (QMl D Q) 0 0) G 0 0 44 [(0, .ref v0), (3, .long v3), (5, .int v5), (6, .int v6), (7, .int v7), (8, .int v8), (9, .int v9)] [] := by
  intro n
  induction n with
  | zero => intro v0 v3 v5 v6 v7 v8 v9 G hw; exact hw.elim
  | succ n ih =>
    intro v0 v3 v5 v6 v7 v8 v9 G hw
    simp only [wpX11_cureOf_44] at hw
    refine v_iload F dX11_cureOf_44 6 rfl ?_
    refine v_sipush (v := 1024) F dX11_cureOf_46 (by decide) ?_
    refine v_icmp_ge (tgt := 88) F dX11_cureOf_49 (by decide) (fun h => ?_) (fun h => ?_)
    · rw [if_pos h] at hw
      exact v_loc [0, 1, 2, 3, 4, 5] rfl (sbX11_cureOf_88 hR F hk27 hw)
    · rw [if_neg h] at hw
      refine v_iload F dX11_cureOf_52 5 rfl ?_
      refine v_if_eq (tgt := 88) F dX11_cureOf_54 (by decide) (fun h => ?_) (fun h => ?_)
      · rw [if_pos h] at hw
        exact v_loc [0, 1, 2, 3, 4, 5] rfl (sbX11_cureOf_88 hR F hk27 hw)
      · rw [if_neg h] at hw
        refine v_aload_n F dX11_cureOf_57 rfl 0 rfl ?_
        obtain ⟨kd20, hw⟩ := hw
        obtain ⟨b21, hr22, hw⟩ := hw
        refine v_getS F fl_X11_81 (fun _ => rfl) kd20 hr22 dX11_cureOf_58 ?_
        refine v_iload F dX11_cureOf_61 6 rfl ?_
        obtain ⟨kd23, hw⟩ := hw
        obtain ⟨hi24, hw⟩ := hw
        refine v_zaldE F rfl kd23 hi24 dX11_cureOf_63 ?_
        refine v_if_eq (tgt := 75) F dX11_cureOf_64 (by decide) (fun h => ?_) (fun h => ?_)
        · rw [if_pos h] at hw
          exact v_loc [0, 1, 2, 3, 4, 6] rfl (sbX11_cureOf_75 hR F hk27 ih hw)
        · rw [if_neg h] at hw
          refine v_iload F dX11_cureOf_67 6 rfl ?_
          refine v_iload F dX11_cureOf_69 4 rfl ?_
          refine v_iand F dX11_cureOf_71 ?_
          refine v_if_eq (tgt := 79) F dX11_cureOf_72 (by decide) (fun h => ?_) (fun h => ?_)
          · rw [if_pos h] at hw
            refine v_iconst (v := 0) F dX11_cureOf_79 (by decide) ?_
            exact v_loc [0, 1, 2, 3, 4, 6] rfl (sbX11_cureOf_80 hR F hk27 ih hw)
          · rw [if_neg h] at hw
            exact v_loc [0, 1, 2, 3, 4, 6] rfl (sbX11_cureOf_75 hR F hk27 ih hw)
set_option maxRecDepth 100000 in
theorem sbX11_cureOf_27 {X : Cx} {D : Dx} (hR : X.2.2.2.1 = rmX11_cureOf) (F : Fx X D cX11_cureOf 14 RX11 (some .long) "cureOf") {Q : Int64 → Wd → Prop} : ∀ (n : Nat) (v0 : Nat) (v3 : Int64) (v5 : Int32) (v6 : Int32) (v7 : Int32) (G : Wd), wpX11_cureOf_27 Q  n v0 v3 v5 v6 v7 G → V X D 14 (ZM X D (QMl D Q) 0 0) G 0 0 27 [(0, .ref v0), (3, .long v3), (5, .int v5), (6, .int v6), (7, .int v7)] [] := by
  intro n
  induction n with
  | zero => intro v0 v3 v5 v6 v7 G hw; exact hw.elim
  | succ n ih =>
    intro v0 v3 v5 v6 v7 G hw
    simp only [wpX11_cureOf_27] at hw
    refine v_iload F dX11_cureOf_27 4 rfl ?_
    refine v_iconst (v := 1) F dX11_cureOf_29 (by decide) ?_
    refine v_aload_n F dX11_cureOf_30 rfl 0 rfl ?_
    obtain ⟨kd25, hw⟩ := hw
    refine v_get F fl_X11_301 kd25 rfl dX11_cureOf_31 ?_
    refine v_ishl F dX11_cureOf_34 ?_
    refine v_icmp_ge (tgt := 230) F dX11_cureOf_35 (by decide) (fun h => ?_) (fun h => ?_)
    · rw [if_pos h] at hw
      refine v_lload_n F dX11_cureOf_230 rfl 1 rfl ?_
      exact v_lret F hw dX11_cureOf_231
    · rw [if_neg h] at hw
      refine v_iconst (v := 1) F dX11_cureOf_38 (by decide) ?_
      refine v_istore (L' := [(8, .int 1), (0, .ref v0), (3, .long v3), (5, .int v5), (6, .int v6), (7, .int v7)]) F dX11_cureOf_39 (by decide) rfl ?_
      refine v_iconst (v := 0) F dX11_cureOf_41 (by decide) ?_
      refine v_istore (L' := [(9, .int 0), (8, .int 1), (0, .ref v0), (3, .long v3), (5, .int v5), (6, .int v6), (7, .int v7)]) F dX11_cureOf_42 (by decide) rfl ?_
      obtain ⟨m, hw⟩ := hw
      exact v_loc [2, 3, 4, 5, 6, 1, 0] rfl (sbX11_cureOf_44 hR F ih m _ _ _ _ _ _ _ _ hw)
set_option maxRecDepth 100000 in
theorem sX11_cureOf {l : Launch} {D : Dx} {a0 : Nat} {p1 : Int32} {p2 : Int32} {G : Wd} {Q : Int64 → Wd → Prop} (hw : wpX11_cureOf a0 p1 p2 G Q) : Met l yX11_cureOf (wM yX11_cureOf cX11_cureOf 14 (some .long)) rmX11_cureOf (PM D [.ref a0, .int p1, .int p2] G) (QMl D Q) 0 0 (Ab D) := by
  refine v_met (by decide) (Nat.le_of_ble_eq_true rfl) (fun X hl hR F => ?_)
  subst hl
  have F : Fx X D cX11_cureOf 14 RX11 (some .long) "cureOf" := F
  refine v_cast (L' := [(0, .ref a0), (1, .int p1), (2, .int p2)]) rfl rfl ?_
  unfold wpX11_cureOf at hw
  refine v_aload_n F dX11_cureOf_0 rfl 0 rfl ?_
  refine v_iload_n F dX11_cureOf_1 rfl 1 rfl ?_
  refine v_iload_n F dX11_cureOf_2 rfl 2 rfl ?_
  refine v_iconst (v := 1) F dX11_cureOf_3 (by decide) ?_
  obtain ⟨kd26, hw⟩ := hw
  refine v_calli (r_V F lk_X11_308 kd26 (sX11_findRings hw) (mkRm hR rfl rfl rfl rfl rfl rfl) rfl rfl (Nat.le_of_ble_eq_true rfl) dX11_cureOf_4) (fun r27 G28 hw => ?_)
  refine v_if_ne (tgt := 14) F dX11_cureOf_7 (by decide) (fun h => ?_) (fun h => ?_)
  · rw [if_neg h] at hw
    refine v_ldc2 (v := (-9000000000000000005)) F wd_1168 dX11_cureOf_14 ?_
    refine v_lstore_n (L' := [(3, .long (-9000000000000000005)), (0, .ref a0), (1, .int p1), (2, .int p2)]) F dX11_cureOf_17 rfl (by decide) rfl ?_
    refine v_iconst (v := 0) F dX11_cureOf_18 (by decide) ?_
    refine v_istore (L' := [(5, .int 0), (3, .long (-9000000000000000005)), (0, .ref a0), (1, .int p1), (2, .int p2)]) F dX11_cureOf_19 (by decide) rfl ?_
    refine v_iconst (v := 0) F dX11_cureOf_21 (by decide) ?_
    refine v_istore (L' := [(6, .int 0), (5, .int 0), (3, .long (-9000000000000000005)), (0, .ref a0), (1, .int p1), (2, .int p2)]) F dX11_cureOf_22 (by decide) rfl ?_
    refine v_iconst (v := 0) F dX11_cureOf_24 (by decide) ?_
    refine v_istore (L' := [(7, .int 0), (6, .int 0), (5, .int 0), (3, .long (-9000000000000000005)), (0, .ref a0), (1, .int p1), (2, .int p2)]) F dX11_cureOf_25 (by decide) rfl ?_
    obtain ⟨m, hw⟩ := hw
    exact v_loc [4, 3, 2, 1, 0] rfl (sbX11_cureOf_27 hR F  m _ _ _ _ _ _ hw)
  · rw [if_pos h] at hw
    refine v_ldc2 (v := (-9000000000000000004)) F wd_1180 dX11_cureOf_10 ?_
    refine v_widen (c' := 0) (s' := 0) (by decide) (by decide) ?_
    exact v_lret F hw dX11_cureOf_13
set_option maxRecDepth 100000 in
theorem sX11_cure {l : Launch} {D : Dx} {a0 : Nat} {p1 : Int32} {G : Wd} {Q : Int64 → Wd → Prop} (hw : wpX11_cure a0 p1 G Q) : Met l yX11_cure (wM yX11_cure cX11_cure 2 (some .long)) rmX11_cure (PM D [.ref a0, .int p1] G) (QMl D Q) 0 0 (Ab D) := by
  refine v_met (by decide) (Nat.le_of_ble_eq_true rfl) (fun X hl hR F => ?_)
  subst hl
  have F : Fx X D cX11_cure 2 RX11 (some .long) "cure" := F
  refine v_cast (L' := [(0, .ref a0), (1, .int p1)]) rfl rfl ?_
  unfold wpX11_cure at hw
  refine v_iload_n F dX11_cure_0 rfl 1 rfl ?_
  refine v_calli (r_S F ls_X11_260 (sX11_isTime hw) (mkRm hR rfl rfl rfl rfl rfl rfl) rfl rfl (Nat.le_of_ble_eq_true rfl) dX11_cure_1) (fun r1 G2 hw => ?_)
  refine v_if_eq (tgt := 24) F dX11_cure_4 (by decide) (fun h => ?_) (fun h => ?_)
  · rw [if_pos h] at hw
    refine v_ldc2 (v := (-9000000000000000001)) F wd_1021 dX11_cure_24 ?_
    refine v_widen (c' := 0) (s' := 0) (by decide) (by decide) ?_
    exact v_lret F hw dX11_cure_27
  · rw [if_neg h] at hw
    refine v_aload_n F dX11_cure_7 rfl 0 rfl ?_
    refine v_iload_n F dX11_cure_8 rfl 1 rfl ?_
    refine v_sipush (v := 10000) F dX11_cure_9 (by decide) ?_
    refine v_idiv F dX11_cure_12 (by decide) ?_
    refine v_iload_n F dX11_cure_13 rfl 1 rfl ?_
    refine v_sipush (v := 10000) F dX11_cure_14 (by decide) ?_
    refine v_iremE F dX11_cure_17 (by decide) ?_
    obtain ⟨kd3, hw⟩ := hw
    refine v_calll (r_V F lk_X11_312 kd3 (sX11_cureOf hw) (mkRm hR rfl rfl rfl rfl rfl rfl) rfl rfl (Nat.le_of_ble_eq_true rfl) dX11_cure_18) (fun r4 G5 hw => ?_)
    refine v_goto (tgt := 27) F dX11_cure_21 (by decide) ?_
    refine v_widen (c' := 0) (s' := 0) (by decide) (by decide) ?_
    exact v_lret F hw dX11_cure_27
set_option maxRecDepth 100000 in
theorem sbX11_heal_74 {X : Cx} {D : Dx} (hR : X.2.2.2.1 = rmX11_heal) (F : Fx X D cX11_heal 7 RX11 (some .long) "heal") {Q : Int64 → Wd → Prop} {k40 : Nat → Int64 → Int64 → Int32 → Wd → Prop} (hk40 : ∀ v0 v2 v4 v6 G, k40 v0 v2 v4 v6 G → V X D 7 (ZM X D (QMl D Q) 0 0) G 0 0 40 [(0, .ref v0), (2, .long v2), (4, .long v4), (6, .int v6)] []) {v0 : Nat} {v2 : Int64} {v4 : Int64} {v6 : Int32} {G : Wd} (hw : wpX11_heal_74 Q k40 v0 v2 v4 v6 G) : V X D 7 (ZM X D (QMl D Q) 0 0) G 0 0 74 [(0, .ref v0), (2, .long v2), (4, .long v4), (6, .int v6)] [] := by
  unfold wpX11_heal_74 at hw
  refine v_iincN (c := 1) F dX11_heal_74 3 rfl (by decide) (by decide) (fun x1 hx1 => ?_)
  refine v_cast (L' := [(6, .int x1), (0, .ref v0), (2, .long v2), (4, .long v4)]) rfl rfl ?_
  have hw := hw x1 hx1
  refine v_goto (tgt := 40) F dX11_heal_77 (by decide) ?_
  exact v_loc [1, 2, 3, 0] rfl (hk40 _ _ _ _ _ hw)
set_option maxRecDepth 100000 in
theorem sbX11_heal_40 {X : Cx} {D : Dx} (hR : X.2.2.2.1 = rmX11_heal) (F : Fx X D cX11_heal 7 RX11 (some .long) "heal") {Q : Int64 → Wd → Prop} : ∀ (n : Nat) (v0 : Nat) (v2 : Int64) (v4 : Int64) (v6 : Int32) (G : Wd), wpX11_heal_40 Q  n v0 v2 v4 v6 G → V X D 7 (ZM X D (QMl D Q) 0 0) G 0 0 40 [(0, .ref v0), (2, .long v2), (4, .long v4), (6, .int v6)] [] := by
  intro n
  induction n with
  | zero => intro v0 v2 v4 v6 G hw; exact hw.elim
  | succ n ih =>
    intro v0 v2 v4 v6 G hw
    simp only [wpX11_heal_40] at hw
    refine v_iload F dX11_heal_40 3 rfl ?_
    refine v_aload_n F dX11_heal_42 rfl 0 rfl ?_
    obtain ⟨kd2, hw⟩ := hw
    refine v_get F fl_X11_159 kd2 rfl dX11_heal_43 ?_
    refine v_icmp_ge (tgt := 80) F dX11_heal_46 (by decide) (fun h => ?_) (fun h => ?_)
    · rw [if_pos h] at hw
      refine v_lload F dX11_heal_80 2 rfl ?_
      exact v_lret F hw dX11_heal_82
    · rw [if_neg h] at hw
      refine v_lload_n F dX11_heal_49 rfl 1 rfl ?_
      refine v_iload F dX11_heal_50 3 rfl ?_
      refine v_lshr F dX11_heal_52 ?_
      refine v_lconst (v := 1) F dX11_heal_53 rfl ?_
      refine v_land F dX11_heal_54 ?_
      refine v_lconst (v := 1) F dX11_heal_55 rfl ?_
      refine v_lcmp F dX11_heal_56 ?_
      refine v_lif_ne (tgt := 74) F dX11_heal_57 (by decide) (fun h => ?_) (fun h => ?_)
      · rw [if_neg h] at hw
        exact v_loc [0, 1, 2, 3] rfl (sbX11_heal_74 hR F ih hw)
      · rw [if_pos h] at hw
        refine v_aload_n F dX11_heal_60 rfl 0 rfl ?_
        obtain ⟨b3, hr4, hw⟩ := hw
        refine v_getS F fl_X11_43 (fun _ => rfl) kd2 hr4 dX11_heal_61 ?_
        refine v_iload F dX11_heal_64 3 rfl ?_
        refine v_iconst (v := 1) F dX11_heal_66 (by decide) ?_
        obtain ⟨kd5, hw⟩ := hw
        obtain ⟨hi6, hw⟩ := hw
        refine v_zastE F rfl (Or.inr rfl) kd5 hi6 dX11_heal_67 (fun G7 hG7 => ?_)
        have hw := hw G7 hG7
        refine v_lload F dX11_heal_68 2 rfl ?_
        refine v_lconst (v := 1) F dX11_heal_70 rfl ?_
        refine v_ladd F dX11_heal_71 ?_
        refine v_topl (fun x8 hx8 => ?_)
        have hw := hw x8 hx8
        refine v_lstore (L' := [(4, .long x8), (0, .ref v0), (2, .long v2), (6, .int v6)]) F dX11_heal_72 (by decide) rfl ?_
        exact v_loc [1, 2, 0, 3] rfl (sbX11_heal_74 hR F ih hw)
set_option maxRecDepth 100000 in
theorem sX11_heal {l : Launch} {D : Dx} {a0 : Nat} {p1 : Int32} {G : Wd} {Q : Int64 → Wd → Prop} (hw : wpX11_heal a0 p1 G Q) : Met l yX11_heal (wM yX11_heal cX11_heal 7 (some .long)) rmX11_heal (PM D [.ref a0, .int p1] G) (QMl D Q) 0 0 (Ab D) := by
  refine v_met (by decide) (Nat.le_of_ble_eq_true rfl) (fun X hl hR F => ?_)
  subst hl
  have F : Fx X D cX11_heal 7 RX11 (some .long) "heal" := F
  refine v_cast (L' := [(0, .ref a0), (1, .int p1)]) rfl rfl ?_
  unfold wpX11_heal at hw
  refine v_iload_n F dX11_heal_0 rfl 1 rfl ?_
  refine v_calli (r_S F ls_X11_260 (sX11_isTime hw) (mkRm hR rfl rfl rfl rfl rfl rfl) rfl rfl (Nat.le_of_ble_eq_true rfl) dX11_heal_1) (fun r9 G10 hw => ?_)
  refine v_if_ne (tgt := 11) F dX11_heal_4 (by decide) (fun h => ?_) (fun h => ?_)
  · rw [if_neg h] at hw
    refine v_aload_n F dX11_heal_11 rfl 0 rfl ?_
    refine v_iload_n F dX11_heal_12 rfl 1 rfl ?_
    refine v_sipush (v := 10000) F dX11_heal_13 (by decide) ?_
    refine v_idiv F dX11_heal_16 (by decide) ?_
    refine v_iload_n F dX11_heal_17 rfl 1 rfl ?_
    refine v_sipush (v := 10000) F dX11_heal_18 (by decide) ?_
    refine v_iremE F dX11_heal_21 (by decide) ?_
    obtain ⟨kd11, hw⟩ := hw
    refine v_calll (r_V F lk_X11_312 kd11 (sX11_cureOf hw) (mkRm hR rfl rfl rfl rfl rfl rfl) rfl rfl (Nat.le_of_ble_eq_true rfl) dX11_heal_22) (fun r12 G13 hw => ?_)
    refine v_lstore_n (L' := [(2, .long r12), (0, .ref a0), (1, .int p1)]) F dX11_heal_25 rfl (by decide) rfl ?_
    refine v_lload_n F dX11_heal_26 rfl 0 rfl ?_
    refine v_lconst (v := 0) F dX11_heal_27 rfl ?_
    refine v_lcmp F dX11_heal_28 ?_
    refine v_lif_ge (tgt := 34) F dX11_heal_29 (by decide) (fun h => ?_) (fun h => ?_)
    · rw [if_neg h] at hw
      refine v_lconst (v := 0) F dX11_heal_34 rfl ?_
      refine v_lstore (L' := [(4, .long 0), (2, .long r12), (0, .ref a0), (1, .int p1)]) F dX11_heal_35 (by decide) rfl ?_
      refine v_iconst (v := 0) F dX11_heal_37 (by decide) ?_
      refine v_istore (L' := [(6, .int 0), (4, .long 0), (2, .long r12), (0, .ref a0), (1, .int p1)]) F dX11_heal_38 (by decide) rfl ?_
      obtain ⟨m, hw⟩ := hw
      exact v_loc [3, 2, 1, 0] rfl (sbX11_heal_40 hR F  m _ _ _ _ _ hw)
    · rw [if_pos h] at hw
      refine v_lload_n F dX11_heal_32 rfl 0 rfl ?_
      refine v_widen (c' := 0) (s' := 0) (by decide) (by decide) ?_
      exact v_lret F hw dX11_heal_33
  · rw [if_pos h] at hw
    refine v_ldc2 (v := (-9000000000000000001)) F wd_1021 dX11_heal_7 ?_
    refine v_widen (c' := 0) (s' := 0) (by decide) (by decide) ?_
    exact v_lret F hw dX11_heal_10
set_option maxRecDepth 100000 in
theorem sX11_isCustom {l : Launch} {D : Dx} {p0 : Int32} {G : Wd} {Q : Int32 → Wd → Prop} (hw : wpX11_isCustom p0 G Q) : Met l yX11_isCustom (wM yX11_isCustom cX11_isCustom 1 (some .boolean)) rmX11_isCustom (PM D [.int p0] G) (QMi D Q) 0 0 (Ab D) := by
  refine v_met (by decide) (Nat.le_of_ble_eq_true rfl) (fun X hl hR F => ?_)
  subst hl
  have F : Fx X D cX11_isCustom 1 RX11 (some .boolean) "isCustom" := F
  refine v_cast (L' := [(0, .int p0)]) rfl rfl ?_
  unfold wpX11_isCustom at hw
  refine v_iload_n F dX11_isCustom_0 rfl 0 rfl ?_
  refine v_i2l F dX11_isCustom_1 ?_
  refine v_lconst (v := 0) F dX11_isCustom_2 rfl ?_
  refine v_ldc2 (v := 3) F wd_1236 dX11_isCustom_3 ?_
  refine v_calli (r_S F ls_X11_145 (sX11_isIn hw) (mkRm hR rfl rfl rfl rfl rfl rfl) rfl rfl (Nat.le_of_ble_eq_true rfl) dX11_isCustom_6) (fun r1 G2 hw => ?_)
  refine v_widen (c' := 0) (s' := 0) (by decide) (by decide) ?_
  exact v_zret F hw.1 hw.2 dX11_isCustom_9
set_option maxRecDepth 100000 in
theorem sbX11_custom_33 {X : Cx} {D : Dx} (hR : X.2.2.2.1 = rmX11_custom) (F : Fx X D cX11_custom 4 RX11 (some .long) "custom") {Q : Int64 → Wd → Prop} : ∀ (n : Nat) (v0 : Nat) (v1 : Int32) (v2 : Int32) (v3 : Int32) (G : Wd), wpX11_custom_33 Q  n v0 v1 v2 v3 G → V X D 4 (ZM X D (QMl D Q) 0 0) G 0 0 33 [(0, .ref v0), (1, .int v1), (2, .int v2), (3, .int v3)] [] := by
  intro n
  induction n with
  | zero => intro v0 v1 v2 v3 G hw; exact hw.elim
  | succ n ih =>
    intro v0 v1 v2 v3 G hw
    simp only [wpX11_custom_33] at hw
    refine v_iload_n F dX11_custom_33 rfl 3 rfl ?_
    refine v_iconst (v := 5) F dX11_custom_34 (by decide) ?_
    refine v_icmp_ge (tgt := 55) F dX11_custom_35 (by decide) (fun h => ?_) (fun h => ?_)
    · rw [if_pos h] at hw
      refine v_iload_n F dX11_custom_55 rfl 2 rfl ?_
      refine v_i2l F dX11_custom_56 ?_
      exact v_lret F hw dX11_custom_57
    · rw [if_neg h] at hw
      refine v_aload_n F dX11_custom_38 rfl 0 rfl ?_
      obtain ⟨kd1, hw⟩ := hw
      obtain ⟨b2, hr3, hw⟩ := hw
      refine v_getS F fl_X11_50 (fun _ => rfl) kd1 hr3 dX11_custom_39 ?_
      refine v_iconst (v := 5) F dX11_custom_42 (by decide) ?_
      refine v_iload_n F dX11_custom_43 rfl 1 rfl ?_
      refine v_imul F dX11_custom_44 ?_
      refine v_iload_n F dX11_custom_45 rfl 3 rfl ?_
      refine v_iadd F dX11_custom_46 ?_
      refine v_iconst (v := 2) F dX11_custom_47 (by decide) ?_
      obtain ⟨kd4, hw⟩ := hw
      obtain ⟨hi5, hw⟩ := hw
      refine v_iastE F rfl kd4 hi5 dX11_custom_48 (fun G6 hG6 => ?_)
      have hw := hw G6 hG6
      refine v_iincN (c := 1) F dX11_custom_49 3 rfl (by decide) (by decide) (fun x7 hx7 => ?_)
      refine v_cast (L' := [(3, .int x7), (0, .ref v0), (1, .int v1), (2, .int v2)]) rfl rfl ?_
      have hw := hw x7 hx7
      refine v_goto (tgt := 33) F dX11_custom_52 (by decide) ?_
      exact v_loc [1, 2, 3, 0] rfl (ih _ _ _ _ _ hw)
set_option maxRecDepth 100000 in
theorem sX11_custom {l : Launch} {D : Dx} {a0 : Nat} {p1 : Int32} {p2 : Int32} {G : Wd} {Q : Int64 → Wd → Prop} (hw : wpX11_custom a0 p1 p2 G Q) : Met l yX11_custom (wM yX11_custom cX11_custom 4 (some .long)) rmX11_custom (PM D [.ref a0, .int p1, .int p2] G) (QMl D Q) 0 0 (Ab D) := by
  refine v_met (by decide) (Nat.le_of_ble_eq_true rfl) (fun X hl hR F => ?_)
  subst hl
  have F : Fx X D cX11_custom 4 RX11 (some .long) "custom" := F
  refine v_cast (L' := [(0, .ref a0), (1, .int p1), (2, .int p2)]) rfl rfl ?_
  unfold wpX11_custom at hw
  refine v_iload_n F dX11_custom_0 rfl 1 rfl ?_
  refine v_calli (r_S F ls_X11_317 (sX11_isCustom hw) (mkRm hR rfl rfl rfl rfl rfl rfl) rfl rfl (Nat.le_of_ble_eq_true rfl) dX11_custom_1) (fun r8 G9 hw => ?_)
  refine v_if_eq (tgt := 12) F dX11_custom_4 (by decide) (fun h => ?_) (fun h => ?_)
  · rw [if_pos h] at hw
    refine v_ldc2 (v := (-9000000000000000001)) F wd_1021 dX11_custom_12 ?_
    refine v_widen (c' := 0) (s' := 0) (by decide) (by decide) ?_
    exact v_lret F hw dX11_custom_15
  · rw [if_neg h] at hw
    refine v_iload_n F dX11_custom_7 rfl 2 rfl ?_
    refine v_iconst (v := 5) F dX11_custom_8 (by decide) ?_
    refine v_icmp_le (tgt := 16) F dX11_custom_9 (by decide) (fun h => ?_) (fun h => ?_)
    · rw [if_pos h] at hw
      refine v_iload_n F dX11_custom_16 rfl 2 rfl ?_
      refine v_if_ge (tgt := 24) F dX11_custom_17 (by decide) (fun h => ?_) (fun h => ?_)
      · rw [if_pos h] at hw
        refine v_aload_n F dX11_custom_24 rfl 0 rfl ?_
        obtain ⟨kd10, hw⟩ := hw
        obtain ⟨b11, hr12, hw⟩ := hw
        refine v_getS F fl_X11_47 (fun _ => rfl) kd10 hr12 dX11_custom_25 ?_
        refine v_iload_n F dX11_custom_28 rfl 1 rfl ?_
        refine v_iload_n F dX11_custom_29 rfl 2 rfl ?_
        obtain ⟨kd13, hw⟩ := hw
        obtain ⟨hi14, hw⟩ := hw
        refine v_iastE F rfl kd13 hi14 dX11_custom_30 (fun G15 hG15 => ?_)
        have hw := hw G15 hG15
        refine v_iconst (v := 0) F dX11_custom_31 (by decide) ?_
        refine v_istore_n (L' := [(3, .int 0), (0, .ref a0), (1, .int p1), (2, .int p2)]) F dX11_custom_32 rfl (by decide) rfl ?_
        obtain ⟨m, hw⟩ := hw
        exact v_loc [1, 2, 3, 0] rfl (sbX11_custom_33 hR F  m _ _ _ _ _ hw)
      · rw [if_neg h] at hw
        refine v_ldc2 (v := (-9000000000000000014)) F wd_1237 dX11_custom_20 ?_
        refine v_widen (c' := 0) (s' := 0) (by decide) (by decide) ?_
        exact v_lret F hw dX11_custom_23
    · rw [if_neg h] at hw
      refine v_ldc2 (v := (-9000000000000000001)) F wd_1021 dX11_custom_12 ?_
      refine v_widen (c' := 0) (s' := 0) (by decide) (by decide) ?_
      exact v_lret F hw dX11_custom_15
