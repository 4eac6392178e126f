set_option maxRecDepth 100000 in
def wpX4_init (a0 : Nat) (G : Wd) (Q : Wd → Prop) : Prop := wpX3_init a0 G (fun G2 => ∀ (z4 : Nat) (G3 : Wd), z4 = gZ G2 → G3 = nC G2 20 10 → gK G3 a0 = 4 ∧ ∀ G6 : Wd, G6 = uR G3 a0 0 (some z4) → ∀ (z8 : Nat) (G7 : Wd), z8 = gZ G6 → G7 = nC G6 25 10 → gK G7 a0 = 4 ∧ ∀ G10 : Wd, G10 = uR G7 a0 3 (some z8) → ∀ (z12 : Nat) (G11 : Wd), z12 = gZ G10 → G11 = nC G10 20 24 → gK G11 a0 = 4 ∧ ∀ G14 : Wd, G14 = uR G11 a0 5 (some z12) → ∀ (z16 : Nat) (G15 : Wd), z16 = gZ G14 → G15 = nC G14 22 1024 → gK G15 a0 = 4 ∧ ∀ G18 : Wd, G18 = uR G15 a0 6 (some z16) → Q G18)
abbrev rmX4_init : Room := { frames := 2, cells := 4, slots := 1068, locals := 40 }
set_option maxRecDepth 100000 in
def wpX4_begin (a0 : Nat) (G : Wd) (Q : Wd → Prop) : Prop := gK G a0 = 4 ∧ ∀ G2 : Wd, G2 = uI G a0 1 0 → ∀ G4 : Wd, G4 = uI G2 a0 2 0 → ∀ G6 : Wd, G6 = uI G4 a0 4 0 → ∃ b8, gR G6 a0 5 = some b8 ∧ wpJ7_fill_53178 b8 0 G6 (fun G11 => Q G11)
abbrev rmX4_begin : Room := { frames := 1, cells := 0, slots := 0, locals := 23 }
def wpX4_choose_83 (Q : Int32 → Wd → Prop) : Nat → Nat → Int32 → Wd → Prop
  | 0, _, _, _ => False
  | n + 1, v0, v2, G => gK G v0 = 4 ∧ if (1 <<< ((gI G v0 4) &&& 31)) ≤ v2 then (Q 1 G) else (∃ b2, gR G v0 6 = some b2 ∧ gK G b2 = 22 ∧ vp_in v2 (gN G b2) ∧ ∀ G6 : Wd, G6 = uI G b2 (v2).toNatClampNeg 0 → ∀ x7 : Int32, x7 = v2 + 1 → wpX4_choose_83 Q n v0 x7 G6)
def wpX4_choose_75 (Q : Int32 → Wd → Prop) (k2 : Nat → Nat → Int32 → Wd → Prop) (v0 : Nat) (v1 : Nat) (v2 : Int32) (G : Wd) : Prop := ∀ x8 : Int32, x8 = v2 + 1 → k2 v0 v1 x8 G
def wpX4_choose_2 (Q : Int32 → Wd → Prop) : Nat → Nat → Nat → Int32 → Wd → Prop
  | 0, _, _, _, _ => False
  | n + 1, v0, v1, v2, G => gK G v1 = 9 ∧ if (gI G v1 1) ≤ v2 then (∃ m, wpX4_choose_83 Q m v0 0 G) else (∃ b10, gR G v1 0 = some b10 ∧ gK G b10 = 25 ∧ vp_in v2 (gN G b10) ∧ ∃ b14, gR G b10 (v2).toNatClampNeg = some b14 ∧ gK G b14 = 5 ∧ wpX5_is b14 2 G (fun r17 G18 => if r17 = 0 then (wpX4_choose_75 Q (fun y0 y1 y2 y3 => wpX4_choose_2 Q n y0 y1 y2 y3) v0 v1 v2 G18) else (gK G18 v0 = 4 ∧ if (gI G18 v0 4) < 10 then (∃ b20, gR G18 v0 5 = some b20 ∧ gK G18 b14 = 5 ∧ gK G18 b20 = 20 ∧ vp_in (gI G18 b14 0) (gN G18 b20) ∧ ∀ G25 : Wd, G25 = uI G18 b20 (gI G18 b14 0).toNatClampNeg (1 <<< ((gI G18 v0 4) &&& 31)) → ∃ b27, gR G25 v0 3 = some b27 ∧ gK G25 b27 = 25 ∧ vp_in (gI G25 v0 4) (gN G25 b27) ∧ ∀ G31 : Wd, G31 = uR G25 b27 (gI G25 v0 4).toNatClampNeg (some b14) → ∀ G34 : Wd, G34 = uI G31 v0 4 ((gI G31 v0 4) + 1) → wpX4_choose_75 Q (fun y0 y1 y2 y3 => wpX4_choose_2 Q n y0 y1 y2 y3) v0 v1 v2 G34) else (Q 0 G18))))
set_option maxRecDepth 100000 in
def wpX4_choose (a0 : Nat) (a1 : Nat) (G : Wd) (Q : Int32 → Wd → Prop) : Prop := ∃ m, wpX4_choose_2 Q m a0 a1 0 G
abbrev rmX4_choose : Room := { frames := 1, cells := 0, slots := 0, locals := 21 }
set_option maxRecDepth 100000 in
def wpX9_low (a0 : Nat) (G : Wd) (Q : Option Nat → Wd → Prop) : Prop := gK G a0 = 9 ∧ ∃ b2, gR G a0 5 = some b2 ∧ gK G b2 = 24 ∧ vp_in (gI G a0 3) (gN G b2) ∧ ∃ b6, gR G b2 (gI G a0 3).toNatClampNeg = some b6 ∧ Q (some b6) G
abbrev rmX9_low : Room := { frames := 0, cells := 0, slots := 0, locals := 0 }
set_option maxRecDepth 100000 in
def wpX9_high (a0 : Nat) (G : Wd) (Q : Option Nat → Wd → Prop) : Prop := gK G a0 = 9 ∧ ∃ b2, gR G a0 6 = some b2 ∧ gK G b2 = 24 ∧ vp_in (gI G a0 3) (gN G b2) ∧ ∃ b6, gR G b2 (gI G a0 3).toNatClampNeg = some b6 ∧ Q (some b6) G
abbrev rmX9_high : Room := { frames := 0, cells := 0, slots := 0, locals := 0 }
set_option maxRecDepth 100000 in
def wpX9_numberAt (a0 : Nat) (p1 : Int32) (G : Wd) (Q : Int32 → Wd → Prop) : Prop := gK G a0 = 9 ∧ ∃ b2, gR G a0 2 = some b2 ∧ gK G b2 = 20 ∧ vp_in p1 (gN G b2) ∧ Q ((gI G b2 (p1).toNatClampNeg) % 100) G
abbrev rmX9_numberAt : Room := { frames := 0, cells := 0, slots := 0, locals := 0 }
def wpX4_choicesIn_4 (Q : Int32 → Wd → Prop) : Nat → Nat → Nat → Int32 → Int32 → Wd → Prop
  | 0, _, _, _, _, _ => False
  | n + 1, v0, v1, v2, v3, G => gK G v1 = 9 ∧ if (gI G v1 3) ≤ v3 then (Q v2 G) else (gK G v0 = 4 ∧ ∃ b3, gR G v0 5 = some b3 ∧ wpX9_numberAt v1 v3 G (fun r5 G6 => gK G6 b3 = 20 ∧ vp_in r5 (gN G6 b3) ∧ ∀ x9 : Int32, x9 = (v2 ||| (gI G6 b3 (r5).toNatClampNeg)) → ∀ x10 : Int32, x10 = v3 + 1 → wpX4_choicesIn_4 Q n v0 v1 x9 x10 G6))
set_option maxRecDepth 100000 in
def wpX4_choicesIn (a0 : Nat) (a1 : Nat) (G : Wd) (Q : Int32 → Wd → Prop) : Prop := ∃ m, wpX4_choicesIn_4 Q m a0 a1 0 0 G
abbrev rmX4_choicesIn : Room := { frames := 1, cells := 0, slots := 0, locals := 21 }
def wpX4_isAhead_30 (Q : Int32 → Wd → Prop) : Nat → Nat → Nat → Int32 → Wd → Prop
  | 0, _, _, _, _ => False
  | n + 1, v0, v1, v2, G => gK G v0 = 4 ∧ if (gI G v0 1) ≤ v2 then (Q 0 G) else (∃ b2, gR G v0 0 = some b2 ∧ gK G b2 = 20 ∧ vp_in v2 (gN G b2) ∧ ∀ x6 : Int32, x6 = ((gI G b2 (v2).toNatClampNeg) % 100) → gK G v1 = 9 ∧ wpX9_numberAt v1 v2 G (fun r8 G9 => if r8 = x6 then (∀ x10 : Int32, x10 = v2 + 1 → wpX4_isAhead_30 Q n v0 v1 x10 G9) else (gK G9 v1 = 9 ∧ wpX9_numberAt v1 v2 G9 (fun r12 G13 => if x6 ≤ r12 then (Q 0 G13) else (Q 1 G13)))))
set_option maxRecDepth 100000 in
def wpX4_isAhead (a0 : Nat) (a1 : Nat) (G : Wd) (Q : Int32 → Wd → Prop) : Prop := gK G a1 = 9 ∧ gK G a0 = 4 ∧ if (gI G a1 3) = (gI G a0 1) then (∃ m, wpX4_isAhead_30 Q m a0 a1 0 G) else (if (gI G a0 1) ≤ (gI G a1 3) then (Q 0 G) else (Q 1 G))
abbrev rmX4_isAhead : Room := { frames := 1, cells := 0, slots := 0, locals := 21 }
def wpX4_arrived_20 (Q : Wd → Prop) (v0 : Nat) (v1 : Nat) (G : Wd) : Prop := gK G v0 = 4 ∧ ∀ G2 : Wd, G2 = uI G v0 2 1 → gK G2 v1 = 9 ∧ ∀ G4 : Wd, G4 = uI G2 v1 4 1 → Q G4
def wpX4_arrived_69 (Q : Wd → Prop) (v0 : Nat) (v1 : Nat) (G : Wd) : Prop := gK G v1 = 9 ∧ gK G v0 = 4 ∧ ∀ G7 : Wd, G7 = uI G v0 1 (gI G v1 3) → ∃ b9, gR G7 v1 2 = some b9 ∧ ∃ b12, gR G7 v0 0 = some b12 ∧ gK G7 b9 = 20 ∧ gK G7 b12 = 20 ∧ (¬ (gI G7 v0 1) < 0 ∧ (gI G7 v0 1).toNatClampNeg ≤ gN G7 b9 ∧ (gI G7 v0 1).toNatClampNeg ≤ gN G7 b12) ∧ ∀ G16 : Wd, G16 = cpI G7 b9 b12 (gI G7 v0 1).toNatClampNeg → Q G16
set_option maxRecDepth 100000 in
def wpX4_arrived (a0 : Nat) (a1 : Nat) (G : Wd) (Q : Wd → Prop) : Prop := gK G a1 = 9 ∧ wpX9_low a1 G (fun r19 G20 => ∃ b21, r19 = some b21 ∧ gK G20 b21 = 3 ∧ if (gI G20 b21 2) = 0 then (gK G20 a1 = 9 ∧ wpX9_high a1 G20 (fun r24 G25 => ∃ b26, r24 = some b26 ∧ gK G25 b26 = 3 ∧ if (gI G25 b26 2) = 0 then (gK G25 a1 = 9 ∧ wpX9_low a1 G25 (fun r29 G30 => ∃ b31, r29 = some b31 ∧ gK G30 b31 = 3 ∧ wpX2_isAboveOne b31 G30 (fun r33 G34 => if r33 = 0 then (Q G34) else (gK G34 a0 = 4 ∧ ∃ b36, gR G34 a0 6 = some b36 ∧ wpX4_choicesIn a0 a1 G34 (fun r38 G39 => gK G39 b36 = 22 ∧ vp_in r38 (gN G39 b36) ∧ ∀ G42 : Wd, G42 = uI G39 b36 (r38).toNatClampNeg 1 → gK G42 a0 = 4 ∧ if (gI G42 a0 1) = 0 then (wpX4_arrived_69 Q a0 a1 G42) else (wpX4_isAhead a0 a1 G42 (fun r44 G45 => if r44 = 0 then (Q G45) else (wpX4_arrived_69 Q a0 a1 G45)))))))) else (wpX4_arrived_20 Q a0 a1 G25))) else (wpX4_arrived_20 Q a0 a1 G20))
abbrev rmX4_arrived : Room := { frames := 2, cells := 0, slots := 0, locals := 44 }
def wpX4_spreadToMore_56 (Q : Wd → Prop) (k2 : Nat → Int32 → Wd → Prop) (k14 : Nat → Int32 → Int32 → Wd → Prop) (v0 : Nat) (v1 : Int32) (v2 : Int32) (s0 : Nat) (s1 : Int32) (s2 : Int32) (G : Wd) : Prop := gK G s0 = 22 ∧ vp_in s1 (gN G s0) ∧ isB s2 ∧ ∀ G3 : Wd, G3 = uI G s0 (s1).toNatClampNeg s2 → ∀ x5 : Int32, x5 = v2 + 1 → k14 v0 v1 x5 G3
def wpX4_spreadToMore_51 (Q : Wd → Prop) (k2 : Nat → Int32 → Wd → Prop) (k14 : Nat → Int32 → Int32 → Wd → Prop) (v0 : Nat) (v1 : Int32) (v2 : Int32) (s0 : Nat) (s1 : Int32) (G : Wd) : Prop := wpX4_spreadToMore_56 Q k2 k14 v0 v1 v2 s0 s1 1 G
def wpX4_spreadToMore_14 (Q : Wd → Prop) (k2 : Nat → Int32 → Wd → Prop) : Nat → Nat → Int32 → Int32 → Wd → Prop
  | 0, _, _, _, _ => False
  | n + 1, v0, v1, v2, G => gK G v0 = 4 ∧ if (gI G v0 4) ≤ v2 then (∀ x7 : Int32, x7 = v1 + 1 → k2 v0 x7 G) else (∀ x8 : Int32, x8 = (v1 ||| (1 <<< (v2 &&& 31))) → ∃ b9, gR G v0 6 = some b9 ∧ ∃ b11, gR G v0 6 = some b11 ∧ gK G b11 = 22 ∧ vp_in x8 (gN G b11) ∧ if (gI G b11 (x8).toNatClampNeg) = 0 then (∃ b15, gR G v0 6 = some b15 ∧ gK G b15 = 22 ∧ vp_in v1 (gN G b15) ∧ if (gI G b15 (v1).toNatClampNeg) = 0 then (wpX4_spreadToMore_56 Q k2 (fun y0 y1 y2 y3 => wpX4_spreadToMore_14 Q k2 n y0 y1 y2 y3) v0 v1 v2 b9 x8 0 G) else (wpX4_spreadToMore_51 Q k2 (fun y0 y1 y2 y3 => wpX4_spreadToMore_14 Q k2 n y0 y1 y2 y3) v0 v1 v2 b9 x8 G)) else (wpX4_spreadToMore_51 Q k2 (fun y0 y1 y2 y3 => wpX4_spreadToMore_14 Q k2 n y0 y1 y2 y3) v0 v1 v2 b9 x8 G))
def wpX4_spreadToMore_2 (Q : Wd → Prop) : Nat → Nat → Int32 → Wd → Prop
  | 0, _, _, _ => False
  | n + 1, v0, v1, G => gK G v0 = 4 ∧ if (1 <<< ((gI G v0 4) &&& 31)) ≤ v1 then (Q G) else (∃ m, wpX4_spreadToMore_14 Q (fun y0 y1 y2 => wpX4_spreadToMore_2 Q n y0 y1 y2) m v0 v1 0 G)
set_option maxRecDepth 100000 in
def wpX4_spreadToMore (a0 : Nat) (G : Wd) (Q : Wd → Prop) : Prop := ∃ m, wpX4_spreadToMore_2 Q m a0 0 G
abbrev rmX4_spreadToMore : Room := { frames := 0, cells := 0, slots := 0, locals := 0 }
def wpX4_worthOf_42 (Q : Int32 → Wd → Prop) (k4 : Nat → Int32 → Int32 → Int32 → Wd → Prop) (v0 : Nat) (v1 : Int32) (v2 : Int32) (v3 : Int32) (G : Wd) : Prop := ∀ x1 : Int32, x1 = v3 + 1 → k4 v0 v1 v2 x1 G
def wpX4_worthOf_4 (Q : Int32 → Wd → Prop) : Nat → Nat → Int32 → Int32 → Int32 → Wd → Prop
  | 0, _, _, _, _, _ => False
  | n + 1, v0, v1, v2, v3, G => gK G v0 = 4 ∧ if (gI G v0 4) ≤ v3 then (Q v2 G) else (∃ b3, gR G v0 3 = some b3 ∧ gK G b3 = 25 ∧ vp_in v3 (gN G b3) ∧ ∃ b7, gR G b3 (v3).toNatClampNeg = some b7 ∧ if ((v1 >>> (v3 &&& 31)) &&& 1) = 1 then (gK G b7 = 5 ∧ ∀ x10 : Int32, x10 = (v2 + (gI G b7 11)) → wpX4_worthOf_42 Q (fun y0 y1 y2 y3 y4 => wpX4_worthOf_4 Q n y0 y1 y2 y3 y4) v0 v1 x10 v3 G) else (wpX4_worthOf_42 Q (fun y0 y1 y2 y3 y4 => wpX4_worthOf_4 Q n y0 y1 y2 y3 y4) v0 v1 v2 v3 G))
set_option maxRecDepth 100000 in
def wpX4_worthOf (a0 : Nat) (p1 : Int32) (G : Wd) (Q : Int32 → Wd → Prop) : Prop := ∃ m, wpX4_worthOf_4 Q m a0 p1 0 0 G
abbrev rmX4_worthOf : Room := { frames := 0, cells := 0, slots := 0, locals := 0 }
def wpX4_isCheaper_36 (Q : Int32 → Wd → Prop)  (G : Wd) : Prop := Q 1 G
set_option maxRecDepth 100000 in
def wpX4_isCheaper (a0 : Nat) (p1 : Int32) (p2 : Int32) (G : Wd) (Q : Int32 → Wd → Prop) : Prop := gK G a0 = 4 ∧ wpX4_worthOf a0 p1 G (fun r2 G3 => gK G3 a0 = 4 ∧ wpX4_worthOf a0 p2 G3 (fun r5 G6 => if r2 < r5 then (wpX4_isCheaper_36 Q  G6) else (if r2 = r5 then (wpJ6_bitCount_0f7a4 p1 G6 (fun r7 G8 => wpJ6_bitCount_0f7a4 p2 G8 (fun r9 G10 => if r9 ≤ r7 then (Q 0 G10) else (wpX4_isCheaper_36 Q  G10)))) else (Q 0 G6))))
abbrev rmX4_isCheaper : Room := { frames := 1, cells := 0, slots := 0, locals := 24 }
def wpX4_byNumbers_48 (Q : Int64 → Wd → Prop) (k5 : Nat → Int32 → Int64 → Int32 → Wd → Prop) (v0 : Nat) (v1 : Int32) (v2 : Int64) (v4 : Int32) (G : Wd) : Prop := ∀ x1 : Int32, x1 = v4 + 1 → k5 v0 v1 v2 x1 G
def wpX4_byNumbers_5 (Q : Int64 → Wd → Prop) : Nat → Nat → Int32 → Int64 → Int32 → Wd → Prop
  | 0, _, _, _, _, _ => False
  | n + 1, v0, v1, v2, v4, G => gK G v0 = 4 ∧ if (gI G v0 4) ≤ v4 then (Q v2 G) else (∃ b3, gR G v0 3 = some b3 ∧ gK G b3 = 25 ∧ vp_in v4 (gN G b3) ∧ ∃ b7, gR G b3 (v4).toNatClampNeg = some b7 ∧ if ((v1 >>> (v4 &&& 31)) &&& 1) = 1 then (gK G b7 = 5 ∧ ∀ x10 : Int64, x10 = (v2 ||| ((1 : Int64) <<< (((gI G b7 0)).toInt64 &&& 63))) → wpX4_byNumbers_48 Q (fun y0 y1 y2 y3 y4 => wpX4_byNumbers_5 Q n y0 y1 y2 y3 y4) v0 v1 x10 v4 G) else (wpX4_byNumbers_48 Q (fun y0 y1 y2 y3 y4 => wpX4_byNumbers_5 Q n y0 y1 y2 y3 y4) v0 v1 v2 v4 G))
set_option maxRecDepth 100000 in
def wpX4_byNumbers (a0 : Nat) (p1 : Int32) (G : Wd) (Q : Int64 → Wd → Prop) : Prop := ∃ m, wpX4_byNumbers_5 Q m a0 p1 0 0 G
abbrev rmX4_byNumbers : Room := { frames := 0, cells := 0, slots := 0, locals := 0 }
def wpX4_cheapest_48 (Q : Int64 → Wd → Prop) (k17 : Nat → Int32 → Int32 → Int32 → Wd → Prop) (v0 : Nat) (v1 : Int32) (v2 : Int32) (v3 : Int32) (G : Wd) : Prop := ∀ x1 : Int32, x1 = v3 + 1 → k17 v0 v1 v2 x1 G
def wpX4_cheapest_46 (Q : Int64 → Wd → Prop) (k17 : Nat → Int32 → Int32 → Int32 → Wd → Prop) (v0 : Nat) (v1 : Int32) (v3 : Int32) (G : Wd) : Prop := wpX4_cheapest_48 Q k17 v0 v1 v3 v3 G
def wpX4_cheapest_17 (Q : Int64 → Wd → Prop) : Nat → Nat → Int32 → Int32 → Int32 → Wd → Prop
  | 0, _, _, _, _, _ => False
  | n + 1, v0, v1, v2, v3, G => if v1 < v3 then (if 0 ≤ v2 then (gK G v0 = 4 ∧ wpX4_byNumbers v0 v2 G (fun r3 G4 => Q r3 G4)) else (Q (-9000000000000000005) G)) else (gK G v0 = 4 ∧ ∃ b6, gR G v0 6 = some b6 ∧ gK G b6 = 22 ∧ vp_in (v1 ^^^ v3) (gN G b6) ∧ if (gI G b6 ((v1 ^^^ v3)).toNatClampNeg) = 0 then (if v2 < 0 then (wpX4_cheapest_46 Q (fun y0 y1 y2 y3 y4 => wpX4_cheapest_17 Q n y0 y1 y2 y3 y4) v0 v1 v3 G) else (wpX4_isCheaper v0 v3 v2 G (fun r10 G11 => if r10 = 0 then (wpX4_cheapest_48 Q (fun y0 y1 y2 y3 y4 => wpX4_cheapest_17 Q n y0 y1 y2 y3 y4) v0 v1 v2 v3 G11) else (wpX4_cheapest_46 Q (fun y0 y1 y2 y3 y4 => wpX4_cheapest_17 Q n y0 y1 y2 y3 y4) v0 v1 v3 G11)))) else (wpX4_cheapest_48 Q (fun y0 y1 y2 y3 y4 => wpX4_cheapest_17 Q n y0 y1 y2 y3 y4) v0 v1 v2 v3 G))
set_option maxRecDepth 100000 in
def wpX4_cheapest (a0 : Nat) (G : Wd) (Q : Int64 → Wd → Prop) : Prop := gK G a0 = 4 ∧ wpX4_spreadToMore a0 G (fun G14 => gK G14 a0 = 4 ∧ ∀ x16 : Int32, x16 = ((1 <<< ((gI G14 a0 4) &&& 31)) - 1) → ∃ m, wpX4_cheapest_17 Q m a0 x16 (-1) 0 G14)
abbrev rmX4_cheapest : Room := { frames := 2, cells := 0, slots := 0, locals := 48 }
set_option maxRecDepth 100000 in
def wpX8_init (a0 : Nat) (G : Wd) (Q : Wd → Prop) : Prop := wpX3_init a0 G (fun G2 => ∀ (z4 : Nat) (G3 : Wd), z4 = gZ G2 → G3 = nC G2 3 0 → wpX2_init z4 G3 (fun G6 => gK G6 a0 = 8 ∧ ∀ G8 : Wd, G8 = uR G6 a0 0 (some z4) → ∀ (z10 : Nat) (G9 : Wd), z10 = gZ G8 → G9 = nC G8 3 0 → wpX2_init z10 G9 (fun G12 => gK G12 a0 = 8 ∧ ∀ G14 : Wd, G14 = uR G12 a0 1 (some z10) → Q G14)))
abbrev rmX8_init : Room := { frames := 2, cells := 2, slots := 6, locals := 40 }
def wpX8_arrived_115 (Q : Wd → Prop) (s0 : Nat) (s1 : Int32) (G : Wd) : Prop := gK G s0 = 9 ∧ isB s1 ∧ ∀ G2 : Wd, G2 = uI G s0 4 s1 → Q G2
def wpX8_arrived_110 (Q : Wd → Prop) (s0 : Nat) (G : Wd) : Prop := wpX8_arrived_115 Q s0 1 G
def wpX8_arrived_84 (Q : Wd → Prop) (v0 : Nat) (v1 : Nat) (G : Wd) : Prop := gK G v0 = 8 ∧ ∀ G5 : Wd, G5 = uI G v0 2 1 → ∃ b7, gR G5 v0 0 = some b7 ∧ gK G5 b7 = 3 ∧ if (gI G5 b7 2) = 0 then (∃ b10, gR G5 v0 1 = some b10 ∧ gK G5 b10 = 3 ∧ if (gI G5 b10 2) = 0 then (wpX8_arrived_115 Q v1 0 G5) else (wpX8_arrived_110 Q v1 G5)) else (wpX8_arrived_110 Q v1 G5)
def wpX8_arrived_73 (Q : Wd → Prop) (v0 : Nat) (v1 : Nat) (G : Wd) : Prop := gK G v0 = 8 ∧ ∃ b14, gR G v0 1 = some b14 ∧ gK G v1 = 9 ∧ wpX9_high v1 G (fun r17 G18 => ∃ b19, r17 = some b19 ∧ gK G18 b14 = 3 ∧ wpX2_become_ b14 b19 G18 (fun G22 => wpX8_arrived_84 Q v0 v1 G22))
def wpX8_arrived_42 (Q : Wd → Prop) (v0 : Nat) (v1 : Nat) (G : Wd) : Prop := gK G v0 = 8 ∧ if (gI G v0 2) = 0 then (wpX8_arrived_73 Q v0 v1 G) else (gK G v1 = 9 ∧ wpX9_high v1 G (fun r25 G26 => ∃ b27, r25 = some b27 ∧ gK G26 b27 = 3 ∧ if (gI G26 b27 2) = 0 then (gK G26 v0 = 8 ∧ ∃ b30, gR G26 v0 1 = some b30 ∧ gK G26 v1 = 9 ∧ wpX9_high v1 G26 (fun r33 G34 => ∃ b35, r33 = some b35 ∧ gK G34 b30 = 3 ∧ wpX2_isLess b30 b35 G34 (fun r37 G38 => if r37 = 0 then (wpX8_arrived_84 Q v0 v1 G38) else (wpX8_arrived_73 Q v0 v1 G38)))) else (wpX8_arrived_73 Q v0 v1 G26)))
def wpX8_arrived_31 (Q : Wd → Prop) (v0 : Nat) (v1 : Nat) (G : Wd) : Prop := gK G v0 = 8 ∧ ∃ b40, gR G v0 0 = some b40 ∧ gK G v1 = 9 ∧ wpX9_low v1 G (fun r43 G44 => ∃ b45, r43 = some b45 ∧ gK G44 b40 = 3 ∧ wpX2_become_ b40 b45 G44 (fun G48 => wpX8_arrived_42 Q v0 v1 G48))
set_option maxRecDepth 100000 in
def wpX8_arrived (a0 : Nat) (a1 : Nat) (G : Wd) (Q : Wd → Prop) : Prop := gK G a0 = 8 ∧ if (gI G a0 2) = 0 then (wpX8_arrived_31 Q a0 a1 G) else (gK G a1 = 9 ∧ wpX9_low a1 G (fun r51 G52 => ∃ b53, r51 = some b53 ∧ gK G52 b53 = 3 ∧ if (gI G52 b53 2) = 0 then (gK G52 a1 = 9 ∧ wpX9_low a1 G52 (fun r56 G57 => ∃ b58, r56 = some b58 ∧ gK G57 a0 = 8 ∧ ∃ b60, gR G57 a0 0 = some b60 ∧ gK G57 b58 = 3 ∧ wpX2_isLess b58 b60 G57 (fun r63 G64 => if r63 = 0 then (wpX8_arrived_42 Q a0 a1 G64) else (wpX8_arrived_31 Q a0 a1 G64)))) else (wpX8_arrived_31 Q a0 a1 G52)))
abbrev rmX8_arrived : Room := { frames := 1, cells := 0, slots := 0, locals := 34 }
set_option maxRecDepth 100000 in
def wpX9_init (a0 : Nat) (G : Wd) (Q : Wd → Prop) : Prop := ∀ (z2 : Nat) (G1 : Wd), z2 = gZ G → G1 = nC G 25 24 → gK G1 a0 = 9 ∧ ∀ G4 : Wd, G4 = uR G1 a0 0 (some z2) → ∀ (z6 : Nat) (G5 : Wd), z6 = gZ G4 → G5 = nC G4 20 10 → gK G5 a0 = 9 ∧ ∀ G8 : Wd, G8 = uR G5 a0 2 (some z6) → ∀ (z10 : Nat) (G9 : Wd), z10 = gZ G8 → G9 = nC G8 24 11 → gK G9 a0 = 9 ∧ ∀ G12 : Wd, G12 = uR G9 a0 5 (some z10) → ∀ (z14 : Nat) (G13 : Wd), z14 = gZ G12 → G13 = nC G12 24 11 → gK G13 a0 = 9 ∧ ∀ G16 : Wd, G16 = uR G13 a0 6 (some z14) → ∀ (z18 : Nat) (G17 : Wd), z18 = gZ G16 → G17 = nC G16 20 10 → gK G17 a0 = 9 ∧ ∀ G20 : Wd, G20 = uR G17 a0 7 (some z18) → ∃ b22, gR G20 a0 5 = some b22 ∧ ∀ (z25 : Nat) (G24 : Wd), z25 = gZ G20 → G24 = nC G20 3 0 → wpX2_init z25 G24 (fun G27 => gK G27 b22 = 24 ∧ gK G27 z25 = 3 ∧ vp_in 0 (gN G27 b22) ∧ ∀ G30 : Wd, G30 = uR G27 b22 0 (some z25) → gK G30 a0 = 9 ∧ ∃ b33, gR G30 a0 6 = some b33 ∧ ∀ (z36 : Nat) (G35 : Wd), z36 = gZ G30 → G35 = nC G30 3 0 → wpX2_init z36 G35 (fun G38 => gK G38 b33 = 24 ∧ gK G38 z36 = 3 ∧ vp_in 0 (gN G38 b33) ∧ ∀ G41 : Wd, G41 = uR G38 b33 0 (some z36) → gK G41 a0 = 9 ∧ ∃ b44, gR G41 a0 5 = some b44 ∧ ∀ (z47 : Nat) (G46 : Wd), z47 = gZ G41 → G46 = nC G41 3 0 → wpX2_init z47 G46 (fun G49 => gK G49 b44 = 24 ∧ gK G49 z47 = 3 ∧ vp_in 1 (gN G49 b44) ∧ ∀ G52 : Wd, G52 = uR G49 b44 1 (some z47) → gK G52 a0 = 9 ∧ ∃ b55, gR G52 a0 6 = some b55 ∧ ∀ (z58 : Nat) (G57 : Wd), z58 = gZ G52 → G57 = nC G52 3 0 → wpX2_init z58 G57 (fun G60 => gK G60 b55 = 24 ∧ gK G60 z58 = 3 ∧ vp_in 1 (gN G60 b55) ∧ ∀ G63 : Wd, G63 = uR G60 b55 1 (some z58) → gK G63 a0 = 9 ∧ ∃ b66, gR G63 a0 5 = some b66 ∧ ∀ (z69 : Nat) (G68 : Wd), z69 = gZ G63 → G68 = nC G63 3 0 → wpX2_init z69 G68 (fun G71 => gK G71 b66 = 24 ∧ gK G71 z69 = 3 ∧ vp_in 2 (gN G71 b66) ∧ ∀ G74 : Wd, G74 = uR G71 b66 2 (some z69) → gK G74 a0 = 9 ∧ ∃ b77, gR G74 a0 6 = some b77 ∧ ∀ (z80 : Nat) (G79 : Wd), z80 = gZ G74 → G79 = nC G74 3 0 → wpX2_init z80 G79 (fun G82 => gK G82 b77 = 24 ∧ gK G82 z80 = 3 ∧ vp_in 2 (gN G82 b77) ∧ ∀ G85 : Wd, G85 = uR G82 b77 2 (some z80) → gK G85 a0 = 9 ∧ ∃ b88, gR G85 a0 5 = some b88 ∧ ∀ (z91 : Nat) (G90 : Wd), z91 = gZ G85 → G90 = nC G85 3 0 → wpX2_init z91 G90 (fun G93 => gK G93 b88 = 24 ∧ gK G93 z91 = 3 ∧ vp_in 3 (gN G93 b88) ∧ ∀ G96 : Wd, G96 = uR G93 b88 3 (some z91) → gK G96 a0 = 9 ∧ ∃ b99, gR G96 a0 6 = some b99 ∧ ∀ (z102 : Nat) (G101 : Wd), z102 = gZ G96 → G101 = nC G96 3 0 → wpX2_init z102 G101 (fun G104 => gK G104 b99 = 24 ∧ gK G104 z102 = 3 ∧ vp_in 3 (gN G104 b99) ∧ ∀ G107 : Wd, G107 = uR G104 b99 3 (some z102) → gK G107 a0 = 9 ∧ ∃ b110, gR G107 a0 5 = some b110 ∧ ∀ (z113 : Nat) (G112 : Wd), z113 = gZ G107 → G112 = nC G107 3 0 → wpX2_init z113 G112 (fun G115 => gK G115 b110 = 24 ∧ gK G115 z113 = 3 ∧ vp_in 4 (gN G115 b110) ∧ ∀ G118 : Wd, G118 = uR G115 b110 4 (some z113) → gK G118 a0 = 9 ∧ ∃ b121, gR G118 a0 6 = some b121 ∧ ∀ (z124 : Nat) (G123 : Wd), z124 = gZ G118 → G123 = nC G118 3 0 → wpX2_init z124 G123 (fun G126 => gK G126 b121 = 24 ∧ gK G126 z124 = 3 ∧ vp_in 4 (gN G126 b121) ∧ ∀ G129 : Wd, G129 = uR G126 b121 4 (some z124) → gK G129 a0 = 9 ∧ ∃ b132, gR G129 a0 5 = some b132 ∧ ∀ (z135 : Nat) (G134 : Wd), z135 = gZ G129 → G134 = nC G129 3 0 → wpX2_init z135 G134 (fun G137 => gK G137 b132 = 24 ∧ gK G137 z135 = 3 ∧ vp_in 5 (gN G137 b132) ∧ ∀ G140 : Wd, G140 = uR G137 b132 5 (some z135) → gK G140 a0 = 9 ∧ ∃ b143, gR G140 a0 6 = some b143 ∧ ∀ (z146 : Nat) (G145 : Wd), z146 = gZ G140 → G145 = nC G140 3 0 → wpX2_init z146 G145 (fun G148 => gK G148 b143 = 24 ∧ gK G148 z146 = 3 ∧ vp_in 5 (gN G148 b143) ∧ ∀ G151 : Wd, G151 = uR G148 b143 5 (some z146) → gK G151 a0 = 9 ∧ ∃ b154, gR G151 a0 5 = some b154 ∧ ∀ (z157 : Nat) (G156 : Wd), z157 = gZ G151 → G156 = nC G151 3 0 → wpX2_init z157 G156 (fun G159 => gK G159 b154 = 24 ∧ gK G159 z157 = 3 ∧ vp_in 6 (gN G159 b154) ∧ ∀ G162 : Wd, G162 = uR G159 b154 6 (some z157) → gK G162 a0 = 9 ∧ ∃ b165, gR G162 a0 6 = some b165 ∧ ∀ (z168 : Nat) (G167 : Wd), z168 = gZ G162 → G167 = nC G162 3 0 → wpX2_init z168 G167 (fun G170 => gK G170 b165 = 24 ∧ gK G170 z168 = 3 ∧ vp_in 6 (gN G170 b165) ∧ ∀ G173 : Wd, G173 = uR G170 b165 6 (some z168) → gK G173 a0 = 9 ∧ ∃ b176, gR G173 a0 5 = some b176 ∧ ∀ (z179 : Nat) (G178 : Wd), z179 = gZ G173 → G178 = nC G173 3 0 → wpX2_init z179 G178 (fun G181 => gK G181 b176 = 24 ∧ gK G181 z179 = 3 ∧ vp_in 7 (gN G181 b176) ∧ ∀ G184 : Wd, G184 = uR G181 b176 7 (some z179) → gK G184 a0 = 9 ∧ ∃ b187, gR G184 a0 6 = some b187 ∧ ∀ (z190 : Nat) (G189 : Wd), z190 = gZ G184 → G189 = nC G184 3 0 → wpX2_init z190 G189 (fun G192 => gK G192 b187 = 24 ∧ gK G192 z190 = 3 ∧ vp_in 7 (gN G192 b187) ∧ ∀ G195 : Wd, G195 = uR G192 b187 7 (some z190) → gK G195 a0 = 9 ∧ ∃ b198, gR G195 a0 5 = some b198 ∧ ∀ (z201 : Nat) (G200 : Wd), z201 = gZ G195 → G200 = nC G195 3 0 → wpX2_init z201 G200 (fun G203 => gK G203 b198 = 24 ∧ gK G203 z201 = 3 ∧ vp_in 8 (gN G203 b198) ∧ ∀ G206 : Wd, G206 = uR G203 b198 8 (some z201) → gK G206 a0 = 9 ∧ ∃ b209, gR G206 a0 6 = some b209 ∧ ∀ (z212 : Nat) (G211 : Wd), z212 = gZ G206 → G211 = nC G206 3 0 → wpX2_init z212 G211 (fun G214 => gK G214 b209 = 24 ∧ gK G214 z212 = 3 ∧ vp_in 8 (gN G214 b209) ∧ ∀ G217 : Wd, G217 = uR G214 b209 8 (some z212) → gK G217 a0 = 9 ∧ ∃ b220, gR G217 a0 5 = some b220 ∧ ∀ (z223 : Nat) (G222 : Wd), z223 = gZ G217 → G222 = nC G217 3 0 → wpX2_init z223 G222 (fun G225 => gK G225 b220 = 24 ∧ gK G225 z223 = 3 ∧ vp_in 9 (gN G225 b220) ∧ ∀ G228 : Wd, G228 = uR G225 b220 9 (some z223) → gK G228 a0 = 9 ∧ ∃ b231, gR G228 a0 6 = some b231 ∧ ∀ (z234 : Nat) (G233 : Wd), z234 = gZ G228 → G233 = nC G228 3 0 → wpX2_init z234 G233 (fun G236 => gK G236 b231 = 24 ∧ gK G236 z234 = 3 ∧ vp_in 9 (gN G236 b231) ∧ ∀ G239 : Wd, G239 = uR G236 b231 9 (some z234) → gK G239 a0 = 9 ∧ ∃ b242, gR G239 a0 5 = some b242 ∧ ∀ (z245 : Nat) (G244 : Wd), z245 = gZ G239 → G244 = nC G239 3 0 → wpX2_init z245 G244 (fun G247 => gK G247 b242 = 24 ∧ gK G247 z245 = 3 ∧ vp_in 10 (gN G247 b242) ∧ ∀ G250 : Wd, G250 = uR G247 b242 10 (some z245) → gK G250 a0 = 9 ∧ ∃ b253, gR G250 a0 6 = some b253 ∧ ∀ (z256 : Nat) (G255 : Wd), z256 = gZ G250 → G255 = nC G250 3 0 → wpX2_init z256 G255 (fun G258 => gK G258 b253 = 24 ∧ gK G258 z256 = 3 ∧ vp_in 10 (gN G258 b253) ∧ ∀ G261 : Wd, G261 = uR G258 b253 10 (some z256) → gK G261 a0 = 9 ∧ ∃ b264, gR G261 a0 5 = some b264 ∧ gK G261 b264 = 24 ∧ vp_in 0 (gN G261 b264) ∧ ∃ b268, gR G261 b264 0 = some b268 ∧ gK G261 b268 = 3 ∧ wpX2_become b268 1 1 G261 (fun G272 => gK G272 a0 = 9 ∧ ∃ b274, gR G272 a0 6 = some b274 ∧ gK G272 b274 = 24 ∧ vp_in 0 (gN G272 b274) ∧ ∃ b278, gR G272 b274 0 = some b278 ∧ gK G272 b278 = 3 ∧ wpX2_become b278 1 1 G272 (fun G282 => Q G282))))))))))))))))))))))))
abbrev rmX9_init : Room := { frames := 3, cells := 27, slots := 132, locals := 79 }
set_option maxRecDepth 100000 in
def wpX9_admit (a0 : Nat) (a1 : Nat) (G : Wd) (Q : Wd → Prop) : Prop := gK G a0 = 9 ∧ if 24 ≤ (gI G a0 1) then (Q G) else (∃ b2, gR G a0 0 = some b2 ∧ gK G b2 = 25 ∧ gK G a1 = 5 ∧ vp_in (gI G a0 1) (gN G b2) ∧ ∀ G6 : Wd, G6 = uR G b2 (gI G a0 1).toNatClampNeg (some a1) → ∀ G9 : Wd, G9 = uI G6 a0 1 ((gI G6 a0 1) + 1) → Q G9)
abbrev rmX9_admit : Room := { frames := 0, cells := 0, slots := 0, locals := 0 }
set_option maxRecDepth 100000 in
def wpX9_draw (a0 : Nat) (p1 : Int32) (p2 : Int32) (G : Wd) (Q : Int32 → Wd → Prop) : Prop := gK G a0 = 9 ∧ ∃ b2, gR G a0 7 = some b2 ∧ gK G b2 = 20 ∧ vp_in p2 (gN G b2) ∧ ∃ b6, gR G a0 7 = some b6 ∧ gK G b6 = 20 ∧ vp_in p1 (gN G b6) ∧ if ((gI G b2 (p2).toNatClampNeg) + 1) < (gI G b6 (p1).toNatClampNeg) then (∃ b10, gR G a0 7 = some b10 ∧ ∃ b12, gR G a0 7 = some b12 ∧ gK G b12 = 20 ∧ vp_in p2 (gN G b12) ∧ gK G b10 = 20 ∧ vp_in p1 (gN G b10) ∧ ∀ G18 : Wd, G18 = uI G b10 (p1).toNatClampNeg ((gI G b12 (p2).toNatClampNeg) + 1) → Q 1 G18) else (Q 0 G)
abbrev rmX9_draw : Room := { frames := 0, cells := 0, slots := 0, locals := 0 }
def wpX9_measureDistances_95 (Q : Wd → Prop) (k23 : Nat → Int32 → Int32 → Wd → Prop) (k40 : Nat → Int32 → Int32 → Int32 → Wd → Prop) (v0 : Nat) (v1 : Int32) (v2 : Int32) (v3 : Int32) (G : Wd) : Prop := ∀ x1 : Int32, x1 = v3 + 1 → k40 v0 v1 v2 x1 G
def wpX9_measureDistances_40 (Q : Wd → Prop) (k23 : Nat → Int32 → Int32 → Wd → Prop) : Nat → Nat → Int32 → Int32 → Int32 → Wd → Prop
  | 0, _, _, _, _, _ => False
  | n + 1, v0, v1, v2, v3, G => gK G v0 = 9 ∧ if (gI G v0 1) ≤ v3 then (∀ x3 : Int32, x3 = v2 + 1 → k23 v0 v1 x3 G) else (∃ b4, gR G v0 0 = some b4 ∧ gK G b4 = 25 ∧ vp_in v3 (gN G b4) ∧ ∃ b8, gR G b4 (v3).toNatClampNeg = some b8 ∧ gK G b8 = 5 ∧ wpX9_draw v0 (gI G b8 2) (gI G b8 3) G (fun r11 G12 => ∀ x13 : Int32, x13 = (v1 ||| r11) → gK G12 b8 = 5 ∧ gK G12 v0 = 9 ∧ wpX9_draw v0 (gI G12 b8 3) (gI G12 b8 2) G12 (fun r16 G17 => ∀ x18 : Int32, x18 = (x13 ||| r16) → wpX9_measureDistances_95 Q k23 (fun y0 y1 y2 y3 y4 => wpX9_measureDistances_40 Q k23 n y0 y1 y2 y3 y4) v0 x18 v2 v3 G17)))
def wpX9_measureDistances_23 (Q : Wd → Prop) : Nat → Nat → Int32 → Int32 → Wd → Prop
  | 0, _, _, _, _ => False
  | n + 1, v0, v1, v2, G => if 10 ≤ v2 then (Q G) else (if v1 = 0 then (Q G) else (gK G v0 = 9 ∧ ∀ x20 : Int32, x20 = gI G v0 9 → ∃ m, wpX9_measureDistances_40 Q (fun y0 y1 y2 y3 => wpX9_measureDistances_23 Q n y0 y1 y2 y3) m v0 0 v2 x20 G))
set_option maxRecDepth 100000 in
def wpX9_measureDistances (a0 : Nat) (G : Wd) (Q : Wd → Prop) : Prop := gK G a0 = 9 ∧ ∃ b22, gR G a0 7 = some b22 ∧ wpJ7_fill_53178 b22 100 G (fun G25 => gK G25 a0 = 9 ∧ ∃ b27, gR G25 a0 7 = some b27 ∧ gK G25 b27 = 20 ∧ vp_in (gI G25 a0 8) (gN G25 b27) ∧ ∀ G31 : Wd, G31 = uI G25 b27 (gI G25 a0 8).toNatClampNeg 0 → ∃ m, wpX9_measureDistances_23 Q m a0 1 0 G31)
abbrev rmX9_measureDistances : Room := { frames := 1, cells := 0, slots := 0, locals := 23 }
set_option maxRecDepth 100000 in
def wpX9_aim (a0 : Nat) (p1 : Int32) (p2 : Int32) (G : Wd) (Q : Wd → Prop) : Prop := gK G a0 = 9 ∧ ∀ G2 : Wd, G2 = uI G a0 8 p1 → ∀ G4 : Wd, G4 = uI G2 a0 9 p2 → ∀ G6 : Wd, G6 = uI G4 a0 4 0 → wpX9_measureDistances a0 G6 (fun G9 => Q G9)
abbrev rmX9_aim : Room := { frames := 2, cells := 0, slots := 0, locals := 47 }
def wpX9_take_23 (Q : Wd → Prop) (v0 : Nat) (v1 : Nat) (v2 : Int32) (v3 : Int32) (s0 : Nat) (s1 : Int32) (s2 : Int32) (G : Wd) : Prop := gK G s0 = 20 ∧ vp_in s1 (gN G s0) ∧ ∀ G3 : Wd, G3 = uI G s0 (s1).toNatClampNeg s2 → if v2 = 0 then (gK G3 v0 = 9 ∧ ∃ b5, gR G3 v0 5 = some b5 ∧ gK G3 b5 = 24 ∧ vp_in (v3 + 1) (gN G3 b5) ∧ ∃ b9, gR G3 b5 ((v3 + 1)).toNatClampNeg = some b9 ∧ ∃ b11, gR G3 v0 5 = some b11 ∧ gK G3 b11 = 24 ∧ vp_in v3 (gN G3 b11) ∧ ∃ b15, gR G3 b11 (v3).toNatClampNeg = some b15 ∧ gK G3 v1 = 5 ∧ ∃ b18, gR G3 v1 6 = some b18 ∧ gK G3 b18 = 3 ∧ ∃ b21, gR G3 v1 6 = some b21 ∧ gK G3 b21 = 3 ∧ gK G3 b9 = 3 ∧ wpX2_becomeProduct b9 b15 (gJ G3 b18 0) (gJ G3 b21 1) G3 (fun G26 => gK G26 v0 = 9 ∧ ∃ b28, gR G26 v0 6 = some b28 ∧ gK G26 b28 = 24 ∧ vp_in (v3 + 1) (gN G26 b28) ∧ ∃ b32, gR G26 b28 ((v3 + 1)).toNatClampNeg = some b32 ∧ ∃ b34, gR G26 v0 6 = some b34 ∧ gK G26 b34 = 24 ∧ vp_in v3 (gN G26 b34) ∧ ∃ b38, gR G26 b34 (v3).toNatClampNeg = some b38 ∧ gK G26 v1 = 5 ∧ ∃ b41, gR G26 v1 7 = some b41 ∧ gK G26 b41 = 3 ∧ ∃ b44, gR G26 v1 7 = some b44 ∧ gK G26 b44 = 3 ∧ gK G26 b32 = 3 ∧ wpX2_becomeProduct b32 b38 (gJ G26 b41 0) (gJ G26 b44 1) G26 (fun G49 => Q G49))) else (gK G3 v0 = 9 ∧ ∃ b51, gR G3 v0 5 = some b51 ∧ gK G3 b51 = 24 ∧ vp_in (v3 + 1) (gN G3 b51) ∧ ∃ b55, gR G3 b51 ((v3 + 1)).toNatClampNeg = some b55 ∧ ∃ b57, gR G3 v0 5 = some b57 ∧ gK G3 b57 = 24 ∧ vp_in v3 (gN G3 b57) ∧ ∃ b61, gR G3 b57 (v3).toNatClampNeg = some b61 ∧ gK G3 v1 = 5 ∧ ∃ b64, gR G3 v1 7 = some b64 ∧ gK G3 b64 = 3 ∧ ∃ b67, gR G3 v1 7 = some b67 ∧ gK G3 b67 = 3 ∧ gK G3 b55 = 3 ∧ wpX2_becomeProduct b55 b61 (gJ G3 b64 1) (gJ G3 b67 0) G3 (fun G72 => gK G72 v0 = 9 ∧ ∃ b74, gR G72 v0 6 = some b74 ∧ gK G72 b74 = 24 ∧ vp_in (v3 + 1) (gN G72 b74) ∧ ∃ b78, gR G72 b74 ((v3 + 1)).toNatClampNeg = some b78 ∧ ∃ b80, gR G72 v0 6 = some b80 ∧ gK G72 b80 = 24 ∧ vp_in v3 (gN G72 b80) ∧ ∃ b84, gR G72 b80 (v3).toNatClampNeg = some b84 ∧ gK G72 v1 = 5 ∧ ∃ b87, gR G72 v1 6 = some b87 ∧ gK G72 b87 = 3 ∧ ∃ b90, gR G72 v1 6 = some b90 ∧ gK G72 b90 = 3 ∧ gK G72 b78 = 3 ∧ wpX2_becomeProduct b78 b84 (gJ G72 b87 1) (gJ G72 b90 0) G72 (fun G95 => Q G95)))
set_option maxRecDepth 100000 in
def wpX9_take (a0 : Nat) (a1 : Nat) (p2 : Int32) (p3 : Int32) (G : Wd) (Q : Wd → Prop) : Prop := gK G a0 = 9 ∧ ∃ b97, gR G a0 2 = some b97 ∧ if p2 = 0 then (gK G a1 = 5 ∧ wpX9_take_23 Q a0 a1 p2 p3 b97 p3 (gI G a1 0) G) else (gK G a1 = 5 ∧ wpX9_take_23 Q a0 a1 p2 p3 b97 p3 ((gI G a1 0) + 100) G)
abbrev rmX9_take : Room := { frames := 3, cells := 0, slots := 0, locals := 82 }
def wpX9_extend_149 (rec : Nat → Nat → Int32 → Int32 → Int32 → Wd → (Wd → Prop) → Prop) (Q : Wd → Prop) (k36 : Nat → Nat → Int32 → Int32 → Int32 → Int32 → Wd → Prop) (v0 : Nat) (v1 : Nat) (v2 : Int32) (v3 : Int32) (v4 : Int32) (v5 : Int32) (G : Wd) : Prop := ∀ x1 : Int32, x1 = v5 + 1 → k36 v0 v1 v2 v3 v4 x1 G
def wpX9_extend_127 (rec : Nat → Nat → Int32 → Int32 → Int32 → Wd → (Wd → Prop) → Prop) (Q : Wd → Prop) (k36 : Nat → Nat → Int32 → Int32 → Int32 → Int32 → Wd → Prop) (v0 : Nat) (v1 : Nat) (v2 : Int32) (v3 : Int32) (v4 : Int32) (v5 : Int32) (v7 : Int32) (s0 : Nat) (s1 : Nat) (s2 : Int32) (G : Wd) : Prop := gK G s0 = 9 ∧ wpX9_take s0 s1 s2 v4 G (fun G4 => rec v0 v1 v7 (v3 ||| (1 <<< (v7 &&& 31))) (v4 + 1) G4 (fun G6 => wpX9_extend_149 rec Q k36 v0 v1 v2 v3 v4 v5 G6))
def wpX9_extend_36 (rec : Nat → Nat → Int32 → Int32 → Int32 → Wd → (Wd → Prop) → Prop) (Q : Wd → Prop) : Nat → Nat → Nat → Int32 → Int32 → Int32 → Int32 → Wd → Prop
  | 0, _, _, _, _, _, _, _ => False
  | n + 1, v0, v1, v2, v3, v4, v5, G => gK G v0 = 9 ∧ if (gI G v0 1) ≤ v5 then (Q G) else (if (gI G v0 4) = 0 then (∃ b8, gR G v0 0 = some b8 ∧ gK G b8 = 25 ∧ vp_in v5 (gN G b8) ∧ ∃ b12, gR G b8 (v5).toNatClampNeg = some b12 ∧ gK G b12 = 5 ∧ wpX5_across b12 v2 G (fun r15 G16 => if r15 < 0 then (wpX9_extend_149 rec Q (fun y0 y1 y2 y3 y4 y5 y6 => wpX9_extend_36 rec Q n y0 y1 y2 y3 y4 y5 y6) v0 v1 v2 v3 v4 v5 G16) else (if ((v3 >>> (r15 &&& 31)) &&& 1) = 0 then (gK G16 v0 = 9 ∧ ∃ b18, gR G16 v0 7 = some b18 ∧ gK G16 b18 = 20 ∧ vp_in r15 (gN G16 b18) ∧ if (gI G16 v0 10) < ((v4 + 1) + (gI G16 b18 (r15).toNatClampNeg)) then (wpX9_extend_149 rec Q (fun y0 y1 y2 y3 y4 y5 y6 => wpX9_extend_36 rec Q n y0 y1 y2 y3 y4 y5 y6) v0 v1 v2 v3 v4 v5 G16) else (gK G16 b12 = 5 ∧ if v2 = (gI G16 b12 2) then (wpX9_extend_127 rec Q (fun y0 y1 y2 y3 y4 y5 y6 => wpX9_extend_36 rec Q n y0 y1 y2 y3 y4 y5 y6) v0 v1 v2 v3 v4 v5 r15 v0 b12 0 G16) else (wpX9_extend_127 rec Q (fun y0 y1 y2 y3 y4 y5 y6 => wpX9_extend_36 rec Q n y0 y1 y2 y3 y4 y5 y6) v0 v1 v2 v3 v4 v5 r15 v0 b12 1 G16))) else (wpX9_extend_149 rec Q (fun y0 y1 y2 y3 y4 y5 y6 => wpX9_extend_36 rec Q n y0 y1 y2 y3 y4 y5 y6) v0 v1 v2 v3 v4 v5 G16)))) else (Q G))
def wpX9_extend : Nat → Nat → Nat → Int32 → Int32 → Int32 → Wd → (Wd → Prop) → Prop
  | 0, _, _, _, _, _, _, _ => False
  | d + 1, a0, a1, p2, p3, p4, G, Q => (fun rec : Nat → Nat → Int32 → Int32 → Int32 → Wd → (Wd → Prop) → Prop => gK G a0 = 9 ∧ if p2 = (gI G a0 8) then (∀ G25 : Wd, G25 = uI G a0 3 p4 → ((gK G25 a1 = 1 ∧ wpX0_arrived a1 a0 G25 (fun G27 => Q G27)) ∨ (gK G25 a1 = 7 ∧ wpX7_arrived a1 a0 G25 (fun G29 => Q G29)) ∨ (gK G25 a1 = 8 ∧ wpX8_arrived a1 a0 G25 (fun G31 => Q G31)) ∨ (gK G25 a1 = 4 ∧ wpX4_arrived a1 a0 G25 (fun G33 => Q G33)))) else (if p4 < (gI G a0 10) then (∀ x24 : Int32, x24 = gI G a0 9 → ∃ m, wpX9_extend_36 rec Q m a0 a1 p2 p3 p4 x24 G) else (Q G))) (fun a0 a1 p2 p3 p4 G Q => wpX9_extend d a0 a1 p2 p3 p4 G Q)
def rmX9_extend (d : Nat) : Room := { frames := 4 + d, cells := 0, slots := 0, locals := 105 + 27 * d }
set_option maxRecDepth 100000 in
def wpX9_seekWays (a0 : Nat) (p1 : Int32) (p2 : Int32) (a3 : Nat) (G : Wd) (Q : Wd → Prop) : Prop := gK G a0 = 9 ∧ wpX9_aim a0 p2 0 G (fun G3 => gK G3 a0 = 9 ∧ ∀ G5 : Wd, G5 = uI G3 a0 10 9 → wpX9_extend 12 a0 a3 p1 (1 <<< (p1 &&& 31)) 0 G5 (fun G7 => Q G7))
abbrev rmX9_seekWays : Room := { frames := 17, cells := 0, slots := 0, locals := 456 }
def wpX9_pickWay_64 (Q : Int32 → Wd → Prop) (v0 : Nat) (G : Wd) : Prop := gK G v0 = 9 ∧ isB (gI G v0 4) ∧ Q (gI G v0 4) G
def wpX9_pickWay_20 (Q : Int32 → Wd → Prop) : Nat → Nat → Int32 → Nat → Int32 → Wd → Prop
  | 0, _, _, _, _, _ => False
  | n + 1, v0, v1, v4, v5, G => if 9 < v5 then (wpX9_pickWay_64 Q v0 G) else (gK G v0 = 9 ∧ if (gI G v0 4) = 0 then (gK G v4 = 7 ∧ ∀ G4 : Wd, G4 = uI G v4 0 v5 → ∀ G6 : Wd, G6 = uI G4 v0 10 v5 → wpX9_extend 12 v0 v4 v1 (1 <<< (v1 &&& 31)) 0 G6 (fun G8 => ∀ x9 : Int32, x9 = v5 + 1 → wpX9_pickWay_20 Q n v0 v1 v4 x9 G8)) else (wpX9_pickWay_64 Q v0 G))
set_option maxRecDepth 100000 in
def wpX9_pickWay (a0 : Nat) (p1 : Int32) (p2 : Int32) (p3 : Int32) (a4 : Nat) (G : Wd) (Q : Int32 → Wd → Prop) : Prop := gK G a0 = 9 ∧ wpX9_aim a0 p2 0 G (fun G12 => gK G12 a4 = 7 ∧ ∀ G14 : Wd, G14 = uI G12 a4 1 p3 → gK G14 a0 = 9 ∧ ∃ b16, gR G14 a0 7 = some b16 ∧ gK G14 b16 = 20 ∧ vp_in p1 (gN G14 b16) ∧ ∀ x20 : Int32, x20 = gI G14 b16 (p1).toNatClampNeg → ∃ m, wpX9_pickWay_20 Q m a0 p1 a4 x20 G14)
abbrev rmX9_pickWay : Room := { frames := 17, cells := 0, slots := 0, locals := 456 }
def wpX9_seekRings_120 (Q : Wd → Prop) (k7 : Nat → Nat → Int32 → Wd → Prop) (v0 : Nat) (v1 : Nat) (v2 : Int32) (G : Wd) : Prop := ∀ x1 : Int32, x1 = v2 + 1 → k7 v0 v1 x1 G
def wpX9_seekRings_86 (Q : Wd → Prop) (k7 : Nat → Nat → Int32 → Wd → Prop) (v0 : Nat) (v1 : Nat) (v2 : Int32) (v3 : Nat) (v4 : Int32) (v5 : Int32) (s0 : Nat) (s1 : Int32) (G : Wd) : Prop := gK G s0 = 9 ∧ wpX9_aim s0 s1 ((v2 / 2) + 1) G (fun G4 => gK G4 v0 = 9 ∧ ∀ G6 : Wd, G6 = uI G4 v0 10 10 → wpX9_take v0 v3 v4 0 G6 (fun G9 => wpX9_extend 12 v0 v1 v5 (1 <<< (v5 &&& 31)) 1 G9 (fun G11 => wpX9_seekRings_120 Q k7 v0 v1 v2 G11)))
def wpX9_seekRings_67 (Q : Wd → Prop) (k7 : Nat → Nat → Int32 → Wd → Prop) (v0 : Nat) (v1 : Nat) (v2 : Int32) (v3 : Nat) (v4 : Int32) (s0 : Int32) (G : Wd) : Prop := if v4 = 0 then (gK G v3 = 5 ∧ wpX9_seekRings_86 Q k7 v0 v1 v2 v3 v4 s0 v0 (gI G v3 2) G) else (gK G v3 = 5 ∧ wpX9_seekRings_86 Q k7 v0 v1 v2 v3 v4 s0 v0 (gI G v3 3) G)
def wpX9_seekRings_49 (Q : Wd → Prop) (k7 : Nat → Nat → Int32 → Wd → Prop) (v0 : Nat) (v1 : Nat) (v2 : Int32) (v3 : Nat) (s0 : Int32) (G : Wd) : Prop := if s0 = 0 then (gK G v3 = 5 ∧ wpX9_seekRings_67 Q k7 v0 v1 v2 v3 s0 (gI G v3 3) G) else (gK G v3 = 5 ∧ wpX9_seekRings_67 Q k7 v0 v1 v2 v3 s0 (gI G v3 2) G)
def wpX9_seekRings_7 (Q : Wd → Prop) : Nat → Nat → Nat → Int32 → Wd → Prop
  | 0, _, _, _, _ => False
  | n + 1, v0, v1, v2, G => gK G v0 = 9 ∧ if (2 * (gI G v0 1)) ≤ v2 then (Q G) else (if (gI G v0 4) = 0 then (∃ b17, gR G v0 0 = some b17 ∧ gK G b17 = 25 ∧ vp_in (v2 / 2) (gN G b17) ∧ ∃ b21, gR G b17 ((v2 / 2)).toNatClampNeg = some b21 ∧ if (v2 % 2) = 1 then (wpX9_seekRings_49 Q (fun y0 y1 y2 y3 => wpX9_seekRings_7 Q n y0 y1 y2 y3) v0 v1 v2 b21 1 G) else (wpX9_seekRings_49 Q (fun y0 y1 y2 y3 => wpX9_seekRings_7 Q n y0 y1 y2 y3) v0 v1 v2 b21 0 G)) else (Q G))
set_option maxRecDepth 100000 in
def wpX9_seekRings (a0 : Nat) (a1 : Nat) (G : Wd) (Q : Wd → Prop) : Prop := gK G a0 = 9 ∧ ∀ G24 : Wd, G24 = uI G a0 4 0 → ∃ m, wpX9_seekRings_7 Q m a0 a1 0 G24
abbrev rmX9_seekRings : Room := { frames := 17, cells := 0, slots := 0, locals := 456 }
set_option maxRecDepth 100000 in
theorem sX4_init {l : Launch} {D : Dx} {a0 : Nat} {G : Wd} {Q : Wd → Prop} (hw : wpX4_init a0 G Q) : Met l yX4_init (wM yX4_init cX4_init 1 none) rmX4_init (PM D [.ref a0] G) (QMv D Q) 4 1068 (Ab D) := by
  refine v_met (by decide) (Nat.le_of_ble_eq_true rfl) (fun X hl hR F => ?_)
  subst hl
  have F : Fx X D cX4_init 1 RX4 none "<init>" := F
  refine v_cast (L' := [(0, .ref a0)]) rfl rfl ?_
  unfold wpX4_init at hw
  refine v_aload_n F dX4_init_0 rfl 0 rfl ?_
  refine v_callv (r_N F ln_X4_3 (sX3_init hw) (mkRm hR rfl rfl rfl rfl rfl rfl) rfl rfl (Nat.le_of_ble_eq_true rfl) dX4_init_1) (fun G2 hw => ?_)
  refine v_aload_n F dX4_init_4 rfl 0 rfl ?_
  refine v_bipush (v := 10) F dX4_init_5 (by decide) ?_
  refine v_newaI (N := 10) F wd_125 (by decide) (by decide) (by decide) (by rw [hR]; exact Nat.le_of_ble_eq_true rfl) (by rw [hR]; exact Nat.le_of_ble_eq_true rfl) dX4_init_7 ?_
  generalize hz4 : gZ G2 = z4
  refine v_nmG (fun G3 hG3 => ?_)
  have hw := hw z4 G3 hz4.symm hG3
  obtain ⟨kd5, hw⟩ := hw
  refine v_putR F fl_X4_9 (fun _ => rfl) ⟨rfl, rfl, fun _ => rfl⟩ kd5 dX4_init_9 ?_
  refine v_nmG (fun G6 hG6 => ?_)
  have hw := hw G6 hG6
  refine v_aload_n F dX4_init_12 rfl 0 rfl ?_
  refine v_bipush (v := 10) F dX4_init_13 (by decide) ?_
  refine v_anew (t := 5) (N := 10) F rfl (by decide +kernel) wd_240 (by decide) (by decide) (by decide) (by rw [hR]; exact Nat.le_of_ble_eq_true rfl) (by rw [hR]; exact Nat.le_of_ble_eq_true rfl) dX4_init_15 ?_
  generalize hz8 : gZ G6 = z8
  refine v_nmG (fun G7 hG7 => ?_)
  have hw := hw z8 G7 hz8.symm hG7
  obtain ⟨kd9, hw⟩ := hw
  refine v_putR F fl_X4_17 (fun _ => rfl) ⟨rfl, rfl, fun _ => rfl⟩ kd9 dX4_init_18 ?_
  refine v_nmG (fun G10 hG10 => ?_)
  have hw := hw G10 hG10
  refine v_aload_n F dX4_init_21 rfl 0 rfl ?_
  refine v_bipush (v := 24) F dX4_init_22 (by decide) ?_
  refine v_newaI (N := 24) F wd_125 (by decide) (by decide) (by decide) (by rw [hR]; exact Nat.le_of_ble_eq_true rfl) (by rw [hR]; exact Nat.le_of_ble_eq_true rfl) dX4_init_24 ?_
  generalize hz12 : gZ G10 = z12
  refine v_nmG (fun G11 hG11 => ?_)
  have hw := hw z12 G11 hz12.symm hG11
  obtain ⟨kd13, hw⟩ := hw
  refine v_putR F fl_X4_21 (fun _ => rfl) ⟨rfl, rfl, fun _ => rfl⟩ kd13 dX4_init_26 ?_
  refine v_nmG (fun G14 hG14 => ?_)
  have hw := hw G14 hG14
  refine v_aload_n F dX4_init_29 rfl 0 rfl ?_
  refine v_sipush (v := 1024) F dX4_init_30 (by decide) ?_
  refine v_newaZ (N := 1024) F wd_266 (by decide) (by decide) (by decide) (by rw [hR]; exact Nat.le_of_ble_eq_true rfl) (by rw [hR]; exact Nat.le_of_ble_eq_true rfl) dX4_init_33 ?_
  generalize hz16 : gZ G14 = z16
  refine v_nmG (fun G15 hG15 => ?_)
  have hw := hw z16 G15 hz16.symm hG15
  obtain ⟨kd17, hw⟩ := hw
  refine v_putR F fl_X4_24 (fun _ => rfl) ⟨rfl, rfl, fun _ => rfl⟩ kd17 dX4_init_35 ?_
  refine v_nmG (fun G18 hG18 => ?_)
  have hw := hw G18 hG18
  refine v_widen (c' := 4) (s' := 1068) (by decide) (by decide) ?_
  exact v_vret F hw dX4_init_38
set_option maxRecDepth 100000 in
theorem sX4_begin {l : Launch} {D : Dx} {a0 : Nat} {G : Wd} {Q : Wd → Prop} (hw : wpX4_begin a0 G Q) : Met l yX4_begin (wM yX4_begin cX4_begin 1 none) rmX4_begin (PM D [.ref a0] G) (QMv D Q) 0 0 (Ab D) := by
  refine v_met (by decide) (Nat.le_of_ble_eq_true rfl) (fun X hl hR F => ?_)
  subst hl
  have F : Fx X D cX4_begin 1 RX4 none "begin" := F
  refine v_cast (L' := [(0, .ref a0)]) rfl rfl ?_
  unfold wpX4_begin at hw
  refine v_aload_n F dX4_begin_0 rfl 0 rfl ?_
  refine v_iconst (v := 0) F dX4_begin_1 (by decide) ?_
  obtain ⟨kd1, hw⟩ := hw
  refine v_putI F fl_X4_28 (fun h => absurd h (by decide)) rfl kd1 dX4_begin_2 ?_
  refine v_nmG (fun G2 hG2 => ?_)
  have hw := hw G2 hG2
  refine v_aload_n F dX4_begin_5 rfl 0 rfl ?_
  refine v_iconst (v := 0) F dX4_begin_6 (by decide) ?_
  have kd3 : gK G2 a0 = 4 := by rw [hG2]; exact kd1
  refine v_putZ F fl_X4_32 (fun h => absurd h (by decide)) rfl (Or.inl rfl) kd3 dX4_begin_7 ?_
  refine v_nmG (fun G4 hG4 => ?_)
  have hw := hw G4 hG4
  refine v_aload_n F dX4_begin_10 rfl 0 rfl ?_
  refine v_iconst (v := 0) F dX4_begin_11 (by decide) ?_
  have kd5 : gK G4 a0 = 4 := by rw [hG4]; exact kd3
  refine v_putI F fl_X4_36 (fun h => absurd h (by decide)) rfl kd5 dX4_begin_12 ?_
  refine v_nmG (fun G6 hG6 => ?_)
  have hw := hw G6 hG6
  refine v_aload_n F dX4_begin_15 rfl 0 rfl ?_
  have kd7 : gK G6 a0 = 4 := by rw [hG6]; exact kd5
  obtain ⟨b8, hr9, hw⟩ := hw
  refine v_getS F fl_X4_21 (fun _ => rfl) kd7 hr9 dX4_begin_16 ?_
  refine v_iconst (v := 0) F dX4_begin_19 (by decide) ?_
  refine v_callv (r_S F ls_X4_39 (sJ7_fill_53178 hw) (mkRm hR rfl rfl rfl rfl rfl rfl) rfl rfl (Nat.le_of_ble_eq_true rfl) dX4_begin_20) (fun G11 hw => ?_)
  refine v_widen (c' := 0) (s' := 0) (by decide) (by decide) ?_
  exact v_vret F hw dX4_begin_23
set_option maxRecDepth 100000 in
theorem sbX4_choose_83 {X : Cx} {D : Dx} (hR : X.2.2.2.1 = rmX4_choose) (F : Fx X D cX4_choose 4 RX4 (some .boolean) "choose") {Q : Int32 → Wd → Prop} : ∀ (n : Nat) (v0 : Nat) (v2 : Int32) (G : Wd), wpX4_choose_83 Q  n v0 v2 G → V X D 4 (ZM X D (QMi D Q) 0 0) G 0 0 83 [(0, .ref v0), (2, .int v2)] [] := by
  intro n
  induction n with
  | zero => intro v0 v2 G hw; exact hw.elim
  | succ n ih =>
    intro v0 v2 G hw
    simp only [wpX4_choose_83] at hw
    refine v_iload_n F dX4_choose_83 rfl 1 rfl ?_
    refine v_iconst (v := 1) F dX4_choose_84 (by decide) ?_
    refine v_aload_n F dX4_choose_85 rfl 0 rfl ?_
    obtain ⟨kd1, hw⟩ := hw
    refine v_get F fl_X4_36 kd1 rfl dX4_choose_86 ?_
    refine v_ishl F dX4_choose_89 ?_
    refine v_icmp_ge (tgt := 106) F dX4_choose_90 (by decide) (fun h => ?_) (fun h => ?_)
    · rw [if_pos h] at hw
      refine v_iconst (v := 1) F dX4_choose_106 (by decide) ?_
      exact v_zret F (Or.inr rfl) hw dX4_choose_107
    · rw [if_neg h] at hw
      refine v_aload_n F dX4_choose_93 rfl 0 rfl ?_
      obtain ⟨b2, hr3, hw⟩ := hw
      refine v_getS F fl_X4_24 (fun _ => rfl) kd1 hr3 dX4_choose_94 ?_
      refine v_iload_n F dX4_choose_97 rfl 1 rfl ?_
      refine v_iconst (v := 0) F dX4_choose_98 (by decide) ?_
      obtain ⟨kd4, hw⟩ := hw
      obtain ⟨hi5, hw⟩ := hw
      refine v_zastE F rfl (Or.inl rfl) kd4 hi5 dX4_choose_99 (fun G6 hG6 => ?_)
      have hw := hw G6 hG6
      refine v_iincN (c := 1) F dX4_choose_100 1 rfl (by decide) (by decide) (fun x7 hx7 => ?_)
      refine v_cast (L' := [(2, .int x7), (0, .ref v0)]) rfl rfl ?_
      have hw := hw x7 hx7
      refine v_goto (tgt := 83) F dX4_choose_103 (by decide) ?_
      exact v_loc [1, 0] rfl (ih _ _ _ hw)
set_option maxRecDepth 100000 in
theorem sbX4_choose_75 {X : Cx} {D : Dx} (hR : X.2.2.2.1 = rmX4_choose) (F : Fx X D cX4_choose 4 RX4 (some .boolean) "choose") {Q : Int32 → Wd → Prop} {k2 : Nat → Nat → Int32 → Wd → Prop} (hk2 : ∀ v0 v1 v2 G, k2 v0 v1 v2 G → V X D 4 (ZM X D (QMi D Q) 0 0) G 0 0 2 [(0, .ref v0), (1, .ref v1), (2, .int v2)] []) {v0 : Nat} {v1 : Nat} {v2 : Int32} {G : Wd} (hw : wpX4_choose_75 Q k2 v0 v1 v2 G) : V X D 4 (ZM X D (QMi D Q) 0 0) G 0 0 75 [(0, .ref v0), (1, .ref v1), (2, .int v2)] [] := by
  unfold wpX4_choose_75 at hw
  refine v_iincN (c := 1) F dX4_choose_75 2 rfl (by decide) (by decide) (fun x8 hx8 => ?_)
  refine v_cast (L' := [(2, .int x8), (0, .ref v0), (1, .ref v1)]) rfl rfl ?_
  have hw := hw x8 hx8
  refine v_goto (tgt := 2) F dX4_choose_78 (by decide) ?_
  exact v_loc [1, 2, 0] rfl (hk2 _ _ _ _ hw)
set_option maxRecDepth 100000 in
theorem sbX4_choose_2 {X : Cx} {D : Dx} (hR : X.2.2.2.1 = rmX4_choose) (F : Fx X D cX4_choose 4 RX4 (some .boolean) "choose") {Q : Int32 → Wd → Prop} : ∀ (n : Nat) (v0 : Nat) (v1 : Nat) (v2 : Int32) (G : Wd), wpX4_choose_2 Q  n v0 v1 v2 G → V X D 4 (ZM X D (QMi D Q) 0 0) G 0 0 2 [(0, .ref v0), (1, .ref v1), (2, .int v2)] [] := by
  intro n
  induction n with
  | zero => intro v0 v1 v2 G hw; exact hw.elim
  | succ n ih =>
    intro v0 v1 v2 G hw
    simp only [wpX4_choose_2] at hw
    refine v_iload_n F dX4_choose_2 rfl 2 rfl ?_
    refine v_aload_n F dX4_choose_3 rfl 1 rfl ?_
    obtain ⟨kd9, hw⟩ := hw
    refine v_get F fl_X4_45 kd9 rfl dX4_choose_4 ?_
    refine v_icmp_ge (tgt := 81) F dX4_choose_7 (by decide) (fun h => ?_) (fun h => ?_)
    · rw [if_pos h] at hw
      refine v_iconst (v := 0) F dX4_choose_81 (by decide) ?_
      refine v_istore_n (L' := [(2, .int 0), (0, .ref v0), (1, .ref v1)]) F dX4_choose_82 rfl (by decide) rfl ?_
      obtain ⟨m, hw⟩ := hw
      exact v_loc [1, 0] rfl (sbX4_choose_83 hR F  m _ _ _ hw)
    · rw [if_neg h] at hw
      refine v_aload_n F dX4_choose_10 rfl 1 rfl ?_
      obtain ⟨b10, hr11, hw⟩ := hw
      refine v_getSG F fl_X4_50 (fun _ => rfl) kd9 hr11 dX4_choose_11 ?_
      refine v_iload_n F dX4_choose_14 rfl 2 rfl ?_
      obtain ⟨kd12, hw⟩ := hw
      obtain ⟨hi13, hw⟩ := hw
      obtain ⟨b14, hr15, hw⟩ := hw
      refine v_aaldS (t := 5) F rfl rfl kd12 hi13 hr15 dX4_choose_15 ?_
      refine v_astore_n (L' := [(3, .ref b14), (0, .ref v0), (1, .ref v1), (2, .int v2)]) F dX4_choose_16 rfl (by decide) rfl ?_
      refine v_aload_n F dX4_choose_17 rfl 0 rfl ?_
      refine v_ifnull (r := some b14) (tgt := 75) F dX4_choose_18 (by decide) (fun h => nomatch h) (fun _ _ => ?_)
      refine v_aload_n F dX4_choose_21 rfl 0 rfl ?_
      refine v_iconst (v := 2) F dX4_choose_22 (by decide) ?_
      obtain ⟨kd16, hw⟩ := hw
      refine v_calli (r_V F lk_X4_53 kd16 (sX5_is hw) (mkRm hR rfl rfl rfl rfl rfl rfl) rfl rfl (Nat.le_of_ble_eq_true rfl) dX4_choose_23) (fun r17 G18 hw => ?_)
      refine v_if_eq (tgt := 75) F dX4_choose_26 (by decide) (fun h => ?_) (fun h => ?_)
      · rw [if_pos h] at hw
        exact v_loc [1, 2, 3] rfl (sbX4_choose_75 hR F ih hw)
      · rw [if_neg h] at hw
        refine v_aload_n F dX4_choose_29 rfl 1 rfl ?_
        obtain ⟨kd19, hw⟩ := hw
        refine v_get F fl_X4_36 kd19 rfl dX4_choose_30 ?_
        refine v_bipush (v := 10) F dX4_choose_33 (by decide) ?_
        refine v_icmp_lt (tgt := 40) F dX4_choose_35 (by decide) (fun h => ?_) (fun h => ?_)
        · rw [if_pos h] at hw
          refine v_aload_n F dX4_choose_40 rfl 1 rfl ?_
          obtain ⟨b20, hr21, hw⟩ := hw
          refine v_getS F fl_X4_21 (fun _ => rfl) kd19 hr21 dX4_choose_41 ?_
          refine v_aload_n F dX4_choose_44 rfl 0 rfl ?_
          obtain ⟨kd22, hw⟩ := hw
          refine v_getG F fl_X4_57 kd22 rfl dX4_choose_45 ?_
          refine v_iconst (v := 1) F dX4_choose_48 (by decide) ?_
          refine v_aload_n F dX4_choose_49 rfl 1 rfl ?_
          refine v_get F fl_X4_36 kd19 rfl dX4_choose_50 ?_
          refine v_ishl F dX4_choose_53 ?_
          obtain ⟨kd23, hw⟩ := hw
          obtain ⟨hi24, hw⟩ := hw
          refine v_iastE F rfl kd23 hi24 dX4_choose_54 (fun G25 hG25 => ?_)
          have hw := hw G25 hG25
          refine v_aload_n F dX4_choose_55 rfl 1 rfl ?_
          have kd26 : gK G25 v0 = 4 := by rw [hG25]; exact kd19
          obtain ⟨b27, hr28, hw⟩ := hw
          refine v_getS F fl_X4_17 (fun _ => rfl) kd26 hr28 dX4_choose_56 ?_
          refine v_aload_n F dX4_choose_59 rfl 1 rfl ?_
          refine v_get F fl_X4_36 kd26 rfl dX4_choose_60 ?_
          refine v_aload_n F dX4_choose_63 rfl 0 rfl ?_
          obtain ⟨kd29, hw⟩ := hw
          have kd32 : gK G25 b14 = 5 := by rw [hG25]; exact kd22
          obtain ⟨hi30, hw⟩ := hw
          refine v_aastE (t := 5) (ci := 4) F rfl rfl rfl kd29 kd32 hi30 dX4_choose_64 (fun G31 hG31 => ?_)
          have hw := hw G31 hG31
          refine v_aload_n F dX4_choose_65 rfl 1 rfl ?_
          refine v_dup F dX4_choose_66 rfl ?_
          have kd33 : gK G31 v0 = 4 := by rw [hG31]; exact kd26
          refine v_get F fl_X4_36 kd33 rfl dX4_choose_67 ?_
          refine v_iconst (v := 1) F dX4_choose_70 (by decide) ?_
          refine v_iadd F dX4_choose_71 ?_
          refine v_putI F fl_X4_36 (fun h => absurd h (by decide)) rfl kd33 dX4_choose_72 ?_
          refine v_nmG (fun G34 hG34 => ?_)
          have hw := hw G34 hG34
          exact v_loc [1, 2, 3] rfl (sbX4_choose_75 hR F ih hw)
        · rw [if_neg h] at hw
          refine v_iconst (v := 0) F dX4_choose_38 (by decide) ?_
          refine v_widen (c' := 0) (s' := 0) (by decide) (by decide) ?_
          exact v_zret F (Or.inl rfl) hw dX4_choose_39
set_option maxRecDepth 100000 in
theorem sX4_choose {l : Launch} {D : Dx} {a0 : Nat} {a1 : Nat} {G : Wd} {Q : Int32 → Wd → Prop} (hw : wpX4_choose a0 a1 G Q) : Met l yX4_choose (wM yX4_choose cX4_choose 4 (some .boolean)) rmX4_choose (PM D [.ref a0, .ref a1] G) (QMi D Q) 0 0 (Ab D) := by
  refine v_met (by decide) (Nat.le_of_ble_eq_true rfl) (fun X hl hR F => ?_)
  subst hl
  have F : Fx X D cX4_choose 4 RX4 (some .boolean) "choose" := F
  refine v_cast (L' := [(0, .ref a0), (1, .ref a1)]) rfl rfl ?_
  unfold wpX4_choose at hw
  refine v_iconst (v := 0) F dX4_choose_0 (by decide) ?_
  refine v_istore_n (L' := [(2, .int 0), (0, .ref a0), (1, .ref a1)]) F dX4_choose_1 rfl (by decide) rfl ?_
  obtain ⟨m, hw⟩ := hw
  exact v_loc [1, 2, 0] rfl (sbX4_choose_2 hR F  m _ _ _ _ hw)
set_option maxRecDepth 100000 in
theorem sX9_low {l : Launch} {D : Dx} {a0 : Nat} {G : Wd} {Q : Option Nat → Wd → Prop} (hw : wpX9_low a0 G Q) : Met l yX9_low (wM yX9_low cX9_low 1 (some (.object "OldReckoner$Fraction"))) rmX9_low (PM D [.ref a0] G) (QMq D Q) 0 0 (Ab D) := by
  refine v_met (by decide) (Nat.le_of_ble_eq_true rfl) (fun X hl hR F => ?_)
  subst hl
  have F : Fx X D cX9_low 1 RX9 (some (.object "OldReckoner$Fraction")) "low" := F
  refine v_cast (L' := [(0, .ref a0)]) rfl rfl ?_
  unfold wpX9_low at hw
  refine v_aload_n F dX9_low_0 rfl 0 rfl ?_
  obtain ⟨kd1, hw⟩ := hw
  obtain ⟨b2, hr3, hw⟩ := hw
  refine v_getS F fl_X9_23 (fun _ => rfl) kd1 hr3 dX9_low_1 ?_
  refine v_aload_n F dX9_low_4 rfl 0 rfl ?_
  refine v_get F fl_X9_42 kd1 rfl dX9_low_5 ?_
  obtain ⟨kd4, hw⟩ := hw
  obtain ⟨hi5, hw⟩ := hw
  obtain ⟨b6, hr7, hw⟩ := hw
  refine v_aaldS (t := 4) F rfl rfl kd4 hi5 hr7 dX9_low_8 ?_
  exact v_qret F hw dX9_low_9
set_option maxRecDepth 100000 in
theorem sX9_high {l : Launch} {D : Dx} {a0 : Nat} {G : Wd} {Q : Option Nat → Wd → Prop} (hw : wpX9_high a0 G Q) : Met l yX9_high (wM yX9_high cX9_high 1 (some (.object "OldReckoner$Fraction"))) rmX9_high (PM D [.ref a0] G) (QMq D Q) 0 0 (Ab D) := by
  refine v_met (by decide) (Nat.le_of_ble_eq_true rfl) (fun X hl hR F => ?_)
  subst hl
  have F : Fx X D cX9_high 1 RX9 (some (.object "OldReckoner$Fraction")) "high" := F
  refine v_cast (L' := [(0, .ref a0)]) rfl rfl ?_
  unfold wpX9_high at hw
  refine v_aload_n F dX9_high_0 rfl 0 rfl ?_
  obtain ⟨kd1, hw⟩ := hw
  obtain ⟨b2, hr3, hw⟩ := hw
  refine v_getS F fl_X9_27 (fun _ => rfl) kd1 hr3 dX9_high_1 ?_
  refine v_aload_n F dX9_high_4 rfl 0 rfl ?_
  refine v_get F fl_X9_42 kd1 rfl dX9_high_5 ?_
  obtain ⟨kd4, hw⟩ := hw
  obtain ⟨hi5, hw⟩ := hw
  obtain ⟨b6, hr7, hw⟩ := hw
  refine v_aaldS (t := 4) F rfl rfl kd4 hi5 hr7 dX9_high_8 ?_
  exact v_qret F hw dX9_high_9
set_option maxRecDepth 100000 in
theorem sX9_numberAt {l : Launch} {D : Dx} {a0 : Nat} {p1 : Int32} {G : Wd} {Q : Int32 → Wd → Prop} (hw : wpX9_numberAt a0 p1 G Q) : Met l yX9_numberAt (wM yX9_numberAt cX9_numberAt 2 (some .int)) rmX9_numberAt (PM D [.ref a0, .int p1] G) (QMi D Q) 0 0 (Ab D) := by
  refine v_met (by decide) (Nat.le_of_ble_eq_true rfl) (fun X hl hR F => ?_)
  subst hl
  have F : Fx X D cX9_numberAt 2 RX9 (some .int) "numberAt" := F
  refine v_cast (L' := [(0, .ref a0), (1, .int p1)]) rfl rfl ?_
  unfold wpX9_numberAt at hw
  refine v_aload_n F dX9_numberAt_0 rfl 0 rfl ?_
  obtain ⟨kd1, hw⟩ := hw
  obtain ⟨b2, hr3, hw⟩ := hw
  refine v_getS F fl_X9_17 (fun _ => rfl) kd1 hr3 dX9_numberAt_1 ?_
  refine v_iload_n F dX9_numberAt_4 rfl 1 rfl ?_
  obtain ⟨kd4, hw⟩ := hw
  obtain ⟨hi5, hw⟩ := hw
  refine v_ialdE F rfl kd4 hi5 dX9_numberAt_5 ?_
  refine v_bipush (v := 100) F dX9_numberAt_6 (by decide) ?_
  refine v_iremE F dX9_numberAt_8 (by decide) ?_
  exact v_iret F hw dX9_numberAt_9
set_option maxRecDepth 100000 in
theorem sbX4_choicesIn_4 {X : Cx} {D : Dx} (hR : X.2.2.2.1 = rmX4_choicesIn) (F : Fx X D cX4_choicesIn 4 RX4 (some .int) "choicesIn") {Q : Int32 → Wd → Prop} : ∀ (n : Nat) (v0 : Nat) (v1 : Nat) (v2 : Int32) (v3 : Int32) (G : Wd), wpX4_choicesIn_4 Q  n v0 v1 v2 v3 G → V X D 4 (ZM X D (QMi D Q) 0 0) G 0 0 4 [(0, .ref v0), (1, .ref v1), (2, .int v2), (3, .int v3)] [] := by
  intro n
  induction n with
  | zero => intro v0 v1 v2 v3 G hw; exact hw.elim
  | succ n ih =>
    intro v0 v1 v2 v3 G hw
    simp only [wpX4_choicesIn_4] at hw
    refine v_iload_n F dX4_choicesIn_4 rfl 3 rfl ?_
    refine v_aload_n F dX4_choicesIn_5 rfl 1 rfl ?_
    obtain ⟨kd1, hw⟩ := hw
    refine v_get F fl_X4_85 kd1 rfl dX4_choicesIn_6 ?_
    refine v_icmp_ge (tgt := 31) F dX4_choicesIn_9 (by decide) (fun h => ?_) (fun h => ?_)
    · rw [if_pos h] at hw
      refine v_iload_n F dX4_choicesIn_31 rfl 2 rfl ?_
      exact v_iret F hw dX4_choicesIn_32
    · rw [if_neg h] at hw
      refine v_iload_n F dX4_choicesIn_12 rfl 2 rfl ?_
      refine v_aload_n F dX4_choicesIn_13 rfl 0 rfl ?_
      obtain ⟨kd2, hw⟩ := hw
      obtain ⟨b3, hr4, hw⟩ := hw
      refine v_getS F fl_X4_21 (fun _ => rfl) kd2 hr4 dX4_choicesIn_14 ?_
      refine v_aload_n F dX4_choicesIn_17 rfl 1 rfl ?_
      refine v_iload_n F dX4_choicesIn_18 rfl 3 rfl ?_
      refine v_calli (r_V F lk_X4_93 kd1 (sX9_numberAt hw) (mkRm hR rfl rfl rfl rfl rfl rfl) rfl rfl (Nat.le_of_ble_eq_true rfl) dX4_choicesIn_19) (fun r5 G6 hw => ?_)
      obtain ⟨kd7, hw⟩ := hw
      obtain ⟨hi8, hw⟩ := hw
      refine v_ialdE F rfl kd7 hi8 dX4_choicesIn_22 ?_
      refine v_ior F dX4_choicesIn_23 ?_
      refine v_topi (fun x9 hx9 => ?_)
      have hw := hw x9 hx9
      refine v_istore_n (L' := [(2, .int x9), (0, .ref v0), (1, .ref v1), (3, .int v3)]) F dX4_choicesIn_24 rfl (by decide) rfl ?_
      refine v_iincN (c := 1) F dX4_choicesIn_25 3 rfl (by decide) (by decide) (fun x10 hx10 => ?_)
      refine v_cast (L' := [(3, .int x10), (2, .int x9), (0, .ref v0), (1, .ref v1)]) rfl rfl ?_
      have hw := hw x10 hx10
      refine v_goto (tgt := 4) F dX4_choicesIn_28 (by decide) ?_
      exact v_loc [2, 3, 1, 0] rfl (ih _ _ _ _ _ hw)
set_option maxRecDepth 100000 in
theorem sX4_choicesIn {l : Launch} {D : Dx} {a0 : Nat} {a1 : Nat} {G : Wd} {Q : Int32 → Wd → Prop} (hw : wpX4_choicesIn a0 a1 G Q) : Met l yX4_choicesIn (wM yX4_choicesIn cX4_choicesIn 4 (some .int)) rmX4_choicesIn (PM D [.ref a0, .ref a1] G) (QMi D Q) 0 0 (Ab D) := by
  refine v_met (by decide) (Nat.le_of_ble_eq_true rfl) (fun X hl hR F => ?_)
  subst hl
  have F : Fx X D cX4_choicesIn 4 RX4 (some .int) "choicesIn" := F
  refine v_cast (L' := [(0, .ref a0), (1, .ref a1)]) rfl rfl ?_
  unfold wpX4_choicesIn at hw
  refine v_iconst (v := 0) F dX4_choicesIn_0 (by decide) ?_
  refine v_istore_n (L' := [(2, .int 0), (0, .ref a0), (1, .ref a1)]) F dX4_choicesIn_1 rfl (by decide) rfl ?_
  refine v_iconst (v := 0) F dX4_choicesIn_2 (by decide) ?_
  refine v_istore_n (L' := [(3, .int 0), (2, .int 0), (0, .ref a0), (1, .ref a1)]) F dX4_choicesIn_3 rfl (by decide) rfl ?_
  obtain ⟨m, hw⟩ := hw
  exact v_loc [2, 3, 1, 0] rfl (sbX4_choicesIn_4 hR F  m _ _ _ _ _ hw)
set_option maxRecDepth 100000 in
theorem sbX4_isAhead_30 {X : Cx} {D : Dx} (hR : X.2.2.2.1 = rmX4_isAhead) (F : Fx X D cX4_isAhead 4 RX4 (some .boolean) "isAhead") {Q : Int32 → Wd → Prop} : ∀ (n : Nat) (v0 : Nat) (v1 : Nat) (v2 : Int32) (G : Wd), wpX4_isAhead_30 Q  n v0 v1 v2 G → V X D 4 (ZM X D (QMi D Q) 0 0) G 0 0 30 [(0, .ref v0), (1, .ref v1), (2, .int v2)] [] := by
  intro n
  induction n with
  | zero => intro v0 v1 v2 G hw; exact hw.elim
  | succ n ih =>
    intro v0 v1 v2 G hw
    simp only [wpX4_isAhead_30] at hw
    refine v_iload_n F dX4_isAhead_30 rfl 2 rfl ?_
    refine v_aload_n F dX4_isAhead_31 rfl 0 rfl ?_
    obtain ⟨kd1, hw⟩ := hw
    refine v_get F fl_X4_28 kd1 rfl dX4_isAhead_32 ?_
    refine v_icmp_ge (tgt := 78) F dX4_isAhead_35 (by decide) (fun h => ?_) (fun h => ?_)
    · rw [if_pos h] at hw
      refine v_iconst (v := 0) F dX4_isAhead_78 (by decide) ?_
      exact v_zret F (Or.inl rfl) hw dX4_isAhead_79
    · rw [if_neg h] at hw
      refine v_aload_n F dX4_isAhead_38 rfl 0 rfl ?_
      obtain ⟨b2, hr3, hw⟩ := hw
      refine v_getS F fl_X4_9 (fun _ => rfl) kd1 hr3 dX4_isAhead_39 ?_
      refine v_iload_n F dX4_isAhead_42 rfl 2 rfl ?_
      obtain ⟨kd4, hw⟩ := hw
      obtain ⟨hi5, hw⟩ := hw
      refine v_ialdE F rfl kd4 hi5 dX4_isAhead_43 ?_
      refine v_bipush (v := 100) F dX4_isAhead_44 (by decide) ?_
      refine v_iremE F dX4_isAhead_46 (by decide) ?_
      refine v_topi (fun x6 hx6 => ?_)
      have hw := hw x6 hx6
      refine v_istore_n (L' := [(3, .int x6), (0, .ref v0), (1, .ref v1), (2, .int v2)]) F dX4_isAhead_47 rfl (by decide) rfl ?_
      refine v_aload_n F dX4_isAhead_48 rfl 2 rfl ?_
      refine v_iload_n F dX4_isAhead_49 rfl 3 rfl ?_
      obtain ⟨kd7, hw⟩ := hw
      refine v_calli (r_V F lk_X4_93 kd7 (sX9_numberAt hw) (mkRm hR rfl rfl rfl rfl rfl rfl) rfl rfl (Nat.le_of_ble_eq_true rfl) dX4_isAhead_50) (fun r8 G9 hw => ?_)
      refine v_iload_n F dX4_isAhead_53 rfl 0 rfl ?_
      refine v_icmp_eq (tgt := 72) F dX4_isAhead_54 (by decide) (fun h => ?_) (fun h => ?_)
      · rw [if_pos h] at hw
        refine v_iincN (c := 1) F dX4_isAhead_72 3 rfl (by decide) (by decide) (fun x10 hx10 => ?_)
        refine v_cast (L' := [(2, .int x10), (3, .int x6), (0, .ref v0), (1, .ref v1)]) rfl rfl ?_
        have hw := hw x10 hx10
        refine v_goto (tgt := 30) F dX4_isAhead_75 (by decide) ?_
        exact v_loc [2, 3, 0] rfl (ih _ _ _ _ hw)
      · rw [if_neg h] at hw
        refine v_aload_n F dX4_isAhead_57 rfl 2 rfl ?_
        refine v_iload_n F dX4_isAhead_58 rfl 3 rfl ?_
        obtain ⟨kd11, hw⟩ := hw
        refine v_calli (r_V F lk_X4_93 kd11 (sX9_numberAt hw) (mkRm hR rfl rfl rfl rfl rfl rfl) rfl rfl (Nat.le_of_ble_eq_true rfl) dX4_isAhead_59) (fun r12 G13 hw => ?_)
        refine v_iload_n F dX4_isAhead_62 rfl 0 rfl ?_
        refine v_icmp_ge (tgt := 70) F dX4_isAhead_63 (by decide) (fun h => ?_) (fun h => ?_)
        · rw [if_pos h] at hw
          refine v_iconst (v := 0) F dX4_isAhead_70 (by decide) ?_
          refine v_widen (c' := 0) (s' := 0) (by decide) (by decide) ?_
          exact v_zret F (Or.inl rfl) hw dX4_isAhead_71
        · rw [if_neg h] at hw
          refine v_iconst (v := 1) F dX4_isAhead_66 (by decide) ?_
          refine v_goto (tgt := 71) F dX4_isAhead_67 (by decide) ?_
          refine v_widen (c' := 0) (s' := 0) (by decide) (by decide) ?_
          exact v_zret F (Or.inr rfl) hw dX4_isAhead_71
set_option maxRecDepth 100000 in
theorem sX4_isAhead {l : Launch} {D : Dx} {a0 : Nat} {a1 : Nat} {G : Wd} {Q : Int32 → Wd → Prop} (hw : wpX4_isAhead a0 a1 G Q) : Met l yX4_isAhead (wM yX4_isAhead cX4_isAhead 4 (some .boolean)) rmX4_isAhead (PM D [.ref a0, .ref a1] G) (QMi D Q) 0 0 (Ab D) := by
  refine v_met (by decide) (Nat.le_of_ble_eq_true rfl) (fun X hl hR F => ?_)
  subst hl
  have F : Fx X D cX4_isAhead 4 RX4 (some .boolean) "isAhead" := F
  refine v_cast (L' := [(0, .ref a0), (1, .ref a1)]) rfl rfl ?_
  unfold wpX4_isAhead at hw
  refine v_aload_n F dX4_isAhead_0 rfl 1 rfl ?_
  obtain ⟨kd14, hw⟩ := hw
  refine v_get F fl_X4_85 kd14 rfl dX4_isAhead_1 ?_
  refine v_aload_n F dX4_isAhead_4 rfl 0 rfl ?_
  obtain ⟨kd15, hw⟩ := hw
  refine v_get F fl_X4_28 kd15 rfl dX4_isAhead_5 ?_
  refine v_icmp_eq (tgt := 28) F dX4_isAhead_8 (by decide) (fun h => ?_) (fun h => ?_)
  · rw [if_pos h] at hw
    refine v_iconst (v := 0) F dX4_isAhead_28 (by decide) ?_
    refine v_istore_n (L' := [(2, .int 0), (0, .ref a0), (1, .ref a1)]) F dX4_isAhead_29 rfl (by decide) rfl ?_
    obtain ⟨m, hw⟩ := hw
    exact v_loc [1, 2, 0] rfl (sbX4_isAhead_30 hR F  m _ _ _ _ hw)
  · rw [if_neg h] at hw
    refine v_aload_n F dX4_isAhead_11 rfl 1 rfl ?_
    refine v_get F fl_X4_85 kd14 rfl dX4_isAhead_12 ?_
    refine v_aload_n F dX4_isAhead_15 rfl 0 rfl ?_
    refine v_get F fl_X4_28 kd15 rfl dX4_isAhead_16 ?_
    refine v_icmp_ge (tgt := 26) F dX4_isAhead_19 (by decide) (fun h => ?_) (fun h => ?_)
    · rw [if_pos h] at hw
      refine v_iconst (v := 0) F dX4_isAhead_26 (by decide) ?_
      exact v_zret F (Or.inl rfl) hw dX4_isAhead_27
    · rw [if_neg h] at hw
      refine v_iconst (v := 1) F dX4_isAhead_22 (by decide) ?_
      refine v_goto (tgt := 27) F dX4_isAhead_23 (by decide) ?_
      exact v_zret F (Or.inr rfl) hw dX4_isAhead_27
set_option maxRecDepth 100000 in
theorem sbX4_arrived_20 {X : Cx} {D : Dx} (hR : X.2.2.2.1 = rmX4_arrived) (F : Fx X D cX4_arrived 2 RX4 none "arrived") {Q : Wd → Prop} {v0 : Nat} {v1 : Nat} {G : Wd} (hw : wpX4_arrived_20 Q  v0 v1 G) : V X D 2 (ZM X D (QMv D Q) 0 0) G 0 0 20 [(0, .ref v0), (1, .ref v1)] [] := by
  unfold wpX4_arrived_20 at hw
  refine v_aload_n F dX4_arrived_20 rfl 0 rfl ?_
  refine v_iconst (v := 1) F dX4_arrived_21 (by decide) ?_
  obtain ⟨kd1, hw⟩ := hw
  refine v_putZ F fl_X4_32 (fun h => absurd h (by decide)) rfl (Or.inr rfl) kd1 dX4_arrived_22 ?_
  refine v_nmG (fun G2 hG2 => ?_)
  have hw := hw G2 hG2
  refine v_aload_n F dX4_arrived_25 rfl 1 rfl ?_
  refine v_iconst (v := 1) F dX4_arrived_26 (by decide) ?_
  obtain ⟨kd3, hw⟩ := hw
  refine v_putZ F fl_X4_70 (fun h => absurd h (by decide)) rfl (Or.inr rfl) kd3 dX4_arrived_27 ?_
  refine v_nmG (fun G4 hG4 => ?_)
  have hw := hw G4 hG4
  refine v_goto (tgt := 94) F dX4_arrived_30 (by decide) ?_
  exact v_vret F hw dX4_arrived_94
set_option maxRecDepth 100000 in
theorem sbX4_arrived_69 {X : Cx} {D : Dx} (hR : X.2.2.2.1 = rmX4_arrived) (F : Fx X D cX4_arrived 2 RX4 none "arrived") {Q : Wd → Prop} {v0 : Nat} {v1 : Nat} {G : Wd} (hw : wpX4_arrived_69 Q  v0 v1 G) : V X D 2 (ZM X D (QMv D Q) 0 0) G 0 0 69 [(0, .ref v0), (1, .ref v1)] [] := by
  unfold wpX4_arrived_69 at hw
  refine v_aload_n F dX4_arrived_69 rfl 0 rfl ?_
  refine v_aload_n F dX4_arrived_70 rfl 1 rfl ?_
  obtain ⟨kd5, hw⟩ := hw
  refine v_get F fl_X4_85 kd5 rfl dX4_arrived_71 ?_
  obtain ⟨kd6, hw⟩ := hw
  refine v_putI F fl_X4_28 (fun h => absurd h (by decide)) rfl kd6 dX4_arrived_74 ?_
  refine v_nmG (fun G7 hG7 => ?_)
  have hw := hw G7 hG7
  refine v_aload_n F dX4_arrived_77 rfl 1 rfl ?_
  have kd8 : gK G7 v1 = 9 := by rw [hG7]; exact kd5
  obtain ⟨b9, hr10, hw⟩ := hw
  refine v_getSG F fl_X4_86 (fun _ => rfl) kd8 hr10 dX4_arrived_78 ?_
  refine v_iconst (v := 0) F dX4_arrived_81 (by decide) ?_
  refine v_aload_n F dX4_arrived_82 rfl 0 rfl ?_
  have kd11 : gK G7 v0 = 4 := by rw [hG7]; exact kd6
  obtain ⟨b12, hr13, hw⟩ := hw
  refine v_getS F fl_X4_9 (fun _ => rfl) kd11 hr13 dX4_arrived_83 ?_
  refine v_iconst (v := 0) F dX4_arrived_86 (by decide) ?_
  refine v_aload_n F dX4_arrived_87 rfl 0 rfl ?_
  refine v_get F fl_X4_28 kd11 rfl dX4_arrived_88 ?_
  obtain ⟨kd14, hw⟩ := hw
  obtain ⟨kd15, hw⟩ := hw
  obtain ⟨hc17, hw⟩ := hw
  refine v_copy F wd_564 wd_566 wd_565 wd_76 kd14 kd15 hc17 (by rw [hR]; exact Nat.le_of_ble_eq_true rfl) (by rw [hR]; decide) dX4_arrived_91 (fun G16 hG16 => ?_)
  have hw := hw G16 hG16
  exact v_vret F hw dX4_arrived_94
set_option maxRecDepth 100000 in
theorem sX4_arrived {l : Launch} {D : Dx} {a0 : Nat} {a1 : Nat} {G : Wd} {Q : Wd → Prop} (hw : wpX4_arrived a0 a1 G Q) : Met l yX4_arrived (wM yX4_arrived cX4_arrived 2 none) rmX4_arrived (PM D [.ref a0, .ref a1] G) (QMv D Q) 0 0 (Ab D) := by
  refine v_met (by decide) (Nat.le_of_ble_eq_true rfl) (fun X hl hR F => ?_)
  subst hl
  have F : Fx X D cX4_arrived 2 RX4 none "arrived" := F
  refine v_cast (L' := [(0, .ref a0), (1, .ref a1)]) rfl rfl ?_
  unfold wpX4_arrived at hw
  refine v_aload_n F dX4_arrived_0 rfl 1 rfl ?_
  obtain ⟨kd18, hw⟩ := hw
  refine v_callq (r_V F lk_X4_60 kd18 (sX9_low hw) (mkRm hR rfl rfl rfl rfl rfl rfl) rfl rfl (Nat.le_of_ble_eq_true rfl) dX4_arrived_1) (fun r19 G20 hw => ?_)
  obtain ⟨b21, hr, hw⟩ := hw
  subst hr
  obtain ⟨kd22, hw⟩ := hw
  refine v_get F fl_X4_64 kd22 rfl dX4_arrived_4 ?_
  refine v_if_ne (tgt := 20) F dX4_arrived_7 (by decide) (fun h => ?_) (fun h => ?_)
  · rw [if_neg h] at hw
    exact v_loc [0, 1] rfl (sbX4_arrived_20 hR F  hw)
  · rw [if_pos h] at hw
    refine v_aload_n F dX4_arrived_10 rfl 1 rfl ?_
    obtain ⟨kd23, hw⟩ := hw
    refine v_callq (r_V F lk_X4_67 kd23 (sX9_high hw) (mkRm hR rfl rfl rfl rfl rfl rfl) rfl rfl (Nat.le_of_ble_eq_true rfl) dX4_arrived_11) (fun r24 G25 hw => ?_)
    obtain ⟨b26, hr, hw⟩ := hw
    subst hr
    obtain ⟨kd27, hw⟩ := hw
    refine v_get F fl_X4_64 kd27 rfl dX4_arrived_14 ?_
    refine v_if_eq (tgt := 33) F dX4_arrived_17 (by decide) (fun h => ?_) (fun h => ?_)
    · rw [if_pos h] at hw
      refine v_aload_n F dX4_arrived_33 rfl 1 rfl ?_
      obtain ⟨kd28, hw⟩ := hw
      refine v_callq (r_V F lk_X4_60 kd28 (sX9_low hw) (mkRm hR rfl rfl rfl rfl rfl rfl) rfl rfl (Nat.le_of_ble_eq_true rfl) dX4_arrived_34) (fun r29 G30 hw => ?_)
      obtain ⟨b31, hr, hw⟩ := hw
      subst hr
      obtain ⟨kd32, hw⟩ := hw
      refine v_calli (r_V F lk_X4_73 kd32 (sX2_isAboveOne hw) (mkRm hR rfl rfl rfl rfl rfl rfl) rfl rfl (Nat.le_of_ble_eq_true rfl) dX4_arrived_37) (fun r33 G34 hw => ?_)
      refine v_if_eq (tgt := 94) F dX4_arrived_40 (by decide) (fun h => ?_) (fun h => ?_)
      · rw [if_pos h] at hw
        refine v_widen (c' := 0) (s' := 0) (by decide) (by decide) ?_
        exact v_vret F hw dX4_arrived_94
      · rw [if_neg h] at hw
        refine v_aload_n F dX4_arrived_43 rfl 0 rfl ?_
        obtain ⟨kd35, hw⟩ := hw
        obtain ⟨b36, hr37, hw⟩ := hw
        refine v_getS F fl_X4_24 (fun _ => rfl) kd35 hr37 dX4_arrived_44 ?_
        refine v_aload_n F dX4_arrived_47 rfl 0 rfl ?_
        refine v_aload_n F dX4_arrived_48 rfl 1 rfl ?_
        refine v_calli (r_V F lk_X4_77 kd35 (sX4_choicesIn hw) (mkRm hR rfl rfl rfl rfl rfl rfl) rfl rfl (Nat.le_of_ble_eq_true rfl) dX4_arrived_49) (fun r38 G39 hw => ?_)
        refine v_iconst (v := 1) F dX4_arrived_52 (by decide) ?_
        obtain ⟨kd40, hw⟩ := hw
        obtain ⟨hi41, hw⟩ := hw
        refine v_zastE F rfl (Or.inr rfl) kd40 hi41 dX4_arrived_53 (fun G42 hG42 => ?_)
        have hw := hw G42 hG42
        refine v_aload_n F dX4_arrived_54 rfl 0 rfl ?_
        obtain ⟨kd43, hw⟩ := hw
        refine v_get F fl_X4_28 kd43 rfl dX4_arrived_55 ?_
        refine v_if_eq (tgt := 69) F dX4_arrived_58 (by decide) (fun h => ?_) (fun h => ?_)
        · rw [if_pos h] at hw
          exact v_loc [0, 1] rfl (sbX4_arrived_69 hR F  hw)
        · rw [if_neg h] at hw
          refine v_aload_n F dX4_arrived_61 rfl 0 rfl ?_
          refine v_aload_n F dX4_arrived_62 rfl 1 rfl ?_
          refine v_calli (r_V F lk_X4_81 kd43 (sX4_isAhead hw) (mkRm hR rfl rfl rfl rfl rfl rfl) rfl rfl (Nat.le_of_ble_eq_true rfl) dX4_arrived_63) (fun r44 G45 hw => ?_)
          refine v_if_eq (tgt := 94) F dX4_arrived_66 (by decide) (fun h => ?_) (fun h => ?_)
          · rw [if_pos h] at hw
            refine v_widen (c' := 0) (s' := 0) (by decide) (by decide) ?_
            exact v_vret F hw dX4_arrived_94
          · rw [if_neg h] at hw
            exact v_loc [0, 1] rfl (sbX4_arrived_69 hR F  hw)
    · rw [if_neg h] at hw
      exact v_loc [0, 1] rfl (sbX4_arrived_20 hR F  hw)
set_option maxRecDepth 100000 in
theorem sbX4_spreadToMore_56 {X : Cx} {D : Dx} (hR : X.2.2.2.1 = rmX4_spreadToMore) (F : Fx X D cX4_spreadToMore 4 RX4 none "spreadToMore") {Q : Wd → Prop} {k2 : Nat → Int32 → Wd → Prop} {k14 : Nat → Int32 → Int32 → Wd → Prop} (hk2 : ∀ v0 v1 G, k2 v0 v1 G → V X D 4 (ZM X D (QMv D Q) 0 0) G 0 0 2 [(0, .ref v0), (1, .int v1)] []) (hk14 : ∀ v0 v1 v2 G, k14 v0 v1 v2 G → V X D 4 (ZM X D (QMv D Q) 0 0) G 0 0 14 [(0, .ref v0), (1, .int v1), (2, .int v2)] []) {v0 : Nat} {v1 : Int32} {v2 : Int32} {s0 : Nat} {s1 : Int32} {s2 : Int32} {G : Wd} (hw : wpX4_spreadToMore_56 Q k2 k14 v0 v1 v2 s0 s1 s2 G) : V X D 4 (ZM X D (QMv D Q) 0 0) G 0 0 56 [(0, .ref v0), (1, .int v1), (2, .int v2)] [.int s2, .int s1, .ref s0] := by
  unfold wpX4_spreadToMore_56 at hw
  obtain ⟨kd1, hw⟩ := hw
  obtain ⟨hi2, hw⟩ := hw
  obtain ⟨hB4, hw⟩ := hw
  refine v_zastE F rfl hB4 kd1 hi2 dX4_spreadToMore_56 (fun G3 hG3 => ?_)
  have hw := hw G3 hG3
  refine v_iincN (c := 1) F dX4_spreadToMore_57 2 rfl (by decide) (by decide) (fun x5 hx5 => ?_)
  refine v_cast (L' := [(2, .int x5), (0, .ref v0), (1, .int v1)]) rfl rfl ?_
  have hw := hw x5 hx5
  refine v_goto (tgt := 14) F dX4_spreadToMore_60 (by decide) ?_
  exact v_loc [1, 2, 0] rfl (hk14 _ _ _ _ hw)
set_option maxRecDepth 100000 in
theorem sbX4_spreadToMore_51 {X : Cx} {D : Dx} (hR : X.2.2.2.1 = rmX4_spreadToMore) (F : Fx X D cX4_spreadToMore 4 RX4 none "spreadToMore") {Q : Wd → Prop} {k2 : Nat → Int32 → Wd → Prop} {k14 : Nat → Int32 → Int32 → Wd → Prop} (hk2 : ∀ v0 v1 G, k2 v0 v1 G → V X D 4 (ZM X D (QMv D Q) 0 0) G 0 0 2 [(0, .ref v0), (1, .int v1)] []) (hk14 : ∀ v0 v1 v2 G, k14 v0 v1 v2 G → V X D 4 (ZM X D (QMv D Q) 0 0) G 0 0 14 [(0, .ref v0), (1, .int v1), (2, .int v2)] []) {v0 : Nat} {v1 : Int32} {v2 : Int32} {s0 : Nat} {s1 : Int32} {G : Wd} (hw : wpX4_spreadToMore_51 Q k2 k14 v0 v1 v2 s0 s1 G) : V X D 4 (ZM X D (QMv D Q) 0 0) G 0 0 51 [(0, .ref v0), (1, .int v1), (2, .int v2)] [.int s1, .ref s0] := by
  unfold wpX4_spreadToMore_51 at hw
  refine v_iconst (v := 1) F dX4_spreadToMore_51 (by decide) ?_
  refine v_goto (tgt := 56) F dX4_spreadToMore_52 (by decide) ?_
  exact v_loc [0, 1, 2] rfl (sbX4_spreadToMore_56 hR F hk2 hk14 hw)
set_option maxRecDepth 100000 in
theorem sbX4_spreadToMore_14 {X : Cx} {D : Dx} (hR : X.2.2.2.1 = rmX4_spreadToMore) (F : Fx X D cX4_spreadToMore 4 RX4 none "spreadToMore") {Q : Wd → Prop} {k2 : Nat → Int32 → Wd → Prop} (hk2 : ∀ v0 v1 G, k2 v0 v1 G → V X D 4 (ZM X D (QMv D Q) 0 0) G 0 0 2 [(0, .ref v0), (1, .int v1)] []) : ∀ (n : Nat) (v0 : Nat) (v1 : Int32) (v2 : Int32) (G : Wd), wpX4_spreadToMore_14 Q k2 n v0 v1 v2 G → V X D 4 (ZM X D (QMv D Q) 0 0) G 0 0 14 [(0, .ref v0), (1, .int v1), (2, .int v2)] [] := by
  intro n
  induction n with
  | zero => intro v0 v1 v2 G hw; exact hw.elim
  | succ n ih =>
    intro v0 v1 v2 G hw
    simp only [wpX4_spreadToMore_14] at hw
    refine v_iload_n F dX4_spreadToMore_14 rfl 2 rfl ?_
    refine v_aload_n F dX4_spreadToMore_15 rfl 0 rfl ?_
    obtain ⟨kd6, hw⟩ := hw
    refine v_get F fl_X4_36 kd6 rfl dX4_spreadToMore_16 ?_
    refine v_icmp_ge (tgt := 63) F dX4_spreadToMore_19 (by decide) (fun h => ?_) (fun h => ?_)
    · rw [if_pos h] at hw
      refine v_iincN (c := 1) F dX4_spreadToMore_63 1 rfl (by decide) (by decide) (fun x7 hx7 => ?_)
      refine v_cast (L' := [(1, .int x7), (0, .ref v0), (2, .int v2)]) rfl rfl ?_
      have hw := hw x7 hx7
      refine v_goto (tgt := 2) F dX4_spreadToMore_66 (by decide) ?_
      exact v_loc [1, 0] rfl (hk2 _ _ _ hw)
    · rw [if_neg h] at hw
      refine v_iload_n F dX4_spreadToMore_22 rfl 1 rfl ?_
      refine v_iconst (v := 1) F dX4_spreadToMore_23 (by decide) ?_
      refine v_iload_n F dX4_spreadToMore_24 rfl 2 rfl ?_
      refine v_ishl F dX4_spreadToMore_25 ?_
      refine v_ior F dX4_spreadToMore_26 ?_
      refine v_topi (fun x8 hx8 => ?_)
      have hw := hw x8 hx8
      refine v_istore_n (L' := [(3, .int x8), (0, .ref v0), (1, .int v1), (2, .int v2)]) F dX4_spreadToMore_27 rfl (by decide) rfl ?_
      refine v_aload_n F dX4_spreadToMore_28 rfl 1 rfl ?_
      obtain ⟨b9, hr10, hw⟩ := hw
      refine v_getS F fl_X4_24 (fun _ => rfl) kd6 hr10 dX4_spreadToMore_29 ?_
      refine v_iload_n F dX4_spreadToMore_32 rfl 0 rfl ?_
      refine v_aload_n F dX4_spreadToMore_33 rfl 1 rfl ?_
      obtain ⟨b11, hr12, hw⟩ := hw
      refine v_getS F fl_X4_24 (fun _ => rfl) kd6 hr12 dX4_spreadToMore_34 ?_
      refine v_iload_n F dX4_spreadToMore_37 rfl 0 rfl ?_
      obtain ⟨kd13, hw⟩ := hw
      obtain ⟨hi14, hw⟩ := hw
      refine v_zaldE F rfl kd13 hi14 dX4_spreadToMore_38 ?_
      refine v_if_ne (tgt := 51) F dX4_spreadToMore_39 (by decide) (fun h => ?_) (fun h => ?_)
      · rw [if_neg h] at hw
        exact v_loc [1, 2, 3] rfl (sbX4_spreadToMore_51 hR F hk2 ih hw)
      · rw [if_pos h] at hw
        refine v_aload_n F dX4_spreadToMore_42 rfl 1 rfl ?_
        obtain ⟨b15, hr16, hw⟩ := hw
        refine v_getS F fl_X4_24 (fun _ => rfl) kd6 hr16 dX4_spreadToMore_43 ?_
        refine v_iload_n F dX4_spreadToMore_46 rfl 2 rfl ?_
        obtain ⟨kd17, hw⟩ := hw
        obtain ⟨hi18, hw⟩ := hw
        refine v_zaldE F rfl kd17 hi18 dX4_spreadToMore_47 ?_
        refine v_if_eq (tgt := 55) F dX4_spreadToMore_48 (by decide) (fun h => ?_) (fun h => ?_)
        · rw [if_pos h] at hw
          refine v_iconst (v := 0) F dX4_spreadToMore_55 (by decide) ?_
          exact v_loc [1, 2, 3] rfl (sbX4_spreadToMore_56 hR F hk2 ih hw)
        · rw [if_neg h] at hw
          exact v_loc [1, 2, 3] rfl (sbX4_spreadToMore_51 hR F hk2 ih hw)
set_option maxRecDepth 100000 in
theorem sbX4_spreadToMore_2 {X : Cx} {D : Dx} (hR : X.2.2.2.1 = rmX4_spreadToMore) (F : Fx X D cX4_spreadToMore 4 RX4 none "spreadToMore") {Q : Wd → Prop} : ∀ (n : Nat) (v0 : Nat) (v1 : Int32) (G : Wd), wpX4_spreadToMore_2 Q  n v0 v1 G → V X D 4 (ZM X D (QMv D Q) 0 0) G 0 0 2 [(0, .ref v0), (1, .int v1)] [] := by
  intro n
  induction n with
  | zero => intro v0 v1 G hw; exact hw.elim
  | succ n ih =>
    intro v0 v1 G hw
    simp only [wpX4_spreadToMore_2] at hw
    refine v_iload_n F dX4_spreadToMore_2 rfl 1 rfl ?_
    refine v_iconst (v := 1) F dX4_spreadToMore_3 (by decide) ?_
    refine v_aload_n F dX4_spreadToMore_4 rfl 0 rfl ?_
    obtain ⟨kd19, hw⟩ := hw
    refine v_get F fl_X4_36 kd19 rfl dX4_spreadToMore_5 ?_
    refine v_ishl F dX4_spreadToMore_8 ?_
    refine v_icmp_ge (tgt := 69) F dX4_spreadToMore_9 (by decide) (fun h => ?_) (fun h => ?_)
    · rw [if_pos h] at hw
      exact v_vret F hw dX4_spreadToMore_69
    · rw [if_neg h] at hw
      refine v_iconst (v := 0) F dX4_spreadToMore_12 (by decide) ?_
      refine v_istore_n (L' := [(2, .int 0), (0, .ref v0), (1, .int v1)]) F dX4_spreadToMore_13 rfl (by decide) rfl ?_
      obtain ⟨m, hw⟩ := hw
      exact v_loc [1, 2, 0] rfl (sbX4_spreadToMore_14 hR F ih m _ _ _ _ hw)
set_option maxRecDepth 100000 in
theorem sX4_spreadToMore {l : Launch} {D : Dx} {a0 : Nat} {G : Wd} {Q : Wd → Prop} (hw : wpX4_spreadToMore a0 G Q) : Met l yX4_spreadToMore (wM yX4_spreadToMore cX4_spreadToMore 4 none) rmX4_spreadToMore (PM D [.ref a0] G) (QMv D Q) 0 0 (Ab D) := by
  refine v_met (by decide) (Nat.le_of_ble_eq_true rfl) (fun X hl hR F => ?_)
  subst hl
  have F : Fx X D cX4_spreadToMore 4 RX4 none "spreadToMore" := F
  refine v_cast (L' := [(0, .ref a0)]) rfl rfl ?_
  unfold wpX4_spreadToMore at hw
  refine v_iconst (v := 0) F dX4_spreadToMore_0 (by decide) ?_
  refine v_istore_n (L' := [(1, .int 0), (0, .ref a0)]) F dX4_spreadToMore_1 rfl (by decide) rfl ?_
  obtain ⟨m, hw⟩ := hw
  exact v_loc [1, 0] rfl (sbX4_spreadToMore_2 hR F  m _ _ _ hw)
set_option maxRecDepth 100000 in
theorem sbX4_worthOf_42 {X : Cx} {D : Dx} (hR : X.2.2.2.1 = rmX4_worthOf) (F : Fx X D cX4_worthOf 5 RX4 (some .int) "worthOf") {Q : Int32 → Wd → Prop} {k4 : Nat → Int32 → Int32 → Int32 → Wd → Prop} (hk4 : ∀ v0 v1 v2 v3 G, k4 v0 v1 v2 v3 G → V X D 5 (ZM X D (QMi D Q) 0 0) G 0 0 4 [(0, .ref v0), (1, .int v1), (2, .int v2), (3, .int v3)] []) {v0 : Nat} {v1 : Int32} {v2 : Int32} {v3 : Int32} {G : Wd} (hw : wpX4_worthOf_42 Q k4 v0 v1 v2 v3 G) : V X D 5 (ZM X D (QMi D Q) 0 0) G 0 0 42 [(0, .ref v0), (1, .int v1), (2, .int v2), (3, .int v3)] [] := by
  unfold wpX4_worthOf_42 at hw
  refine v_iincN (c := 1) F dX4_worthOf_42 3 rfl (by decide) (by decide) (fun x1 hx1 => ?_)
  refine v_cast (L' := [(3, .int x1), (0, .ref v0), (1, .int v1), (2, .int v2)]) rfl rfl ?_
  have hw := hw x1 hx1
  refine v_goto (tgt := 4) F dX4_worthOf_45 (by decide) ?_
  exact v_loc [1, 2, 3, 0] rfl (hk4 _ _ _ _ _ hw)
set_option maxRecDepth 100000 in
theorem sbX4_worthOf_4 {X : Cx} {D : Dx} (hR : X.2.2.2.1 = rmX4_worthOf) (F : Fx X D cX4_worthOf 5 RX4 (some .int) "worthOf") {Q : Int32 → Wd → Prop} : ∀ (n : Nat) (v0 : Nat) (v1 : Int32) (v2 : Int32) (v3 : Int32) (G : Wd), wpX4_worthOf_4 Q  n v0 v1 v2 v3 G → V X D 5 (ZM X D (QMi D Q) 0 0) G 0 0 4 [(0, .ref v0), (1, .int v1), (2, .int v2), (3, .int v3)] [] := by
  intro n
  induction n with
  | zero => intro v0 v1 v2 v3 G hw; exact hw.elim
  | succ n ih =>
    intro v0 v1 v2 v3 G hw
    simp only [wpX4_worthOf_4] at hw
    refine v_iload_n F dX4_worthOf_4 rfl 3 rfl ?_
    refine v_aload_n F dX4_worthOf_5 rfl 0 rfl ?_
    obtain ⟨kd2, hw⟩ := hw
    refine v_get F fl_X4_36 kd2 rfl dX4_worthOf_6 ?_
    refine v_icmp_ge (tgt := 48) F dX4_worthOf_9 (by decide) (fun h => ?_) (fun h => ?_)
    · rw [if_pos h] at hw
      refine v_iload_n F dX4_worthOf_48 rfl 2 rfl ?_
      exact v_iret F hw dX4_worthOf_49
    · rw [if_neg h] at hw
      refine v_aload_n F dX4_worthOf_12 rfl 0 rfl ?_
      obtain ⟨b3, hr4, hw⟩ := hw
      refine v_getS F fl_X4_17 (fun _ => rfl) kd2 hr4 dX4_worthOf_13 ?_
      refine v_iload_n F dX4_worthOf_16 rfl 3 rfl ?_
      obtain ⟨kd5, hw⟩ := hw
      obtain ⟨hi6, hw⟩ := hw
      obtain ⟨b7, hr8, hw⟩ := hw
      refine v_aaldS (t := 5) F rfl rfl kd5 hi6 hr8 dX4_worthOf_17 ?_
      refine v_astore (L' := [(4, .ref b7), (0, .ref v0), (1, .int v1), (2, .int v2), (3, .int v3)]) F dX4_worthOf_18 (by decide) rfl ?_
      refine v_aload F dX4_worthOf_20 0 rfl ?_
      refine v_ifnull (r := some b7) (tgt := 42) F dX4_worthOf_22 (by decide) (fun h => nomatch h) (fun _ _ => ?_)
      refine v_iload_n F dX4_worthOf_25 rfl 2 rfl ?_
      refine v_iload_n F dX4_worthOf_26 rfl 4 rfl ?_
      refine v_ishr F dX4_worthOf_27 ?_
      refine v_iconst (v := 1) F dX4_worthOf_28 (by decide) ?_
      refine v_iand F dX4_worthOf_29 ?_
      refine v_iconst (v := 1) F dX4_worthOf_30 (by decide) ?_
      refine v_icmp_ne (tgt := 42) F dX4_worthOf_31 (by decide) (fun h => ?_) (fun h => ?_)
      · rw [if_neg h] at hw
        exact v_loc [1, 2, 3, 4] rfl (sbX4_worthOf_42 hR F ih hw)
      · rw [if_pos h] at hw
        refine v_iload_n F dX4_worthOf_34 rfl 3 rfl ?_
        refine v_aload F dX4_worthOf_35 0 rfl ?_
        obtain ⟨kd9, hw⟩ := hw
        refine v_get F fl_X4_118 kd9 rfl dX4_worthOf_37 ?_
        refine v_iadd F dX4_worthOf_40 ?_
        refine v_topi (fun x10 hx10 => ?_)
        have hw := hw x10 hx10
        refine v_istore_n (L' := [(2, .int x10), (4, .ref b7), (0, .ref v0), (1, .int v1), (3, .int v3)]) F dX4_worthOf_41 rfl (by decide) rfl ?_
        exact v_loc [2, 3, 0, 4] rfl (sbX4_worthOf_42 hR F ih hw)
set_option maxRecDepth 100000 in
theorem sX4_worthOf {l : Launch} {D : Dx} {a0 : Nat} {p1 : Int32} {G : Wd} {Q : Int32 → Wd → Prop} (hw : wpX4_worthOf a0 p1 G Q) : Met l yX4_worthOf (wM yX4_worthOf cX4_worthOf 5 (some .int)) rmX4_worthOf (PM D [.ref a0, .int p1] G) (QMi D Q) 0 0 (Ab D) := by
  refine v_met (by decide) (Nat.le_of_ble_eq_true rfl) (fun X hl hR F => ?_)
  subst hl
  have F : Fx X D cX4_worthOf 5 RX4 (some .int) "worthOf" := F
  refine v_cast (L' := [(0, .ref a0), (1, .int p1)]) rfl rfl ?_
  unfold wpX4_worthOf at hw
  refine v_iconst (v := 0) F dX4_worthOf_0 (by decide) ?_
  refine v_istore_n (L' := [(2, .int 0), (0, .ref a0), (1, .int p1)]) F dX4_worthOf_1 rfl (by decide) rfl ?_
  refine v_iconst (v := 0) F dX4_worthOf_2 (by decide) ?_
  refine v_istore_n (L' := [(3, .int 0), (2, .int 0), (0, .ref a0), (1, .int p1)]) F dX4_worthOf_3 rfl (by decide) rfl ?_
  obtain ⟨m, hw⟩ := hw
  exact v_loc [2, 3, 1, 0] rfl (sbX4_worthOf_4 hR F  m _ _ _ _ _ hw)
set_option maxRecDepth 100000 in
theorem sbX4_isCheaper_36 {X : Cx} {D : Dx} (hR : X.2.2.2.1 = rmX4_isCheaper) (F : Fx X D cX4_isCheaper 5 RX4 (some .boolean) "isCheaper") {Q : Int32 → Wd → Prop}  {G : Wd} (hw : wpX4_isCheaper_36 Q   G) : V X D 5 (ZM X D (QMi D Q) 0 0) G 0 0 36 [] [] := by
  unfold wpX4_isCheaper_36 at hw
  refine v_iconst (v := 1) F dX4_isCheaper_36 (by decide) ?_
  refine v_goto (tgt := 41) F dX4_isCheaper_37 (by decide) ?_
  exact v_zret F (Or.inr rfl) hw dX4_isCheaper_41
set_option maxRecDepth 100000 in
theorem sX4_isCheaper {l : Launch} {D : Dx} {a0 : Nat} {p1 : Int32} {p2 : Int32} {G : Wd} {Q : Int32 → Wd → Prop} (hw : wpX4_isCheaper a0 p1 p2 G Q) : Met l yX4_isCheaper (wM yX4_isCheaper cX4_isCheaper 5 (some .boolean)) rmX4_isCheaper (PM D [.ref a0, .int p1, .int p2] G) (QMi D Q) 0 0 (Ab D) := by
  refine v_met (by decide) (Nat.le_of_ble_eq_true rfl) (fun X hl hR F => ?_)
  subst hl
  have F : Fx X D cX4_isCheaper 5 RX4 (some .boolean) "isCheaper" := F
  refine v_cast (L' := [(0, .ref a0), (1, .int p1), (2, .int p2)]) rfl rfl ?_
  unfold wpX4_isCheaper at hw
  refine v_aload_n F dX4_isCheaper_0 rfl 0 rfl ?_
  refine v_iload_n F dX4_isCheaper_1 rfl 1 rfl ?_
  obtain ⟨kd1, hw⟩ := hw
  refine v_calli (r_V F lk_X4_110 kd1 (sX4_worthOf hw) (mkRm hR rfl rfl rfl rfl rfl rfl) rfl rfl (Nat.le_of_ble_eq_true rfl) dX4_isCheaper_2) (fun r2 G3 hw => ?_)
  refine v_istore_n (L' := [(3, .int r2), (0, .ref a0), (1, .int p1), (2, .int p2)]) F dX4_isCheaper_5 rfl (by decide) rfl ?_
  refine v_aload_n F dX4_isCheaper_6 rfl 1 rfl ?_
  refine v_iload_n F dX4_isCheaper_7 rfl 3 rfl ?_
  obtain ⟨kd4, hw⟩ := hw
  refine v_calli (r_V F lk_X4_110 kd4 (sX4_worthOf hw) (mkRm hR rfl rfl rfl rfl rfl rfl) rfl rfl (Nat.le_of_ble_eq_true rfl) dX4_isCheaper_8) (fun r5 G6 hw => ?_)
  refine v_istore (L' := [(4, .int r5), (3, .int r2), (0, .ref a0), (1, .int p1), (2, .int p2)]) F dX4_isCheaper_11 (by decide) rfl ?_
  refine v_iload_n F dX4_isCheaper_13 rfl 1 rfl ?_
  refine v_iload F dX4_isCheaper_14 0 rfl ?_
  refine v_icmp_lt (tgt := 36) F dX4_isCheaper_16 (by decide) (fun h => ?_) (fun h => ?_)
  · rw [if_pos h] at hw
    exact v_loc [] rfl (sbX4_isCheaper_36 hR F  hw)
  · rw [if_neg h] at hw
    refine v_iload_n F dX4_isCheaper_19 rfl 1 rfl ?_
    refine v_iload F dX4_isCheaper_20 0 rfl ?_
    refine v_icmp_ne (tgt := 40) F dX4_isCheaper_22 (by decide) (fun h => ?_) (fun h => ?_)
    · rw [if_neg h] at hw
      refine v_iconst (v := 0) F dX4_isCheaper_40 (by decide) ?_
      refine v_widen (c' := 0) (s' := 0) (by decide) (by decide) ?_
      exact v_zret F (Or.inl rfl) hw dX4_isCheaper_41
    · rw [if_pos h] at hw
      refine v_iload_n F dX4_isCheaper_25 rfl 3 rfl ?_
      refine v_calli (r_S F ls_X4_113 (sJ6_bitCount_0f7a4 hw) (mkRm hR rfl rfl rfl rfl rfl rfl) rfl rfl (Nat.le_of_ble_eq_true rfl) dX4_isCheaper_26) (fun r7 G8 hw => ?_)
      refine v_iload_n F dX4_isCheaper_29 rfl 4 rfl ?_
      refine v_calli (r_S F ls_X4_113 (sJ6_bitCount_0f7a4 hw) (mkRm hR rfl rfl rfl rfl rfl rfl) rfl rfl (Nat.le_of_ble_eq_true rfl) dX4_isCheaper_30) (fun r9 G10 hw => ?_)
      refine v_icmp_ge (tgt := 40) F dX4_isCheaper_33 (by decide) (fun h => ?_) (fun h => ?_)
      · rw [if_pos h] at hw
        refine v_iconst (v := 0) F dX4_isCheaper_40 (by decide) ?_
        refine v_widen (c' := 0) (s' := 0) (by decide) (by decide) ?_
        exact v_zret F (Or.inl rfl) hw dX4_isCheaper_41
      · rw [if_neg h] at hw
        exact v_loc [] rfl (sbX4_isCheaper_36 hR F  hw)
set_option maxRecDepth 100000 in
theorem sbX4_byNumbers_48 {X : Cx} {D : Dx} (hR : X.2.2.2.1 = rmX4_byNumbers) (F : Fx X D cX4_byNumbers 6 RX4 (some .long) "byNumbers") {Q : Int64 → Wd → Prop} {k5 : Nat → Int32 → Int64 → Int32 → Wd → Prop} (hk5 : ∀ v0 v1 v2 v4 G, k5 v0 v1 v2 v4 G → V X D 6 (ZM X D (QMl D Q) 0 0) G 0 0 5 [(0, .ref v0), (1, .int v1), (2, .long v2), (4, .int v4)] []) {v0 : Nat} {v1 : Int32} {v2 : Int64} {v4 : Int32} {G : Wd} (hw : wpX4_byNumbers_48 Q k5 v0 v1 v2 v4 G) : V X D 6 (ZM X D (QMl D Q) 0 0) G 0 0 48 [(0, .ref v0), (1, .int v1), (2, .long v2), (4, .int v4)] [] := by
  unfold wpX4_byNumbers_48 at hw
  refine v_iincN (c := 1) F dX4_byNumbers_48 3 rfl (by decide) (by decide) (fun x1 hx1 => ?_)
  refine v_cast (L' := [(4, .int x1), (0, .ref v0), (1, .int v1), (2, .long v2)]) rfl rfl ?_
  have hw := hw x1 hx1
  refine v_goto (tgt := 5) F dX4_byNumbers_51 (by decide) ?_
  exact v_loc [1, 2, 3, 0] rfl (hk5 _ _ _ _ _ hw)
set_option maxRecDepth 100000 in
theorem sbX4_byNumbers_5 {X : Cx} {D : Dx} (hR : X.2.2.2.1 = rmX4_byNumbers) (F : Fx X D cX4_byNumbers 6 RX4 (some .long) "byNumbers") {Q : Int64 → Wd → Prop} : ∀ (n : Nat) (v0 : Nat) (v1 : Int32) (v2 : Int64) (v4 : Int32) (G : Wd), wpX4_byNumbers_5 Q  n v0 v1 v2 v4 G → V X D 6 (ZM X D (QMl D Q) 0 0) G 0 0 5 [(0, .ref v0), (1, .int v1), (2, .long v2), (4, .int v4)] [] := by
  intro n
  induction n with
  | zero => intro v0 v1 v2 v4 G hw; exact hw.elim
  | succ n ih =>
    intro v0 v1 v2 v4 G hw
    simp only [wpX4_byNumbers_5] at hw
    refine v_iload F dX4_byNumbers_5 3 rfl ?_
    refine v_aload_n F dX4_byNumbers_7 rfl 0 rfl ?_
    obtain ⟨kd2, hw⟩ := hw
    refine v_get F fl_X4_36 kd2 rfl dX4_byNumbers_8 ?_
    refine v_icmp_ge (tgt := 54) F dX4_byNumbers_11 (by decide) (fun h => ?_) (fun h => ?_)
    · rw [if_pos h] at hw
      refine v_lload_n F dX4_byNumbers_54 rfl 2 rfl ?_
      exact v_lret F hw dX4_byNumbers_55
    · rw [if_neg h] at hw
      refine v_aload_n F dX4_byNumbers_14 rfl 0 rfl ?_
      obtain ⟨b3, hr4, hw⟩ := hw
      refine v_getS F fl_X4_17 (fun _ => rfl) kd2 hr4 dX4_byNumbers_15 ?_
      refine v_iload F dX4_byNumbers_18 3 rfl ?_
      obtain ⟨kd5, hw⟩ := hw
      obtain ⟨hi6, hw⟩ := hw
      obtain ⟨b7, hr8, hw⟩ := hw
      refine v_aaldS (t := 5) F rfl rfl kd5 hi6 hr8 dX4_byNumbers_20 ?_
      refine v_astore (L' := [(5, .ref b7), (0, .ref v0), (1, .int v1), (2, .long v2), (4, .int v4)]) F dX4_byNumbers_21 (by decide) rfl ?_
      refine v_aload F dX4_byNumbers_23 0 rfl ?_
      refine v_ifnull (r := some b7) (tgt := 48) F dX4_byNumbers_25 (by decide) (fun h => nomatch h) (fun _ _ => ?_)
      refine v_iload_n F dX4_byNumbers_28 rfl 2 rfl ?_
      refine v_iload F dX4_byNumbers_29 4 rfl ?_
      refine v_ishr F dX4_byNumbers_31 ?_
      refine v_iconst (v := 1) F dX4_byNumbers_32 (by decide) ?_
      refine v_iand F dX4_byNumbers_33 ?_
      refine v_iconst (v := 1) F dX4_byNumbers_34 (by decide) ?_
      refine v_icmp_ne (tgt := 48) F dX4_byNumbers_35 (by decide) (fun h => ?_) (fun h => ?_)
      · rw [if_neg h] at hw
        exact v_loc [1, 2, 3, 4] rfl (sbX4_byNumbers_48 hR F ih hw)
      · rw [if_pos h] at hw
        refine v_lload_n F dX4_byNumbers_38 rfl 3 rfl ?_
        refine v_lconst (v := 1) F dX4_byNumbers_39 rfl ?_
        refine v_aload F dX4_byNumbers_40 0 rfl ?_
        obtain ⟨kd9, hw⟩ := hw
        refine v_getG F fl_X4_57 kd9 rfl dX4_byNumbers_42 ?_
        refine v_lshl F dX4_byNumbers_45 ?_
        refine v_lor F dX4_byNumbers_46 ?_
        refine v_topl (fun x10 hx10 => ?_)
        have hw := hw x10 hx10
        refine v_lstore_n (L' := [(2, .long x10), (5, .ref b7), (0, .ref v0), (1, .int v1), (4, .int v4)]) F dX4_byNumbers_47 rfl (by decide) rfl ?_
        exact v_loc [2, 3, 0, 4] rfl (sbX4_byNumbers_48 hR F ih hw)
set_option maxRecDepth 100000 in
theorem sX4_byNumbers {l : Launch} {D : Dx} {a0 : Nat} {p1 : Int32} {G : Wd} {Q : Int64 → Wd → Prop} (hw : wpX4_byNumbers a0 p1 G Q) : Met l yX4_byNumbers (wM yX4_byNumbers cX4_byNumbers 6 (some .long)) rmX4_byNumbers (PM D [.ref a0, .int p1] G) (QMl D Q) 0 0 (Ab D) := by
  refine v_met (by decide) (Nat.le_of_ble_eq_true rfl) (fun X hl hR F => ?_)
  subst hl
  have F : Fx X D cX4_byNumbers 6 RX4 (some .long) "byNumbers" := F
  refine v_cast (L' := [(0, .ref a0), (1, .int p1)]) rfl rfl ?_
  unfold wpX4_byNumbers at hw
  refine v_lconst (v := 0) F dX4_byNumbers_0 rfl ?_
  refine v_lstore_n (L' := [(2, .long 0), (0, .ref a0), (1, .int p1)]) F dX4_byNumbers_1 rfl (by decide) rfl ?_
  refine v_iconst (v := 0) F dX4_byNumbers_2 (by decide) ?_
  refine v_istore (L' := [(4, .int 0), (2, .long 0), (0, .ref a0), (1, .int p1)]) F dX4_byNumbers_3 (by decide) rfl ?_
  obtain ⟨m, hw⟩ := hw
  exact v_loc [2, 3, 1, 0] rfl (sbX4_byNumbers_5 hR F  m _ _ _ _ _ hw)
set_option maxRecDepth 100000 in
theorem sbX4_cheapest_48 {X : Cx} {D : Dx} (hR : X.2.2.2.1 = rmX4_cheapest) (F : Fx X D cX4_cheapest 4 RX4 (some .long) "cheapest") {Q : Int64 → Wd → Prop} {k17 : Nat → Int32 → Int32 → Int32 → Wd → Prop} (hk17 : ∀ v0 v1 v2 v3 G, k17 v0 v1 v2 v3 G → V X D 4 (ZM X D (QMl D Q) 0 0) G 0 0 17 [(0, .ref v0), (1, .int v1), (2, .int v2), (3, .int v3)] []) {v0 : Nat} {v1 : Int32} {v2 : Int32} {v3 : Int32} {G : Wd} (hw : wpX4_cheapest_48 Q k17 v0 v1 v2 v3 G) : V X D 4 (ZM X D (QMl D Q) 0 0) G 0 0 48 [(0, .ref v0), (1, .int v1), (2, .int v2), (3, .int v3)] [] := by
  unfold wpX4_cheapest_48 at hw
  refine v_iincN (c := 1) F dX4_cheapest_48 3 rfl (by decide) (by decide) (fun x1 hx1 => ?_)
  refine v_cast (L' := [(3, .int x1), (0, .ref v0), (1, .int v1), (2, .int v2)]) rfl rfl ?_
  have hw := hw x1 hx1
  refine v_goto (tgt := 17) F dX4_cheapest_51 (by decide) ?_
  exact v_loc [1, 2, 3, 0] rfl (hk17 _ _ _ _ _ hw)
set_option maxRecDepth 100000 in
theorem sbX4_cheapest_46 {X : Cx} {D : Dx} (hR : X.2.2.2.1 = rmX4_cheapest) (F : Fx X D cX4_cheapest 4 RX4 (some .long) "cheapest") {Q : Int64 → Wd → Prop} {k17 : Nat → Int32 → Int32 → Int32 → Wd → Prop} (hk17 : ∀ v0 v1 v2 v3 G, k17 v0 v1 v2 v3 G → V X D 4 (ZM X D (QMl D Q) 0 0) G 0 0 17 [(0, .ref v0), (1, .int v1), (2, .int v2), (3, .int v3)] []) {v0 : Nat} {v1 : Int32} {v3 : Int32} {G : Wd} (hw : wpX4_cheapest_46 Q k17 v0 v1 v3 G) : V X D 4 (ZM X D (QMl D Q) 0 0) G 0 0 46 [(0, .ref v0), (1, .int v1), (3, .int v3)] [] := by
  unfold wpX4_cheapest_46 at hw
  refine v_iload_n F dX4_cheapest_46 rfl 2 rfl ?_
  refine v_istore_n (L' := [(2, .int v3), (0, .ref v0), (1, .int v1), (3, .int v3)]) F dX4_cheapest_47 rfl (by decide) rfl ?_
  exact v_loc [1, 2, 0, 3] rfl (sbX4_cheapest_48 hR F hk17 hw)
set_option maxRecDepth 100000 in
theorem sbX4_cheapest_17 {X : Cx} {D : Dx} (hR : X.2.2.2.1 = rmX4_cheapest) (F : Fx X D cX4_cheapest 4 RX4 (some .long) "cheapest") {Q : Int64 → Wd → Prop} : ∀ (n : Nat) (v0 : Nat) (v1 : Int32) (v2 : Int32) (v3 : Int32) (G : Wd), wpX4_cheapest_17 Q  n v0 v1 v2 v3 G → V X D 4 (ZM X D (QMl D Q) 0 0) G 0 0 17 [(0, .ref v0), (1, .int v1), (2, .int v2), (3, .int v3)] [] := by
  intro n
  induction n with
  | zero => intro v0 v1 v2 v3 G hw; exact hw.elim
  | succ n ih =>
    intro v0 v1 v2 v3 G hw
    simp only [wpX4_cheapest_17] at hw
    refine v_iload_n F dX4_cheapest_17 rfl 3 rfl ?_
    refine v_iload_n F dX4_cheapest_18 rfl 1 rfl ?_
    refine v_icmp_gt (tgt := 54) F dX4_cheapest_19 (by decide) (fun h => ?_) (fun h => ?_)
    · rw [if_pos h] at hw
      refine v_iload_n F dX4_cheapest_54 rfl 2 rfl ?_
      refine v_if_ge (tgt := 64) F dX4_cheapest_55 (by decide) (fun h => ?_) (fun h => ?_)
      · rw [if_pos h] at hw
        refine v_aload_n F dX4_cheapest_64 rfl 0 rfl ?_
        refine v_iload_n F dX4_cheapest_65 rfl 2 rfl ?_
        obtain ⟨kd2, hw⟩ := hw
        refine v_calll (r_V F lk_X4_106 kd2 (sX4_byNumbers hw) (mkRm hR rfl rfl rfl rfl rfl rfl) rfl rfl (Nat.le_of_ble_eq_true rfl) dX4_cheapest_66) (fun r3 G4 hw => ?_)
        refine v_widen (c' := 0) (s' := 0) (by decide) (by decide) ?_
        exact v_lret F hw dX4_cheapest_69
      · rw [if_neg h] at hw
        refine v_ldc2 (v := (-9000000000000000005)) F wd_670 dX4_cheapest_58 ?_
        refine v_goto (tgt := 69) F dX4_cheapest_61 (by decide) ?_
        exact v_lret F hw dX4_cheapest_69
    · rw [if_neg h] at hw
      refine v_aload_n F dX4_cheapest_22 rfl 0 rfl ?_
      obtain ⟨kd5, hw⟩ := hw
      obtain ⟨b6, hr7, hw⟩ := hw
      refine v_getS F fl_X4_24 (fun _ => rfl) kd5 hr7 dX4_cheapest_23 ?_
      refine v_iload_n F dX4_cheapest_26 rfl 1 rfl ?_
      refine v_iload_n F dX4_cheapest_27 rfl 3 rfl ?_
      refine v_ixor F dX4_cheapest_28 ?_
      obtain ⟨kd8, hw⟩ := hw
      obtain ⟨hi9, hw⟩ := hw
      refine v_zaldE F rfl kd8 hi9 dX4_cheapest_29 ?_
      refine v_if_ne (tgt := 48) F dX4_cheapest_30 (by decide) (fun h => ?_) (fun h => ?_)
      · rw [if_neg h] at hw
        exact v_loc [0, 1, 2, 3] rfl (sbX4_cheapest_48 hR F ih hw)
      · rw [if_pos h] at hw
        refine v_iload_n F dX4_cheapest_33 rfl 2 rfl ?_
        refine v_if_lt (tgt := 46) F dX4_cheapest_34 (by decide) (fun h => ?_) (fun h => ?_)
        · rw [if_pos h] at hw
          exact v_loc [0, 1, 3] rfl (sbX4_cheapest_46 hR F ih hw)
        · rw [if_neg h] at hw
          refine v_aload_n F dX4_cheapest_37 rfl 0 rfl ?_
          refine v_iload_n F dX4_cheapest_38 rfl 3 rfl ?_
          refine v_iload_n F dX4_cheapest_39 rfl 2 rfl ?_
          refine v_calli (r_V F lk_X4_100 kd5 (sX4_isCheaper hw) (mkRm hR rfl rfl rfl rfl rfl rfl) rfl rfl (Nat.le_of_ble_eq_true rfl) dX4_cheapest_40) (fun r10 G11 hw => ?_)
          refine v_if_eq (tgt := 48) F dX4_cheapest_43 (by decide) (fun h => ?_) (fun h => ?_)
          · rw [if_pos h] at hw
            exact v_loc [0, 1, 2, 3] rfl (sbX4_cheapest_48 hR F ih hw)
          · rw [if_neg h] at hw
            exact v_loc [0, 1, 3] rfl (sbX4_cheapest_46 hR F ih hw)
set_option maxRecDepth 100000 in
theorem sX4_cheapest {l : Launch} {D : Dx} {a0 : Nat} {G : Wd} {Q : Int64 → Wd → Prop} (hw : wpX4_cheapest a0 G Q) : Met l yX4_cheapest (wM yX4_cheapest cX4_cheapest 4 (some .long)) rmX4_cheapest (PM D [.ref a0] G) (QMl D Q) 0 0 (Ab D) := by
  refine v_met (by decide) (Nat.le_of_ble_eq_true rfl) (fun X hl hR F => ?_)
  subst hl
  have F : Fx X D cX4_cheapest 4 RX4 (some .long) "cheapest" := F
  refine v_cast (L' := [(0, .ref a0)]) rfl rfl ?_
  unfold wpX4_cheapest at hw
  refine v_aload_n F dX4_cheapest_0 rfl 0 rfl ?_
  obtain ⟨kd12, hw⟩ := hw
  refine v_callv (r_V F lk_X4_97 kd12 (sX4_spreadToMore hw) (mkRm hR rfl rfl rfl rfl rfl rfl) rfl rfl (Nat.le_of_ble_eq_true rfl) dX4_cheapest_1) (fun G14 hw => ?_)
  refine v_iconst (v := 1) F dX4_cheapest_4 (by decide) ?_
  refine v_aload_n F dX4_cheapest_5 rfl 0 rfl ?_
  obtain ⟨kd15, hw⟩ := hw
  refine v_get F fl_X4_36 kd15 rfl dX4_cheapest_6 ?_
  refine v_ishl F dX4_cheapest_9 ?_
  refine v_iconst (v := 1) F dX4_cheapest_10 (by decide) ?_
  refine v_isub F dX4_cheapest_11 ?_
  refine v_topi (fun x16 hx16 => ?_)
  have hw := hw x16 hx16
  refine v_istore_n (L' := [(1, .int x16), (0, .ref a0)]) F dX4_cheapest_12 rfl (by decide) rfl ?_
  refine v_iconst (v := (-1)) F dX4_cheapest_13 (by decide) ?_
  refine v_istore_n (L' := [(2, .int (-1)), (1, .int x16), (0, .ref a0)]) F dX4_cheapest_14 rfl (by decide) rfl ?_
  refine v_iconst (v := 0) F dX4_cheapest_15 (by decide) ?_
  refine v_istore_n (L' := [(3, .int 0), (2, .int (-1)), (1, .int x16), (0, .ref a0)]) F dX4_cheapest_16 rfl (by decide) rfl ?_
  obtain ⟨m, hw⟩ := hw
  exact v_loc [3, 2, 1, 0] rfl (sbX4_cheapest_17 hR F  m _ _ _ _ _ hw)
set_option maxRecDepth 100000 in
theorem sX8_init {l : Launch} {D : Dx} {a0 : Nat} {G : Wd} {Q : Wd → Prop} (hw : wpX8_init a0 G Q) : Met l yX8_init (wM yX8_init cX8_init 1 none) rmX8_init (PM D [.ref a0] G) (QMv D Q) 2 6 (Ab D) := by
  refine v_met (by decide) (Nat.le_of_ble_eq_true rfl) (fun X hl hR F => ?_)
  subst hl
  have F : Fx X D cX8_init 1 RX8 none "<init>" := F
  refine v_cast (L' := [(0, .ref a0)]) rfl rfl ?_
  unfold wpX8_init at hw
  refine v_aload_n F dX8_init_0 rfl 0 rfl ?_
  refine v_callv (r_N F ln_X8_1 (sX3_init hw) (mkRm hR rfl rfl rfl rfl rfl rfl) rfl rfl (Nat.le_of_ble_eq_true rfl) dX8_init_1) (fun G2 hw => ?_)
  refine v_aload_n F dX8_init_4 rfl 0 rfl ?_
  refine v_new (ci := 2) F rfl rfl wd_219 wd_103 wd_65 (by rw [hR]; exact Nat.le_of_ble_eq_true rfl) (by rw [hR]; exact Nat.le_of_ble_eq_true rfl) dX8_init_5 ?_
  generalize hz4 : gZ G2 = z4
  refine v_nmG (fun G3 hG3 => ?_)
  have hw := hw z4 G3 hz4.symm hG3
  refine v_dup F dX8_init_8 rfl ?_
  refine v_callv (r_N F ln_X8_9 (sX2_init hw) (mkRm hR rfl rfl rfl rfl rfl rfl) rfl rfl (Nat.le_of_ble_eq_true rfl) dX8_init_9) (fun G6 hw => ?_)
  obtain ⟨kd7, hw⟩ := hw
  refine v_putR F fl_X8_10 (fun _ => rfl) ⟨rfl, rfl, fun _ => rfl⟩ kd7 dX8_init_12 ?_
  refine v_nmG (fun G8 hG8 => ?_)
  have hw := hw G8 hG8
  refine v_aload_n F dX8_init_15 rfl 0 rfl ?_
  refine v_new (ci := 2) F rfl rfl wd_219 wd_103 wd_65 (by rw [hR]; exact Nat.le_of_ble_eq_true rfl) (by rw [hR]; exact Nat.le_of_ble_eq_true rfl) dX8_init_16 ?_
  generalize hz10 : gZ G8 = z10
  refine v_nmG (fun G9 hG9 => ?_)
  have hw := hw z10 G9 hz10.symm hG9
  refine v_dup F dX8_init_19 rfl ?_
  refine v_callv (r_N F ln_X8_9 (sX2_init hw) (mkRm hR rfl rfl rfl rfl rfl rfl) rfl rfl (Nat.le_of_ble_eq_true rfl) dX8_init_20) (fun G12 hw => ?_)
  obtain ⟨kd13, hw⟩ := hw
  refine v_putR F fl_X8_16 (fun _ => rfl) ⟨rfl, rfl, fun _ => rfl⟩ kd13 dX8_init_23 ?_
  refine v_nmG (fun G14 hG14 => ?_)
  have hw := hw G14 hG14
  refine v_widen (c' := 2) (s' := 6) (by decide) (by decide) ?_
  exact v_vret F hw dX8_init_26
set_option maxRecDepth 100000 in
theorem sbX8_arrived_115 {X : Cx} {D : Dx} (hR : X.2.2.2.1 = rmX8_arrived) (F : Fx X D cX8_arrived 2 RX8 none "arrived") {Q : Wd → Prop} {s0 : Nat} {s1 : Int32} {G : Wd} (hw : wpX8_arrived_115 Q  s0 s1 G) : V X D 2 (ZM X D (QMv D Q) 0 0) G 0 0 115 [] [.int s1, .ref s0] := by
  unfold wpX8_arrived_115 at hw
  obtain ⟨kd1, hw⟩ := hw
  obtain ⟨hB3, hw⟩ := hw
  refine v_putZ F fl_X8_41 (fun h => absurd h (by decide)) rfl hB3 kd1 dX8_arrived_115 ?_
  refine v_nmG (fun G2 hG2 => ?_)
  have hw := hw G2 hG2
  exact v_vret F hw dX8_arrived_118
set_option maxRecDepth 100000 in
theorem sbX8_arrived_110 {X : Cx} {D : Dx} (hR : X.2.2.2.1 = rmX8_arrived) (F : Fx X D cX8_arrived 2 RX8 none "arrived") {Q : Wd → Prop} {s0 : Nat} {G : Wd} (hw : wpX8_arrived_110 Q  s0 G) : V X D 2 (ZM X D (QMv D Q) 0 0) G 0 0 110 [] [.ref s0] := by
  unfold wpX8_arrived_110 at hw
  refine v_iconst (v := 1) F dX8_arrived_110 (by decide) ?_
  refine v_goto (tgt := 115) F dX8_arrived_111 (by decide) ?_
  exact v_loc [] rfl (sbX8_arrived_115 hR F  hw)
set_option maxRecDepth 100000 in
theorem sbX8_arrived_84 {X : Cx} {D : Dx} (hR : X.2.2.2.1 = rmX8_arrived) (F : Fx X D cX8_arrived 2 RX8 none "arrived") {Q : Wd → Prop} {v0 : Nat} {v1 : Nat} {G : Wd} (hw : wpX8_arrived_84 Q  v0 v1 G) : V X D 2 (ZM X D (QMv D Q) 0 0) G 0 0 84 [(0, .ref v0), (1, .ref v1)] [] := by
  unfold wpX8_arrived_84 at hw
  refine v_aload_n F dX8_arrived_84 rfl 0 rfl ?_
  refine v_iconst (v := 1) F dX8_arrived_85 (by decide) ?_
  obtain ⟨kd4, hw⟩ := hw
  refine v_putZ F fl_X8_19 (fun h => absurd h (by decide)) rfl (Or.inr rfl) kd4 dX8_arrived_86 ?_
  refine v_nmG (fun G5 hG5 => ?_)
  have hw := hw G5 hG5
  refine v_aload_n F dX8_arrived_89 rfl 1 rfl ?_
  refine v_aload_n F dX8_arrived_90 rfl 0 rfl ?_
  have kd6 : gK G5 v0 = 8 := by rw [hG5]; exact kd4
  obtain ⟨b7, hr8, hw⟩ := hw
  refine v_getS F fl_X8_10 (fun _ => rfl) kd6 hr8 dX8_arrived_91 ?_
  obtain ⟨kd9, hw⟩ := hw
  refine v_get F fl_X8_28 kd9 rfl dX8_arrived_94 ?_
  refine v_if_ne (tgt := 110) F dX8_arrived_97 (by decide) (fun h => ?_) (fun h => ?_)
  · rw [if_neg h] at hw
    exact v_loc [] rfl (sbX8_arrived_110 hR F  hw)
  · rw [if_pos h] at hw
    refine v_aload_n F dX8_arrived_100 rfl 0 rfl ?_
    obtain ⟨b10, hr11, hw⟩ := hw
    refine v_getS F fl_X8_16 (fun _ => rfl) kd6 hr11 dX8_arrived_101 ?_
    obtain ⟨kd12, hw⟩ := hw
    refine v_get F fl_X8_28 kd12 rfl dX8_arrived_104 ?_
    refine v_if_eq (tgt := 114) F dX8_arrived_107 (by decide) (fun h => ?_) (fun h => ?_)
    · rw [if_pos h] at hw
      refine v_iconst (v := 0) F dX8_arrived_114 (by decide) ?_
      exact v_loc [] rfl (sbX8_arrived_115 hR F  hw)
    · rw [if_neg h] at hw
      exact v_loc [] rfl (sbX8_arrived_110 hR F  hw)
set_option maxRecDepth 100000 in
theorem sbX8_arrived_73 {X : Cx} {D : Dx} (hR : X.2.2.2.1 = rmX8_arrived) (F : Fx X D cX8_arrived 2 RX8 none "arrived") {Q : Wd → Prop} {v0 : Nat} {v1 : Nat} {G : Wd} (hw : wpX8_arrived_73 Q  v0 v1 G) : V X D 2 (ZM X D (QMv D Q) 0 0) G 0 0 73 [(0, .ref v0), (1, .ref v1)] [] := by
  unfold wpX8_arrived_73 at hw
  refine v_aload_n F dX8_arrived_73 rfl 0 rfl ?_
  obtain ⟨kd13, hw⟩ := hw
  obtain ⟨b14, hr15, hw⟩ := hw
  refine v_getS F fl_X8_16 (fun _ => rfl) kd13 hr15 dX8_arrived_74 ?_
  refine v_aload_n F dX8_arrived_77 rfl 1 rfl ?_
  obtain ⟨kd16, hw⟩ := hw
  refine v_callq (r_V F lk_X8_39 kd16 (sX9_high hw) (mkRm hR rfl rfl rfl rfl rfl rfl) rfl rfl (Nat.le_of_ble_eq_true rfl) dX8_arrived_78) (fun r17 G18 hw => ?_)
  obtain ⟨b19, hr, hw⟩ := hw
  subst hr
  obtain ⟨kd20, hw⟩ := hw
  refine v_callv (r_V F lk_X8_35 kd20 (sX2_become_ hw) (mkRm hR rfl rfl rfl rfl rfl rfl) rfl rfl (Nat.le_of_ble_eq_true rfl) dX8_arrived_81) (fun G22 hw => ?_)
  exact v_loc [0, 1] rfl (sbX8_arrived_84 hR F  hw)
set_option maxRecDepth 100000 in
theorem sbX8_arrived_42 {X : Cx} {D : Dx} (hR : X.2.2.2.1 = rmX8_arrived) (F : Fx X D cX8_arrived 2 RX8 none "arrived") {Q : Wd → Prop} {v0 : Nat} {v1 : Nat} {G : Wd} (hw : wpX8_arrived_42 Q  v0 v1 G) : V X D 2 (ZM X D (QMv D Q) 0 0) G 0 0 42 [(0, .ref v0), (1, .ref v1)] [] := by
  unfold wpX8_arrived_42 at hw
  refine v_aload_n F dX8_arrived_42 rfl 0 rfl ?_
  obtain ⟨kd23, hw⟩ := hw
  refine v_get F fl_X8_19 kd23 rfl dX8_arrived_43 ?_
  refine v_if_eq (tgt := 73) F dX8_arrived_46 (by decide) (fun h => ?_) (fun h => ?_)
  · rw [if_pos h] at hw
    exact v_loc [0, 1] rfl (sbX8_arrived_73 hR F  hw)
  · rw [if_neg h] at hw
    refine v_aload_n F dX8_arrived_49 rfl 1 rfl ?_
    obtain ⟨kd24, hw⟩ := hw
    refine v_callq (r_V F lk_X8_39 kd24 (sX9_high hw) (mkRm hR rfl rfl rfl rfl rfl rfl) rfl rfl (Nat.le_of_ble_eq_true rfl) dX8_arrived_50) (fun r25 G26 hw => ?_)
    obtain ⟨b27, hr, hw⟩ := hw
    subst hr
    obtain ⟨kd28, hw⟩ := hw
    refine v_get F fl_X8_28 kd28 rfl dX8_arrived_53 ?_
    refine v_if_ne (tgt := 73) F dX8_arrived_56 (by decide) (fun h => ?_) (fun h => ?_)
    · rw [if_neg h] at hw
      exact v_loc [0, 1] rfl (sbX8_arrived_73 hR F  hw)
    · rw [if_pos h] at hw
      refine v_aload_n F dX8_arrived_59 rfl 0 rfl ?_
      obtain ⟨kd29, hw⟩ := hw
      obtain ⟨b30, hr31, hw⟩ := hw
      refine v_getS F fl_X8_16 (fun _ => rfl) kd29 hr31 dX8_arrived_60 ?_
      refine v_aload_n F dX8_arrived_63 rfl 1 rfl ?_
      obtain ⟨kd32, hw⟩ := hw
      refine v_callq (r_V F lk_X8_39 kd32 (sX9_high hw) (mkRm hR rfl rfl rfl rfl rfl rfl) rfl rfl (Nat.le_of_ble_eq_true rfl) dX8_arrived_64) (fun r33 G34 hw => ?_)
      obtain ⟨b35, hr, hw⟩ := hw
      subst hr
      obtain ⟨kd36, hw⟩ := hw
      refine v_calli (r_V F lk_X8_31 kd36 (sX2_isLess hw) (mkRm hR rfl rfl rfl rfl rfl rfl) rfl rfl (Nat.le_of_ble_eq_true rfl) dX8_arrived_67) (fun r37 G38 hw => ?_)
      refine v_if_eq (tgt := 84) F dX8_arrived_70 (by decide) (fun h => ?_) (fun h => ?_)
      · rw [if_pos h] at hw
        exact v_loc [0, 1] rfl (sbX8_arrived_84 hR F  hw)
      · rw [if_neg h] at hw
        exact v_loc [0, 1] rfl (sbX8_arrived_73 hR F  hw)
set_option maxRecDepth 100000 in
theorem sbX8_arrived_31 {X : Cx} {D : Dx} (hR : X.2.2.2.1 = rmX8_arrived) (F : Fx X D cX8_arrived 2 RX8 none "arrived") {Q : Wd → Prop} {v0 : Nat} {v1 : Nat} {G : Wd} (hw : wpX8_arrived_31 Q  v0 v1 G) : V X D 2 (ZM X D (QMv D Q) 0 0) G 0 0 31 [(0, .ref v0), (1, .ref v1)] [] := by
  unfold wpX8_arrived_31 at hw
  refine v_aload_n F dX8_arrived_31 rfl 0 rfl ?_
  obtain ⟨kd39, hw⟩ := hw
  obtain ⟨b40, hr41, hw⟩ := hw
  refine v_getS F fl_X8_10 (fun _ => rfl) kd39 hr41 dX8_arrived_32 ?_
  refine v_aload_n F dX8_arrived_35 rfl 1 rfl ?_
  obtain ⟨kd42, hw⟩ := hw
  refine v_callq (r_V F lk_X8_23 kd42 (sX9_low hw) (mkRm hR rfl rfl rfl rfl rfl rfl) rfl rfl (Nat.le_of_ble_eq_true rfl) dX8_arrived_36) (fun r43 G44 hw => ?_)
  obtain ⟨b45, hr, hw⟩ := hw
  subst hr
  obtain ⟨kd46, hw⟩ := hw
  refine v_callv (r_V F lk_X8_35 kd46 (sX2_become_ hw) (mkRm hR rfl rfl rfl rfl rfl rfl) rfl rfl (Nat.le_of_ble_eq_true rfl) dX8_arrived_39) (fun G48 hw => ?_)
  exact v_loc [0, 1] rfl (sbX8_arrived_42 hR F  hw)
set_option maxRecDepth 100000 in
theorem sX8_arrived {l : Launch} {D : Dx} {a0 : Nat} {a1 : Nat} {G : Wd} {Q : Wd → Prop} (hw : wpX8_arrived a0 a1 G Q) : Met l yX8_arrived (wM yX8_arrived cX8_arrived 2 none) rmX8_arrived (PM D [.ref a0, .ref a1] G) (QMv D Q) 0 0 (Ab D) := by
  refine v_met (by decide) (Nat.le_of_ble_eq_true rfl) (fun X hl hR F => ?_)
  subst hl
  have F : Fx X D cX8_arrived 2 RX8 none "arrived" := F
  refine v_cast (L' := [(0, .ref a0), (1, .ref a1)]) rfl rfl ?_
  unfold wpX8_arrived at hw
  refine v_aload_n F dX8_arrived_0 rfl 0 rfl ?_
  obtain ⟨kd49, hw⟩ := hw
  refine v_get F fl_X8_19 kd49 rfl dX8_arrived_1 ?_
  refine v_if_eq (tgt := 31) F dX8_arrived_4 (by decide) (fun h => ?_) (fun h => ?_)
  · rw [if_pos h] at hw
    exact v_loc [0, 1] rfl (sbX8_arrived_31 hR F  hw)
  · rw [if_neg h] at hw
    refine v_aload_n F dX8_arrived_7 rfl 1 rfl ?_
    obtain ⟨kd50, hw⟩ := hw
    refine v_callq (r_V F lk_X8_23 kd50 (sX9_low hw) (mkRm hR rfl rfl rfl rfl rfl rfl) rfl rfl (Nat.le_of_ble_eq_true rfl) dX8_arrived_8) (fun r51 G52 hw => ?_)
    obtain ⟨b53, hr, hw⟩ := hw
    subst hr
    obtain ⟨kd54, hw⟩ := hw
    refine v_get F fl_X8_28 kd54 rfl dX8_arrived_11 ?_
    refine v_if_ne (tgt := 31) F dX8_arrived_14 (by decide) (fun h => ?_) (fun h => ?_)
    · rw [if_neg h] at hw
      exact v_loc [0, 1] rfl (sbX8_arrived_31 hR F  hw)
    · rw [if_pos h] at hw
      refine v_aload_n F dX8_arrived_17 rfl 1 rfl ?_
      obtain ⟨kd55, hw⟩ := hw
      refine v_callq (r_V F lk_X8_23 kd55 (sX9_low hw) (mkRm hR rfl rfl rfl rfl rfl rfl) rfl rfl (Nat.le_of_ble_eq_true rfl) dX8_arrived_18) (fun r56 G57 hw => ?_)
      obtain ⟨b58, hr, hw⟩ := hw
      subst hr
      refine v_aload_n F dX8_arrived_21 rfl 0 rfl ?_
      obtain ⟨kd59, hw⟩ := hw
      obtain ⟨b60, hr61, hw⟩ := hw
      refine v_getS F fl_X8_10 (fun _ => rfl) kd59 hr61 dX8_arrived_22 ?_
      obtain ⟨kd62, hw⟩ := hw
      refine v_calli (r_V F lk_X8_31 kd62 (sX2_isLess hw) (mkRm hR rfl rfl rfl rfl rfl rfl) rfl rfl (Nat.le_of_ble_eq_true rfl) dX8_arrived_25) (fun r63 G64 hw => ?_)
      refine v_if_eq (tgt := 42) F dX8_arrived_28 (by decide) (fun h => ?_) (fun h => ?_)
      · rw [if_pos h] at hw
        exact v_loc [0, 1] rfl (sbX8_arrived_42 hR F  hw)
      · rw [if_neg h] at hw
        exact v_loc [0, 1] rfl (sbX8_arrived_31 hR F  hw)
set_option maxRecDepth 100000 in
theorem sX9_init {l : Launch} {D : Dx} {a0 : Nat} {G : Wd} {Q : Wd → Prop} (hw : wpX9_init a0 G Q) : Met l yX9_init (wM yX9_init cX9_init 2 none) rmX9_init (PM D [.ref a0] G) (QMv D Q) 27 132 (Ab D) := by
  refine v_met (by decide) (Nat.le_of_ble_eq_true rfl) (fun X hl hR F => ?_)
  subst hl
  have F : Fx X D cX9_init 2 RX9 none "<init>" := F
  refine v_cast (L' := [(0, .ref a0)]) rfl rfl ?_
  unfold wpX9_init at hw
  refine v_aload_n F dX9_init_0 rfl 0 rfl ?_
  refine v_objInit F wd_99 wd_86 wd_87 (by rw [hR]; exact Nat.le_of_ble_eq_true rfl) (by rw [hR]; exact Nat.le_of_ble_eq_true rfl) dX9_init_1 ?_
  refine v_aload_n F dX9_init_4 rfl 0 rfl ?_
  refine v_bipush (v := 24) F dX9_init_5 (by decide) ?_
  refine v_anew (t := 5) (N := 24) F rfl (by decide +kernel) wd_100 (by decide) (by decide) (by decide) (by rw [hR]; exact Nat.le_of_ble_eq_true rfl) (by rw [hR]; exact Nat.le_of_ble_eq_true rfl) dX9_init_7 ?_
  generalize hz2 : gZ G = z2
  refine v_nmG (fun G1 hG1 => ?_)
  have hw := hw z2 G1 hz2.symm hG1
  obtain ⟨kd3, hw⟩ := hw
  refine v_putR F fl_X9_11 (fun _ => rfl) ⟨rfl, rfl, fun _ => rfl⟩ kd3 dX9_init_10 ?_
  refine v_nmG (fun G4 hG4 => ?_)
  have hw := hw G4 hG4
  refine v_aload_n F dX9_init_13 rfl 0 rfl ?_
  refine v_bipush (v := 10) F dX9_init_14 (by decide) ?_
  refine v_newaI (N := 10) F wd_125 (by decide) (by decide) (by decide) (by rw [hR]; exact Nat.le_of_ble_eq_true rfl) (by rw [hR]; exact Nat.le_of_ble_eq_true rfl) dX9_init_16 ?_
  generalize hz6 : gZ G4 = z6
  refine v_nmG (fun G5 hG5 => ?_)
  have hw := hw z6 G5 hz6.symm hG5
  obtain ⟨kd7, hw⟩ := hw
  refine v_putR F fl_X9_17 (fun _ => rfl) ⟨rfl, rfl, fun _ => rfl⟩ kd7 dX9_init_18 ?_
  refine v_nmG (fun G8 hG8 => ?_)
  have hw := hw G8 hG8
  refine v_aload_n F dX9_init_21 rfl 0 rfl ?_
  refine v_bipush (v := 11) F dX9_init_22 (by decide) ?_
  refine v_anew (t := 4) (N := 11) F rfl (by decide +kernel) wd_101 (by decide) (by decide) (by decide) (by rw [hR]; exact Nat.le_of_ble_eq_true rfl) (by rw [hR]; exact Nat.le_of_ble_eq_true rfl) dX9_init_24 ?_
  generalize hz10 : gZ G8 = z10
  refine v_nmG (fun G9 hG9 => ?_)
  have hw := hw z10 G9 hz10.symm hG9
  obtain ⟨kd11, hw⟩ := hw
  refine v_putR F fl_X9_23 (fun _ => rfl) ⟨rfl, rfl, fun _ => rfl⟩ kd11 dX9_init_27 ?_
  refine v_nmG (fun G12 hG12 => ?_)
  have hw := hw G12 hG12
  refine v_aload_n F dX9_init_30 rfl 0 rfl ?_
  refine v_bipush (v := 11) F dX9_init_31 (by decide) ?_
  refine v_anew (t := 4) (N := 11) F rfl (by decide +kernel) wd_101 (by decide) (by decide) (by decide) (by rw [hR]; exact Nat.le_of_ble_eq_true rfl) (by rw [hR]; exact Nat.le_of_ble_eq_true rfl) dX9_init_33 ?_
  generalize hz14 : gZ G12 = z14
  refine v_nmG (fun G13 hG13 => ?_)
  have hw := hw z14 G13 hz14.symm hG13
  obtain ⟨kd15, hw⟩ := hw
  refine v_putR F fl_X9_27 (fun _ => rfl) ⟨rfl, rfl, fun _ => rfl⟩ kd15 dX9_init_36 ?_
  refine v_nmG (fun G16 hG16 => ?_)
  have hw := hw G16 hG16
  refine v_aload_n F dX9_init_39 rfl 0 rfl ?_
  refine v_bipush (v := 10) F dX9_init_40 (by decide) ?_
  refine v_newaI (N := 10) F wd_125 (by decide) (by decide) (by decide) (by rw [hR]; exact Nat.le_of_ble_eq_true rfl) (by rw [hR]; exact Nat.le_of_ble_eq_true rfl) dX9_init_42 ?_
  generalize hz18 : gZ G16 = z18
  refine v_nmG (fun G17 hG17 => ?_)
  have hw := hw z18 G17 hz18.symm hG17
  obtain ⟨kd19, hw⟩ := hw
  refine v_putR F fl_X9_30 (fun _ => rfl) ⟨rfl, rfl, fun _ => rfl⟩ kd19 dX9_init_44 ?_
  refine v_nmG (fun G20 hG20 => ?_)
  have hw := hw G20 hG20
  refine v_iconst (v := 0) F dX9_init_47 (by decide) ?_
  refine v_istore_n (L' := [(1, .int 0), (0, .ref a0)]) F dX9_init_48 rfl (by decide) rfl ?_
  refine v_iload_n F dX9_init_49 rfl 0 rfl ?_
  refine v_bipush (v := 10) F dX9_init_50 (by decide) ?_
  refine v_icmp_gt (tgt := 87) F dX9_init_52 (by decide) (fun h => absurd h (by decide)) (fun _ => ?_)
  refine v_aload_n F dX9_init_55 rfl 1 rfl ?_
  have kd21 : gK G20 a0 = 9 := by rw [hG20]; exact kd19
  obtain ⟨b22, hr23, hw⟩ := hw
  refine v_getS F fl_X9_23 (fun _ => rfl) kd21 hr23 dX9_init_56 ?_
  refine v_iload_n F dX9_init_59 rfl 0 rfl ?_
  refine v_new (ci := 2) F rfl rfl wd_101 wd_103 wd_65 (by rw [hR]; exact Nat.le_of_ble_eq_true rfl) (by rw [hR]; exact Nat.le_of_ble_eq_true rfl) dX9_init_60 ?_
  generalize hz25 : gZ G20 = z25
  refine v_nmG (fun G24 hG24 => ?_)
  have hw := hw z25 G24 hz25.symm hG24
  refine v_dup F dX9_init_63 rfl ?_
  refine v_callv (r_N F ln_X9_33 (sX2_init hw) (mkRm hR rfl rfl rfl rfl rfl rfl) rfl rfl (Nat.le_of_ble_eq_true rfl) dX9_init_64) (fun G27 hw => ?_)
  obtain ⟨kd28, hw⟩ := hw
  obtain ⟨kd31, hw⟩ := hw
  obtain ⟨hi29, hw⟩ := hw
  refine v_aastE (t := 4) (ci := 2) F rfl rfl (k := 0) (by decide) kd28 kd31 hi29 dX9_init_67 (fun G30 hG30 => ?_)
  have hw := hw G30 hG30
  refine v_aload_n F dX9_init_68 rfl 1 rfl ?_
  obtain ⟨kd32, hw⟩ := hw
  obtain ⟨b33, hr34, hw⟩ := hw
  refine v_getS F fl_X9_27 (fun _ => rfl) kd32 hr34 dX9_init_69 ?_
  refine v_iload_n F dX9_init_72 rfl 0 rfl ?_
  refine v_new (ci := 2) F rfl rfl wd_101 wd_103 wd_65 (by rw [hR]; exact Nat.le_of_ble_eq_true rfl) (by rw [hR]; exact Nat.le_of_ble_eq_true rfl) dX9_init_73 ?_
  generalize hz36 : gZ G30 = z36
  refine v_nmG (fun G35 hG35 => ?_)
  have hw := hw z36 G35 hz36.symm hG35
  refine v_dup F dX9_init_76 rfl ?_
  refine v_callv (r_N F ln_X9_33 (sX2_init hw) (mkRm hR rfl rfl rfl rfl rfl rfl) rfl rfl (Nat.le_of_ble_eq_true rfl) dX9_init_77) (fun G38 hw => ?_)
  obtain ⟨kd39, hw⟩ := hw
  obtain ⟨kd42, hw⟩ := hw
  obtain ⟨hi40, hw⟩ := hw
  refine v_aastE (t := 4) (ci := 2) F rfl rfl (k := 0) (by decide) kd39 kd42 hi40 dX9_init_80 (fun G41 hG41 => ?_)
  have hw := hw G41 hG41
  refine v_iinc (v := 1) (L' := [(1, .int 1), (0, .ref a0)]) F dX9_init_81 0 rfl (by decide) (by decide) rfl ?_
  refine v_goto (tgt := 49) F dX9_init_84 (by decide) ?_
  refine v_iload_n F dX9_init_49 rfl 0 rfl ?_
  refine v_bipush (v := 10) F dX9_init_50 (by decide) ?_
  refine v_icmp_gt (tgt := 87) F dX9_init_52 (by decide) (fun h => absurd h (by decide)) (fun _ => ?_)
  refine v_aload_n F dX9_init_55 rfl 1 rfl ?_
  obtain ⟨kd43, hw⟩ := hw
  obtain ⟨b44, hr45, hw⟩ := hw
  refine v_getS F fl_X9_23 (fun _ => rfl) kd43 hr45 dX9_init_56 ?_
  refine v_iload_n F dX9_init_59 rfl 0 rfl ?_
  refine v_new (ci := 2) F rfl rfl wd_101 wd_103 wd_65 (by rw [hR]; exact Nat.le_of_ble_eq_true rfl) (by rw [hR]; exact Nat.le_of_ble_eq_true rfl) dX9_init_60 ?_
  generalize hz47 : gZ G41 = z47
  refine v_nmG (fun G46 hG46 => ?_)
  have hw := hw z47 G46 hz47.symm hG46
  refine v_dup F dX9_init_63 rfl ?_
  refine v_callv (r_N F ln_X9_33 (sX2_init hw) (mkRm hR rfl rfl rfl rfl rfl rfl) rfl rfl (Nat.le_of_ble_eq_true rfl) dX9_init_64) (fun G49 hw => ?_)
  obtain ⟨kd50, hw⟩ := hw
  obtain ⟨kd53, hw⟩ := hw
  obtain ⟨hi51, hw⟩ := hw
  refine v_aastE (t := 4) (ci := 2) F rfl rfl (k := 1) (by decide) kd50 kd53 hi51 dX9_init_67 (fun G52 hG52 => ?_)
  have hw := hw G52 hG52
  refine v_aload_n F dX9_init_68 rfl 1 rfl ?_
  obtain ⟨kd54, hw⟩ := hw
  obtain ⟨b55, hr56, hw⟩ := hw
  refine v_getS F fl_X9_27 (fun _ => rfl) kd54 hr56 dX9_init_69 ?_
  refine v_iload_n F dX9_init_72 rfl 0 rfl ?_
  refine v_new (ci := 2) F rfl rfl wd_101 wd_103 wd_65 (by rw [hR]; exact Nat.le_of_ble_eq_true rfl) (by rw [hR]; exact Nat.le_of_ble_eq_true rfl) dX9_init_73 ?_
  generalize hz58 : gZ G52 = z58
  refine v_nmG (fun G57 hG57 => ?_)
  have hw := hw z58 G57 hz58.symm hG57
  refine v_dup F dX9_init_76 rfl ?_
  refine v_callv (r_N F ln_X9_33 (sX2_init hw) (mkRm hR rfl rfl rfl rfl rfl rfl) rfl rfl (Nat.le_of_ble_eq_true rfl) dX9_init_77) (fun G60 hw => ?_)
  obtain ⟨kd61, hw⟩ := hw
  obtain ⟨kd64, hw⟩ := hw
  obtain ⟨hi62, hw⟩ := hw
  refine v_aastE (t := 4) (ci := 2) F rfl rfl (k := 1) (by decide) kd61 kd64 hi62 dX9_init_80 (fun G63 hG63 => ?_)
  have hw := hw G63 hG63
  refine v_iinc (v := 2) (L' := [(1, .int 2), (0, .ref a0)]) F dX9_init_81 0 rfl (by decide) (by decide) rfl ?_
  refine v_goto (tgt := 49) F dX9_init_84 (by decide) ?_
  refine v_iload_n F dX9_init_49 rfl 0 rfl ?_
  refine v_bipush (v := 10) F dX9_init_50 (by decide) ?_
  refine v_icmp_gt (tgt := 87) F dX9_init_52 (by decide) (fun h => absurd h (by decide)) (fun _ => ?_)
  refine v_aload_n F dX9_init_55 rfl 1 rfl ?_
  obtain ⟨kd65, hw⟩ := hw
  obtain ⟨b66, hr67, hw⟩ := hw
  refine v_getS F fl_X9_23 (fun _ => rfl) kd65 hr67 dX9_init_56 ?_
  refine v_iload_n F dX9_init_59 rfl 0 rfl ?_
  refine v_new (ci := 2) F rfl rfl wd_101 wd_103 wd_65 (by rw [hR]; exact Nat.le_of_ble_eq_true rfl) (by rw [hR]; exact Nat.le_of_ble_eq_true rfl) dX9_init_60 ?_
  generalize hz69 : gZ G63 = z69
  refine v_nmG (fun G68 hG68 => ?_)
  have hw := hw z69 G68 hz69.symm hG68
  refine v_dup F dX9_init_63 rfl ?_
  refine v_callv (r_N F ln_X9_33 (sX2_init hw) (mkRm hR rfl rfl rfl rfl rfl rfl) rfl rfl (Nat.le_of_ble_eq_true rfl) dX9_init_64) (fun G71 hw => ?_)
  obtain ⟨kd72, hw⟩ := hw
  obtain ⟨kd75, hw⟩ := hw
  obtain ⟨hi73, hw⟩ := hw
  refine v_aastE (t := 4) (ci := 2) F rfl rfl (k := 2) (by decide) kd72 kd75 hi73 dX9_init_67 (fun G74 hG74 => ?_)
  have hw := hw G74 hG74
  refine v_aload_n F dX9_init_68 rfl 1 rfl ?_
  obtain ⟨kd76, hw⟩ := hw
  obtain ⟨b77, hr78, hw⟩ := hw
  refine v_getS F fl_X9_27 (fun _ => rfl) kd76 hr78 dX9_init_69 ?_
  refine v_iload_n F dX9_init_72 rfl 0 rfl ?_
  refine v_new (ci := 2) F rfl rfl wd_101 wd_103 wd_65 (by rw [hR]; exact Nat.le_of_ble_eq_true rfl) (by rw [hR]; exact Nat.le_of_ble_eq_true rfl) dX9_init_73 ?_
  generalize hz80 : gZ G74 = z80
  refine v_nmG (fun G79 hG79 => ?_)
  have hw := hw z80 G79 hz80.symm hG79
  refine v_dup F dX9_init_76 rfl ?_
  refine v_callv (r_N F ln_X9_33 (sX2_init hw) (mkRm hR rfl rfl rfl rfl rfl rfl) rfl rfl (Nat.le_of_ble_eq_true rfl) dX9_init_77) (fun G82 hw => ?_)
  obtain ⟨kd83, hw⟩ := hw
  obtain ⟨kd86, hw⟩ := hw
  obtain ⟨hi84, hw⟩ := hw
  refine v_aastE (t := 4) (ci := 2) F rfl rfl (k := 2) (by decide) kd83 kd86 hi84 dX9_init_80 (fun G85 hG85 => ?_)
  have hw := hw G85 hG85
  refine v_iinc (v := 3) (L' := [(1, .int 3), (0, .ref a0)]) F dX9_init_81 0 rfl (by decide) (by decide) rfl ?_
  refine v_goto (tgt := 49) F dX9_init_84 (by decide) ?_
  refine v_iload_n F dX9_init_49 rfl 0 rfl ?_
  refine v_bipush (v := 10) F dX9_init_50 (by decide) ?_
  refine v_icmp_gt (tgt := 87) F dX9_init_52 (by decide) (fun h => absurd h (by decide)) (fun _ => ?_)
  refine v_aload_n F dX9_init_55 rfl 1 rfl ?_
  obtain ⟨kd87, hw⟩ := hw
  obtain ⟨b88, hr89, hw⟩ := hw
  refine v_getS F fl_X9_23 (fun _ => rfl) kd87 hr89 dX9_init_56 ?_
  refine v_iload_n F dX9_init_59 rfl 0 rfl ?_
  refine v_new (ci := 2) F rfl rfl wd_101 wd_103 wd_65 (by rw [hR]; exact Nat.le_of_ble_eq_true rfl) (by rw [hR]; exact Nat.le_of_ble_eq_true rfl) dX9_init_60 ?_
  generalize hz91 : gZ G85 = z91
  refine v_nmG (fun G90 hG90 => ?_)
  have hw := hw z91 G90 hz91.symm hG90
  refine v_dup F dX9_init_63 rfl ?_
  refine v_callv (r_N F ln_X9_33 (sX2_init hw) (mkRm hR rfl rfl rfl rfl rfl rfl) rfl rfl (Nat.le_of_ble_eq_true rfl) dX9_init_64) (fun G93 hw => ?_)
  obtain ⟨kd94, hw⟩ := hw
  obtain ⟨kd97, hw⟩ := hw
  obtain ⟨hi95, hw⟩ := hw
  refine v_aastE (t := 4) (ci := 2) F rfl rfl (k := 3) (by decide) kd94 kd97 hi95 dX9_init_67 (fun G96 hG96 => ?_)
  have hw := hw G96 hG96
  refine v_aload_n F dX9_init_68 rfl 1 rfl ?_
  obtain ⟨kd98, hw⟩ := hw
  obtain ⟨b99, hr100, hw⟩ := hw
  refine v_getS F fl_X9_27 (fun _ => rfl) kd98 hr100 dX9_init_69 ?_
  refine v_iload_n F dX9_init_72 rfl 0 rfl ?_
  refine v_new (ci := 2) F rfl rfl wd_101 wd_103 wd_65 (by rw [hR]; exact Nat.le_of_ble_eq_true rfl) (by rw [hR]; exact Nat.le_of_ble_eq_true rfl) dX9_init_73 ?_
  generalize hz102 : gZ G96 = z102
  refine v_nmG (fun G101 hG101 => ?_)
  have hw := hw z102 G101 hz102.symm hG101
  refine v_dup F dX9_init_76 rfl ?_
  refine v_callv (r_N F ln_X9_33 (sX2_init hw) (mkRm hR rfl rfl rfl rfl rfl rfl) rfl rfl (Nat.le_of_ble_eq_true rfl) dX9_init_77) (fun G104 hw => ?_)
  obtain ⟨kd105, hw⟩ := hw
  obtain ⟨kd108, hw⟩ := hw
  obtain ⟨hi106, hw⟩ := hw
  refine v_aastE (t := 4) (ci := 2) F rfl rfl (k := 3) (by decide) kd105 kd108 hi106 dX9_init_80 (fun G107 hG107 => ?_)
  have hw := hw G107 hG107
  refine v_iinc (v := 4) (L' := [(1, .int 4), (0, .ref a0)]) F dX9_init_81 0 rfl (by decide) (by decide) rfl ?_
  refine v_goto (tgt := 49) F dX9_init_84 (by decide) ?_
  refine v_iload_n F dX9_init_49 rfl 0 rfl ?_
  refine v_bipush (v := 10) F dX9_init_50 (by decide) ?_
  refine v_icmp_gt (tgt := 87) F dX9_init_52 (by decide) (fun h => absurd h (by decide)) (fun _ => ?_)
  refine v_aload_n F dX9_init_55 rfl 1 rfl ?_
  obtain ⟨kd109, hw⟩ := hw
  obtain ⟨b110, hr111, hw⟩ := hw
  refine v_getS F fl_X9_23 (fun _ => rfl) kd109 hr111 dX9_init_56 ?_
  refine v_iload_n F dX9_init_59 rfl 0 rfl ?_
  refine v_new (ci := 2) F rfl rfl wd_101 wd_103 wd_65 (by rw [hR]; exact Nat.le_of_ble_eq_true rfl) (by rw [hR]; exact Nat.le_of_ble_eq_true rfl) dX9_init_60 ?_
  generalize hz113 : gZ G107 = z113
  refine v_nmG (fun G112 hG112 => ?_)
  have hw := hw z113 G112 hz113.symm hG112
  refine v_dup F dX9_init_63 rfl ?_
  refine v_callv (r_N F ln_X9_33 (sX2_init hw) (mkRm hR rfl rfl rfl rfl rfl rfl) rfl rfl (Nat.le_of_ble_eq_true rfl) dX9_init_64) (fun G115 hw => ?_)
  obtain ⟨kd116, hw⟩ := hw
  obtain ⟨kd119, hw⟩ := hw
  obtain ⟨hi117, hw⟩ := hw
  refine v_aastE (t := 4) (ci := 2) F rfl rfl (k := 4) (by decide) kd116 kd119 hi117 dX9_init_67 (fun G118 hG118 => ?_)
  have hw := hw G118 hG118
  refine v_aload_n F dX9_init_68 rfl 1 rfl ?_
  obtain ⟨kd120, hw⟩ := hw
  obtain ⟨b121, hr122, hw⟩ := hw
  refine v_getS F fl_X9_27 (fun _ => rfl) kd120 hr122 dX9_init_69 ?_
  refine v_iload_n F dX9_init_72 rfl 0 rfl ?_
  refine v_new (ci := 2) F rfl rfl wd_101 wd_103 wd_65 (by rw [hR]; exact Nat.le_of_ble_eq_true rfl) (by rw [hR]; exact Nat.le_of_ble_eq_true rfl) dX9_init_73 ?_
  generalize hz124 : gZ G118 = z124
  refine v_nmG (fun G123 hG123 => ?_)
  have hw := hw z124 G123 hz124.symm hG123
  refine v_dup F dX9_init_76 rfl ?_
  refine v_callv (r_N F ln_X9_33 (sX2_init hw) (mkRm hR rfl rfl rfl rfl rfl rfl) rfl rfl (Nat.le_of_ble_eq_true rfl) dX9_init_77) (fun G126 hw => ?_)
  obtain ⟨kd127, hw⟩ := hw
  obtain ⟨kd130, hw⟩ := hw
  obtain ⟨hi128, hw⟩ := hw
  refine v_aastE (t := 4) (ci := 2) F rfl rfl (k := 4) (by decide) kd127 kd130 hi128 dX9_init_80 (fun G129 hG129 => ?_)
  have hw := hw G129 hG129
  refine v_iinc (v := 5) (L' := [(1, .int 5), (0, .ref a0)]) F dX9_init_81 0 rfl (by decide) (by decide) rfl ?_
  refine v_goto (tgt := 49) F dX9_init_84 (by decide) ?_
  refine v_iload_n F dX9_init_49 rfl 0 rfl ?_
  refine v_bipush (v := 10) F dX9_init_50 (by decide) ?_
  refine v_icmp_gt (tgt := 87) F dX9_init_52 (by decide) (fun h => absurd h (by decide)) (fun _ => ?_)
  refine v_aload_n F dX9_init_55 rfl 1 rfl ?_
  obtain ⟨kd131, hw⟩ := hw
  obtain ⟨b132, hr133, hw⟩ := hw
  refine v_getS F fl_X9_23 (fun _ => rfl) kd131 hr133 dX9_init_56 ?_
  refine v_iload_n F dX9_init_59 rfl 0 rfl ?_
  refine v_new (ci := 2) F rfl rfl wd_101 wd_103 wd_65 (by rw [hR]; exact Nat.le_of_ble_eq_true rfl) (by rw [hR]; exact Nat.le_of_ble_eq_true rfl) dX9_init_60 ?_
  generalize hz135 : gZ G129 = z135
  refine v_nmG (fun G134 hG134 => ?_)
  have hw := hw z135 G134 hz135.symm hG134
  refine v_dup F dX9_init_63 rfl ?_
  refine v_callv (r_N F ln_X9_33 (sX2_init hw) (mkRm hR rfl rfl rfl rfl rfl rfl) rfl rfl (Nat.le_of_ble_eq_true rfl) dX9_init_64) (fun G137 hw => ?_)
  obtain ⟨kd138, hw⟩ := hw
  obtain ⟨kd141, hw⟩ := hw
  obtain ⟨hi139, hw⟩ := hw
  refine v_aastE (t := 4) (ci := 2) F rfl rfl (k := 5) (by decide) kd138 kd141 hi139 dX9_init_67 (fun G140 hG140 => ?_)
  have hw := hw G140 hG140
  refine v_aload_n F dX9_init_68 rfl 1 rfl ?_
  obtain ⟨kd142, hw⟩ := hw
  obtain ⟨b143, hr144, hw⟩ := hw
  refine v_getS F fl_X9_27 (fun _ => rfl) kd142 hr144 dX9_init_69 ?_
  refine v_iload_n F dX9_init_72 rfl 0 rfl ?_
  refine v_new (ci := 2) F rfl rfl wd_101 wd_103 wd_65 (by rw [hR]; exact Nat.le_of_ble_eq_true rfl) (by rw [hR]; exact Nat.le_of_ble_eq_true rfl) dX9_init_73 ?_
  generalize hz146 : gZ G140 = z146
  refine v_nmG (fun G145 hG145 => ?_)
  have hw := hw z146 G145 hz146.symm hG145
  refine v_dup F dX9_init_76 rfl ?_
  refine v_callv (r_N F ln_X9_33 (sX2_init hw) (mkRm hR rfl rfl rfl rfl rfl rfl) rfl rfl (Nat.le_of_ble_eq_true rfl) dX9_init_77) (fun G148 hw => ?_)
  obtain ⟨kd149, hw⟩ := hw
  obtain ⟨kd152, hw⟩ := hw
  obtain ⟨hi150, hw⟩ := hw
  refine v_aastE (t := 4) (ci := 2) F rfl rfl (k := 5) (by decide) kd149 kd152 hi150 dX9_init_80 (fun G151 hG151 => ?_)
  have hw := hw G151 hG151
  refine v_iinc (v := 6) (L' := [(1, .int 6), (0, .ref a0)]) F dX9_init_81 0 rfl (by decide) (by decide) rfl ?_
  refine v_goto (tgt := 49) F dX9_init_84 (by decide) ?_
  refine v_iload_n F dX9_init_49 rfl 0 rfl ?_
  refine v_bipush (v := 10) F dX9_init_50 (by decide) ?_
  refine v_icmp_gt (tgt := 87) F dX9_init_52 (by decide) (fun h => absurd h (by decide)) (fun _ => ?_)
  refine v_aload_n F dX9_init_55 rfl 1 rfl ?_
  obtain ⟨kd153, hw⟩ := hw
  obtain ⟨b154, hr155, hw⟩ := hw
  refine v_getS F fl_X9_23 (fun _ => rfl) kd153 hr155 dX9_init_56 ?_
  refine v_iload_n F dX9_init_59 rfl 0 rfl ?_
  refine v_new (ci := 2) F rfl rfl wd_101 wd_103 wd_65 (by rw [hR]; exact Nat.le_of_ble_eq_true rfl) (by rw [hR]; exact Nat.le_of_ble_eq_true rfl) dX9_init_60 ?_
  generalize hz157 : gZ G151 = z157
  refine v_nmG (fun G156 hG156 => ?_)
  have hw := hw z157 G156 hz157.symm hG156
  refine v_dup F dX9_init_63 rfl ?_
  refine v_callv (r_N F ln_X9_33 (sX2_init hw) (mkRm hR rfl rfl rfl rfl rfl rfl) rfl rfl (Nat.le_of_ble_eq_true rfl) dX9_init_64) (fun G159 hw => ?_)
  obtain ⟨kd160, hw⟩ := hw
  obtain ⟨kd163, hw⟩ := hw
  obtain ⟨hi161, hw⟩ := hw
  refine v_aastE (t := 4) (ci := 2) F rfl rfl (k := 6) (by decide) kd160 kd163 hi161 dX9_init_67 (fun G162 hG162 => ?_)
  have hw := hw G162 hG162
  refine v_aload_n F dX9_init_68 rfl 1 rfl ?_
  obtain ⟨kd164, hw⟩ := hw
  obtain ⟨b165, hr166, hw⟩ := hw
  refine v_getS F fl_X9_27 (fun _ => rfl) kd164 hr166 dX9_init_69 ?_
  refine v_iload_n F dX9_init_72 rfl 0 rfl ?_
  refine v_new (ci := 2) F rfl rfl wd_101 wd_103 wd_65 (by rw [hR]; exact Nat.le_of_ble_eq_true rfl) (by rw [hR]; exact Nat.le_of_ble_eq_true rfl) dX9_init_73 ?_
  generalize hz168 : gZ G162 = z168
  refine v_nmG (fun G167 hG167 => ?_)
  have hw := hw z168 G167 hz168.symm hG167
  refine v_dup F dX9_init_76 rfl ?_
  refine v_callv (r_N F ln_X9_33 (sX2_init hw) (mkRm hR rfl rfl rfl rfl rfl rfl) rfl rfl (Nat.le_of_ble_eq_true rfl) dX9_init_77) (fun G170 hw => ?_)
  obtain ⟨kd171, hw⟩ := hw
  obtain ⟨kd174, hw⟩ := hw
  obtain ⟨hi172, hw⟩ := hw
  refine v_aastE (t := 4) (ci := 2) F rfl rfl (k := 6) (by decide) kd171 kd174 hi172 dX9_init_80 (fun G173 hG173 => ?_)
  have hw := hw G173 hG173
  refine v_iinc (v := 7) (L' := [(1, .int 7), (0, .ref a0)]) F dX9_init_81 0 rfl (by decide) (by decide) rfl ?_
  refine v_goto (tgt := 49) F dX9_init_84 (by decide) ?_
  refine v_iload_n F dX9_init_49 rfl 0 rfl ?_
  refine v_bipush (v := 10) F dX9_init_50 (by decide) ?_
  refine v_icmp_gt (tgt := 87) F dX9_init_52 (by decide) (fun h => absurd h (by decide)) (fun _ => ?_)
  refine v_aload_n F dX9_init_55 rfl 1 rfl ?_
  obtain ⟨kd175, hw⟩ := hw
  obtain ⟨b176, hr177, hw⟩ := hw
  refine v_getS F fl_X9_23 (fun _ => rfl) kd175 hr177 dX9_init_56 ?_
  refine v_iload_n F dX9_init_59 rfl 0 rfl ?_
  refine v_new (ci := 2) F rfl rfl wd_101 wd_103 wd_65 (by rw [hR]; exact Nat.le_of_ble_eq_true rfl) (by rw [hR]; exact Nat.le_of_ble_eq_true rfl) dX9_init_60 ?_
  generalize hz179 : gZ G173 = z179
  refine v_nmG (fun G178 hG178 => ?_)
  have hw := hw z179 G178 hz179.symm hG178
  refine v_dup F dX9_init_63 rfl ?_
  refine v_callv (r_N F ln_X9_33 (sX2_init hw) (mkRm hR rfl rfl rfl rfl rfl rfl) rfl rfl (Nat.le_of_ble_eq_true rfl) dX9_init_64) (fun G181 hw => ?_)
  obtain ⟨kd182, hw⟩ := hw
  obtain ⟨kd185, hw⟩ := hw
  obtain ⟨hi183, hw⟩ := hw
  refine v_aastE (t := 4) (ci := 2) F rfl rfl (k := 7) (by decide) kd182 kd185 hi183 dX9_init_67 (fun G184 hG184 => ?_)
  have hw := hw G184 hG184
  refine v_aload_n F dX9_init_68 rfl 1 rfl ?_
  obtain ⟨kd186, hw⟩ := hw
  obtain ⟨b187, hr188, hw⟩ := hw
  refine v_getS F fl_X9_27 (fun _ => rfl) kd186 hr188 dX9_init_69 ?_
  refine v_iload_n F dX9_init_72 rfl 0 rfl ?_
  refine v_new (ci := 2) F rfl rfl wd_101 wd_103 wd_65 (by rw [hR]; exact Nat.le_of_ble_eq_true rfl) (by rw [hR]; exact Nat.le_of_ble_eq_true rfl) dX9_init_73 ?_
  generalize hz190 : gZ G184 = z190
  refine v_nmG (fun G189 hG189 => ?_)
  have hw := hw z190 G189 hz190.symm hG189
  refine v_dup F dX9_init_76 rfl ?_
  refine v_callv (r_N F ln_X9_33 (sX2_init hw) (mkRm hR rfl rfl rfl rfl rfl rfl) rfl rfl (Nat.le_of_ble_eq_true rfl) dX9_init_77) (fun G192 hw => ?_)
  obtain ⟨kd193, hw⟩ := hw
  obtain ⟨kd196, hw⟩ := hw
  obtain ⟨hi194, hw⟩ := hw
  refine v_aastE (t := 4) (ci := 2) F rfl rfl (k := 7) (by decide) kd193 kd196 hi194 dX9_init_80 (fun G195 hG195 => ?_)
  have hw := hw G195 hG195
  refine v_iinc (v := 8) (L' := [(1, .int 8), (0, .ref a0)]) F dX9_init_81 0 rfl (by decide) (by decide) rfl ?_
  refine v_goto (tgt := 49) F dX9_init_84 (by decide) ?_
  refine v_iload_n F dX9_init_49 rfl 0 rfl ?_
  refine v_bipush (v := 10) F dX9_init_50 (by decide) ?_
  refine v_icmp_gt (tgt := 87) F dX9_init_52 (by decide) (fun h => absurd h (by decide)) (fun _ => ?_)
  refine v_aload_n F dX9_init_55 rfl 1 rfl ?_
  obtain ⟨kd197, hw⟩ := hw
  obtain ⟨b198, hr199, hw⟩ := hw
  refine v_getS F fl_X9_23 (fun _ => rfl) kd197 hr199 dX9_init_56 ?_
  refine v_iload_n F dX9_init_59 rfl 0 rfl ?_
  refine v_new (ci := 2) F rfl rfl wd_101 wd_103 wd_65 (by rw [hR]; exact Nat.le_of_ble_eq_true rfl) (by rw [hR]; exact Nat.le_of_ble_eq_true rfl) dX9_init_60 ?_
  generalize hz201 : gZ G195 = z201
  refine v_nmG (fun G200 hG200 => ?_)
  have hw := hw z201 G200 hz201.symm hG200
  refine v_dup F dX9_init_63 rfl ?_
  refine v_callv (r_N F ln_X9_33 (sX2_init hw) (mkRm hR rfl rfl rfl rfl rfl rfl) rfl rfl (Nat.le_of_ble_eq_true rfl) dX9_init_64) (fun G203 hw => ?_)
  obtain ⟨kd204, hw⟩ := hw
  obtain ⟨kd207, hw⟩ := hw
  obtain ⟨hi205, hw⟩ := hw
  refine v_aastE (t := 4) (ci := 2) F rfl rfl (k := 8) (by decide) kd204 kd207 hi205 dX9_init_67 (fun G206 hG206 => ?_)
  have hw := hw G206 hG206
  refine v_aload_n F dX9_init_68 rfl 1 rfl ?_
  obtain ⟨kd208, hw⟩ := hw
  obtain ⟨b209, hr210, hw⟩ := hw
  refine v_getS F fl_X9_27 (fun _ => rfl) kd208 hr210 dX9_init_69 ?_
  refine v_iload_n F dX9_init_72 rfl 0 rfl ?_
  refine v_new (ci := 2) F rfl rfl wd_101 wd_103 wd_65 (by rw [hR]; exact Nat.le_of_ble_eq_true rfl) (by rw [hR]; exact Nat.le_of_ble_eq_true rfl) dX9_init_73 ?_
  generalize hz212 : gZ G206 = z212
  refine v_nmG (fun G211 hG211 => ?_)
  have hw := hw z212 G211 hz212.symm hG211
  refine v_dup F dX9_init_76 rfl ?_
  refine v_callv (r_N F ln_X9_33 (sX2_init hw) (mkRm hR rfl rfl rfl rfl rfl rfl) rfl rfl (Nat.le_of_ble_eq_true rfl) dX9_init_77) (fun G214 hw => ?_)
  obtain ⟨kd215, hw⟩ := hw
  obtain ⟨kd218, hw⟩ := hw
  obtain ⟨hi216, hw⟩ := hw
  refine v_aastE (t := 4) (ci := 2) F rfl rfl (k := 8) (by decide) kd215 kd218 hi216 dX9_init_80 (fun G217 hG217 => ?_)
  have hw := hw G217 hG217
  refine v_iinc (v := 9) (L' := [(1, .int 9), (0, .ref a0)]) F dX9_init_81 0 rfl (by decide) (by decide) rfl ?_
  refine v_goto (tgt := 49) F dX9_init_84 (by decide) ?_
  refine v_iload_n F dX9_init_49 rfl 0 rfl ?_
  refine v_bipush (v := 10) F dX9_init_50 (by decide) ?_
  refine v_icmp_gt (tgt := 87) F dX9_init_52 (by decide) (fun h => absurd h (by decide)) (fun _ => ?_)
  refine v_aload_n F dX9_init_55 rfl 1 rfl ?_
  obtain ⟨kd219, hw⟩ := hw
  obtain ⟨b220, hr221, hw⟩ := hw
  refine v_getS F fl_X9_23 (fun _ => rfl) kd219 hr221 dX9_init_56 ?_
  refine v_iload_n F dX9_init_59 rfl 0 rfl ?_
  refine v_new (ci := 2) F rfl rfl wd_101 wd_103 wd_65 (by rw [hR]; exact Nat.le_of_ble_eq_true rfl) (by rw [hR]; exact Nat.le_of_ble_eq_true rfl) dX9_init_60 ?_
  generalize hz223 : gZ G217 = z223
  refine v_nmG (fun G222 hG222 => ?_)
  have hw := hw z223 G222 hz223.symm hG222
  refine v_dup F dX9_init_63 rfl ?_
  refine v_callv (r_N F ln_X9_33 (sX2_init hw) (mkRm hR rfl rfl rfl rfl rfl rfl) rfl rfl (Nat.le_of_ble_eq_true rfl) dX9_init_64) (fun G225 hw => ?_)
  obtain ⟨kd226, hw⟩ := hw
  obtain ⟨kd229, hw⟩ := hw
  obtain ⟨hi227, hw⟩ := hw
  refine v_aastE (t := 4) (ci := 2) F rfl rfl (k := 9) (by decide) kd226 kd229 hi227 dX9_init_67 (fun G228 hG228 => ?_)
  have hw := hw G228 hG228
  refine v_aload_n F dX9_init_68 rfl 1 rfl ?_
  obtain ⟨kd230, hw⟩ := hw
  obtain ⟨b231, hr232, hw⟩ := hw
  refine v_getS F fl_X9_27 (fun _ => rfl) kd230 hr232 dX9_init_69 ?_
  refine v_iload_n F dX9_init_72 rfl 0 rfl ?_
  refine v_new (ci := 2) F rfl rfl wd_101 wd_103 wd_65 (by rw [hR]; exact Nat.le_of_ble_eq_true rfl) (by rw [hR]; exact Nat.le_of_ble_eq_true rfl) dX9_init_73 ?_
  generalize hz234 : gZ G228 = z234
  refine v_nmG (fun G233 hG233 => ?_)
  have hw := hw z234 G233 hz234.symm hG233
  refine v_dup F dX9_init_76 rfl ?_
  refine v_callv (r_N F ln_X9_33 (sX2_init hw) (mkRm hR rfl rfl rfl rfl rfl rfl) rfl rfl (Nat.le_of_ble_eq_true rfl) dX9_init_77) (fun G236 hw => ?_)
  obtain ⟨kd237, hw⟩ := hw
  obtain ⟨kd240, hw⟩ := hw
  obtain ⟨hi238, hw⟩ := hw
  refine v_aastE (t := 4) (ci := 2) F rfl rfl (k := 9) (by decide) kd237 kd240 hi238 dX9_init_80 (fun G239 hG239 => ?_)
  have hw := hw G239 hG239
  refine v_iinc (v := 10) (L' := [(1, .int 10), (0, .ref a0)]) F dX9_init_81 0 rfl (by decide) (by decide) rfl ?_
  refine v_goto (tgt := 49) F dX9_init_84 (by decide) ?_
  refine v_iload_n F dX9_init_49 rfl 0 rfl ?_
  refine v_bipush (v := 10) F dX9_init_50 (by decide) ?_
  refine v_icmp_gt (tgt := 87) F dX9_init_52 (by decide) (fun h => absurd h (by decide)) (fun _ => ?_)
  refine v_aload_n F dX9_init_55 rfl 1 rfl ?_
  obtain ⟨kd241, hw⟩ := hw
  obtain ⟨b242, hr243, hw⟩ := hw
  refine v_getS F fl_X9_23 (fun _ => rfl) kd241 hr243 dX9_init_56 ?_
  refine v_iload_n F dX9_init_59 rfl 0 rfl ?_
  refine v_new (ci := 2) F rfl rfl wd_101 wd_103 wd_65 (by rw [hR]; exact Nat.le_of_ble_eq_true rfl) (by rw [hR]; exact Nat.le_of_ble_eq_true rfl) dX9_init_60 ?_
  generalize hz245 : gZ G239 = z245
  refine v_nmG (fun G244 hG244 => ?_)
  have hw := hw z245 G244 hz245.symm hG244
  refine v_dup F dX9_init_63 rfl ?_
  refine v_callv (r_N F ln_X9_33 (sX2_init hw) (mkRm hR rfl rfl rfl rfl rfl rfl) rfl rfl (Nat.le_of_ble_eq_true rfl) dX9_init_64) (fun G247 hw => ?_)
  obtain ⟨kd248, hw⟩ := hw
  obtain ⟨kd251, hw⟩ := hw
  obtain ⟨hi249, hw⟩ := hw
  refine v_aastE (t := 4) (ci := 2) F rfl rfl (k := 10) (by decide) kd248 kd251 hi249 dX9_init_67 (fun G250 hG250 => ?_)
  have hw := hw G250 hG250
  refine v_aload_n F dX9_init_68 rfl 1 rfl ?_
  obtain ⟨kd252, hw⟩ := hw
  obtain ⟨b253, hr254, hw⟩ := hw
  refine v_getS F fl_X9_27 (fun _ => rfl) kd252 hr254 dX9_init_69 ?_
  refine v_iload_n F dX9_init_72 rfl 0 rfl ?_
  refine v_new (ci := 2) F rfl rfl wd_101 wd_103 wd_65 (by rw [hR]; exact Nat.le_of_ble_eq_true rfl) (by rw [hR]; exact Nat.le_of_ble_eq_true rfl) dX9_init_73 ?_
  generalize hz256 : gZ G250 = z256
  refine v_nmG (fun G255 hG255 => ?_)
  have hw := hw z256 G255 hz256.symm hG255
  refine v_dup F dX9_init_76 rfl ?_
  refine v_callv (r_N F ln_X9_33 (sX2_init hw) (mkRm hR rfl rfl rfl rfl rfl rfl) rfl rfl (Nat.le_of_ble_eq_true rfl) dX9_init_77) (fun G258 hw => ?_)
  obtain ⟨kd259, hw⟩ := hw
  obtain ⟨kd262, hw⟩ := hw
  obtain ⟨hi260, hw⟩ := hw
  refine v_aastE (t := 4) (ci := 2) F rfl rfl (k := 10) (by decide) kd259 kd262 hi260 dX9_init_80 (fun G261 hG261 => ?_)
  have hw := hw G261 hG261
  refine v_iinc (v := 11) (L' := [(1, .int 11), (0, .ref a0)]) F dX9_init_81 0 rfl (by decide) (by decide) rfl ?_
  refine v_goto (tgt := 49) F dX9_init_84 (by decide) ?_
  refine v_iload_n F dX9_init_49 rfl 0 rfl ?_
  refine v_bipush (v := 10) F dX9_init_50 (by decide) ?_
  refine v_icmp_gt (tgt := 87) F dX9_init_52 (by decide) (fun _ => ?_) (fun h => absurd h (by decide))
  refine v_aload_n F dX9_init_87 rfl 1 rfl ?_
  obtain ⟨kd263, hw⟩ := hw
  obtain ⟨b264, hr265, hw⟩ := hw
  refine v_getS F fl_X9_23 (fun _ => rfl) kd263 hr265 dX9_init_88 ?_
  refine v_iconst (v := 0) F dX9_init_91 (by decide) ?_
  obtain ⟨kd266, hw⟩ := hw
  obtain ⟨hi267, hw⟩ := hw
  obtain ⟨b268, hr269, hw⟩ := hw
  refine v_aaldS (t := 4) F rfl (k := 0) (by decide) kd266 hi267 hr269 dX9_init_92 ?_
  refine v_lconst (v := 1) F dX9_init_93 rfl ?_
  refine v_lconst (v := 1) F dX9_init_94 rfl ?_
  obtain ⟨kd270, hw⟩ := hw
  refine v_callv (r_V F lk_X9_34 kd270 (sX2_become hw) (mkRm hR rfl rfl rfl rfl rfl rfl) rfl rfl (Nat.le_of_ble_eq_true rfl) dX9_init_95) (fun G272 hw => ?_)
  refine v_aload_n F dX9_init_98 rfl 1 rfl ?_
  obtain ⟨kd273, hw⟩ := hw
  obtain ⟨b274, hr275, hw⟩ := hw
  refine v_getS F fl_X9_27 (fun _ => rfl) kd273 hr275 dX9_init_99 ?_
  refine v_iconst (v := 0) F dX9_init_102 (by decide) ?_
  obtain ⟨kd276, hw⟩ := hw
  obtain ⟨hi277, hw⟩ := hw
  obtain ⟨b278, hr279, hw⟩ := hw
  refine v_aaldS (t := 4) F rfl (k := 0) (by decide) kd276 hi277 hr279 dX9_init_103 ?_
  refine v_lconst (v := 1) F dX9_init_104 rfl ?_
  refine v_lconst (v := 1) F dX9_init_105 rfl ?_
  obtain ⟨kd280, hw⟩ := hw
  refine v_callv (r_V F lk_X9_34 kd280 (sX2_become hw) (mkRm hR rfl rfl rfl rfl rfl rfl) rfl rfl (Nat.le_of_ble_eq_true rfl) dX9_init_106) (fun G282 hw => ?_)
  refine v_widen (c' := 27) (s' := 132) (by decide) (by decide) ?_
  exact v_vret F hw dX9_init_109
set_option maxRecDepth 100000 in
theorem sX9_admit {l : Launch} {D : Dx} {a0 : Nat} {a1 : Nat} {G : Wd} {Q : Wd → Prop} (hw : wpX9_admit a0 a1 G Q) : Met l yX9_admit (wM yX9_admit cX9_admit 2 none) rmX9_admit (PM D [.ref a0, .ref a1] G) (QMv D Q) 0 0 (Ab D) := by
  refine v_met (by decide) (Nat.le_of_ble_eq_true rfl) (fun X hl hR F => ?_)
  subst hl
  have F : Fx X D cX9_admit 2 RX9 none yX9_admit.name := F
  refine v_cast (L' := [(0, .ref a0), (1, .ref a1)]) rfl rfl ?_
  unfold wpX9_admit at hw
  refine v_aload_n F dX9_admit_0 rfl 0 rfl ?_
  obtain ⟨kd1, hw⟩ := hw
  refine v_get F fl_X9_38 kd1 rfl dX9_admit_1 ?_
  refine v_bipush (v := 24) F dX9_admit_4 (by decide) ?_
  refine v_icmp_ge (tgt := 29) F dX9_admit_6 (by decide) (fun h => ?_) (fun h => ?_)
  · rw [if_pos h] at hw
    exact v_vret F hw dX9_admit_29
  · rw [if_neg h] at hw
    refine v_aload_n F dX9_admit_9 rfl 0 rfl ?_
    obtain ⟨b2, hr3, hw⟩ := hw
    refine v_getS F fl_X9_11 (fun _ => rfl) kd1 hr3 dX9_admit_10 ?_
    refine v_aload_n F dX9_admit_13 rfl 0 rfl ?_
    refine v_get F fl_X9_38 kd1 rfl dX9_admit_14 ?_
    refine v_aload_n F dX9_admit_17 rfl 1 rfl ?_
    obtain ⟨kd4, hw⟩ := hw
    obtain ⟨kd7, hw⟩ := hw
    obtain ⟨hi5, hw⟩ := hw
    refine v_aastE (t := 5) (ci := 4) F rfl rfl rfl kd4 kd7 hi5 dX9_admit_18 (fun G6 hG6 => ?_)
    have hw := hw G6 hG6
    refine v_aload_n F dX9_admit_19 rfl 0 rfl ?_
    refine v_dup F dX9_admit_20 rfl ?_
    have kd8 : gK G6 a0 = 9 := by rw [hG6]; exact kd1
    refine v_get F fl_X9_38 kd8 rfl dX9_admit_21 ?_
    refine v_iconst (v := 1) F dX9_admit_24 (by decide) ?_
    refine v_iadd F dX9_admit_25 ?_
    refine v_putI F fl_X9_38 (fun h => absurd h (by decide)) rfl kd8 dX9_admit_26 ?_
    refine v_nmG (fun G9 hG9 => ?_)
    have hw := hw G9 hG9
    exact v_vret F hw dX9_admit_29
set_option maxRecDepth 100000 in
theorem sX9_draw {l : Launch} {D : Dx} {a0 : Nat} {p1 : Int32} {p2 : Int32} {G : Wd} {Q : Int32 → Wd → Prop} (hw : wpX9_draw a0 p1 p2 G Q) : Met l yX9_draw (wM yX9_draw cX9_draw 3 (some .boolean)) rmX9_draw (PM D [.ref a0, .int p1, .int p2] G) (QMi D Q) 0 0 (Ab D) := by
  refine v_met (by decide) (Nat.le_of_ble_eq_true rfl) (fun X hl hR F => ?_)
  subst hl
  have F : Fx X D cX9_draw 3 RX9 (some .boolean) "draw" := F
  refine v_cast (L' := [(0, .ref a0), (1, .int p1), (2, .int p2)]) rfl rfl ?_
  unfold wpX9_draw at hw
  refine v_aload_n F dX9_draw_0 rfl 0 rfl ?_
  obtain ⟨kd1, hw⟩ := hw
  obtain ⟨b2, hr3, hw⟩ := hw
  refine v_getS F fl_X9_30 (fun _ => rfl) kd1 hr3 dX9_draw_1 ?_
  refine v_iload_n F dX9_draw_4 rfl 2 rfl ?_
  obtain ⟨kd4, hw⟩ := hw
  obtain ⟨hi5, hw⟩ := hw
  refine v_ialdE F rfl kd4 hi5 dX9_draw_5 ?_
  refine v_iconst (v := 1) F dX9_draw_6 (by decide) ?_
  refine v_iadd F dX9_draw_7 ?_
  refine v_aload_n F dX9_draw_8 rfl 0 rfl ?_
  obtain ⟨b6, hr7, hw⟩ := hw
  refine v_getS F fl_X9_30 (fun _ => rfl) kd1 hr7 dX9_draw_9 ?_
  refine v_iload_n F dX9_draw_12 rfl 1 rfl ?_
  obtain ⟨kd8, hw⟩ := hw
  obtain ⟨hi9, hw⟩ := hw
  refine v_ialdE F rfl kd8 hi9 dX9_draw_13 ?_
  refine v_icmp_lt (tgt := 19) F dX9_draw_14 (by decide) (fun h => ?_) (fun h => ?_)
  · rw [if_pos h] at hw
    refine v_aload_n F dX9_draw_19 rfl 0 rfl ?_
    obtain ⟨b10, hr11, hw⟩ := hw
    refine v_getS F fl_X9_30 (fun _ => rfl) kd1 hr11 dX9_draw_20 ?_
    refine v_iload_n F dX9_draw_23 rfl 1 rfl ?_
    refine v_aload_n F dX9_draw_24 rfl 0 rfl ?_
    obtain ⟨b12, hr13, hw⟩ := hw
    refine v_getS F fl_X9_30 (fun _ => rfl) kd1 hr13 dX9_draw_25 ?_
    refine v_iload_n F dX9_draw_28 rfl 2 rfl ?_
    obtain ⟨kd14, hw⟩ := hw
    obtain ⟨hi15, hw⟩ := hw
    refine v_ialdE F rfl kd14 hi15 dX9_draw_29 ?_
    refine v_iconst (v := 1) F dX9_draw_30 (by decide) ?_
    refine v_iadd F dX9_draw_31 ?_
    obtain ⟨kd16, hw⟩ := hw
    obtain ⟨hi17, hw⟩ := hw
    refine v_iastE F rfl kd16 hi17 dX9_draw_32 (fun G18 hG18 => ?_)
    have hw := hw G18 hG18
    refine v_iconst (v := 1) F dX9_draw_33 (by decide) ?_
    exact v_zret F (Or.inr rfl) hw dX9_draw_34
  · rw [if_neg h] at hw
    refine v_iconst (v := 0) F dX9_draw_17 (by decide) ?_
    exact v_zret F (Or.inl rfl) hw dX9_draw_18
set_option maxRecDepth 100000 in
theorem sbX9_measureDistances_95 {X : Cx} {D : Dx} (hR : X.2.2.2.1 = rmX9_measureDistances) (F : Fx X D cX9_measureDistances 5 RX9 none "measureDistances") {Q : Wd → Prop} {k23 : Nat → Int32 → Int32 → Wd → Prop} {k40 : Nat → Int32 → Int32 → Int32 → Wd → Prop} (hk23 : ∀ v0 v1 v2 G, k23 v0 v1 v2 G → V X D 5 (ZM X D (QMv D Q) 0 0) G 0 0 23 [(0, .ref v0), (1, .int v1), (2, .int v2)] []) (hk40 : ∀ v0 v1 v2 v3 G, k40 v0 v1 v2 v3 G → V X D 5 (ZM X D (QMv D Q) 0 0) G 0 0 40 [(0, .ref v0), (1, .int v1), (2, .int v2), (3, .int v3)] []) {v0 : Nat} {v1 : Int32} {v2 : Int32} {v3 : Int32} {G : Wd} (hw : wpX9_measureDistances_95 Q k23 k40 v0 v1 v2 v3 G) : V X D 5 (ZM X D (QMv D Q) 0 0) G 0 0 95 [(0, .ref v0), (1, .int v1), (2, .int v2), (3, .int v3)] [] := by
  unfold wpX9_measureDistances_95 at hw
  refine v_iincN (c := 1) F dX9_measureDistances_95 3 rfl (by decide) (by decide) (fun x1 hx1 => ?_)
  refine v_cast (L' := [(3, .int x1), (0, .ref v0), (1, .int v1), (2, .int v2)]) rfl rfl ?_
  have hw := hw x1 hx1
  refine v_goto (tgt := 40) F dX9_measureDistances_98 (by decide) ?_
  exact v_loc [1, 2, 3, 0] rfl (hk40 _ _ _ _ _ hw)
set_option maxRecDepth 100000 in
theorem sbX9_measureDistances_40 {X : Cx} {D : Dx} (hR : X.2.2.2.1 = rmX9_measureDistances) (F : Fx X D cX9_measureDistances 5 RX9 none "measureDistances") {Q : Wd → Prop} {k23 : Nat → Int32 → Int32 → Wd → Prop} (hk23 : ∀ v0 v1 v2 G, k23 v0 v1 v2 G → V X D 5 (ZM X D (QMv D Q) 0 0) G 0 0 23 [(0, .ref v0), (1, .int v1), (2, .int v2)] []) : ∀ (n : Nat) (v0 : Nat) (v1 : Int32) (v2 : Int32) (v3 : Int32) (G : Wd), wpX9_measureDistances_40 Q k23 n v0 v1 v2 v3 G → V X D 5 (ZM X D (QMv D Q) 0 0) G 0 0 40 [(0, .ref v0), (1, .int v1), (2, .int v2), (3, .int v3)] [] := by
  intro n
  induction n with
  | zero => intro v0 v1 v2 v3 G hw; exact hw.elim
  | succ n ih =>
    intro v0 v1 v2 v3 G hw
    simp only [wpX9_measureDistances_40] at hw
    refine v_iload_n F dX9_measureDistances_40 rfl 3 rfl ?_
    refine v_aload_n F dX9_measureDistances_41 rfl 0 rfl ?_
    obtain ⟨kd2, hw⟩ := hw
    refine v_get F fl_X9_38 kd2 rfl dX9_measureDistances_42 ?_
    refine v_icmp_ge (tgt := 101) F dX9_measureDistances_45 (by decide) (fun h => ?_) (fun h => ?_)
    · rw [if_pos h] at hw
      refine v_iincN (c := 1) F dX9_measureDistances_101 2 rfl (by decide) (by decide) (fun x3 hx3 => ?_)
      refine v_cast (L' := [(2, .int x3), (0, .ref v0), (1, .int v1), (3, .int v3)]) rfl rfl ?_
      have hw := hw x3 hx3
      refine v_goto (tgt := 23) F dX9_measureDistances_104 (by decide) ?_
      exact v_loc [1, 2, 0] rfl (hk23 _ _ _ _ hw)
    · rw [if_neg h] at hw
      refine v_aload_n F dX9_measureDistances_48 rfl 0 rfl ?_
      obtain ⟨b4, hr5, hw⟩ := hw
      refine v_getS F fl_X9_11 (fun _ => rfl) kd2 hr5 dX9_measureDistances_49 ?_
      refine v_iload_n F dX9_measureDistances_52 rfl 3 rfl ?_
      obtain ⟨kd6, hw⟩ := hw
      obtain ⟨hi7, hw⟩ := hw
      obtain ⟨b8, hr9, hw⟩ := hw
      refine v_aaldS (t := 5) F rfl rfl kd6 hi7 hr9 dX9_measureDistances_53 ?_
      refine v_astore (L' := [(4, .ref b8), (0, .ref v0), (1, .int v1), (2, .int v2), (3, .int v3)]) F dX9_measureDistances_54 (by decide) rfl ?_
      refine v_aload F dX9_measureDistances_56 0 rfl ?_
      refine v_ifnull (r := some b8) (tgt := 95) F dX9_measureDistances_58 (by decide) (fun h => nomatch h) (fun _ _ => ?_)
      refine v_iload_n F dX9_measureDistances_61 rfl 2 rfl ?_
      refine v_aload_n F dX9_measureDistances_62 rfl 1 rfl ?_
      refine v_aload F dX9_measureDistances_63 0 rfl ?_
      obtain ⟨kd10, hw⟩ := hw
      refine v_getG F fl_X9_68 kd10 rfl dX9_measureDistances_65 ?_
      refine v_aload F dX9_measureDistances_68 0 rfl ?_
      refine v_getG F fl_X9_71 kd10 rfl dX9_measureDistances_70 ?_
      refine v_calli (r_V F lk_X9_93 kd2 (sX9_draw hw) (mkRm hR rfl rfl rfl rfl rfl rfl) rfl rfl (Nat.le_of_ble_eq_true rfl) dX9_measureDistances_73) (fun r11 G12 hw => ?_)
      refine v_ior F dX9_measureDistances_76 ?_
      refine v_topi (fun x13 hx13 => ?_)
      have hw := hw x13 hx13
      refine v_istore_n (L' := [(1, .int x13), (4, .ref b8), (0, .ref v0), (2, .int v2), (3, .int v3)]) F dX9_measureDistances_77 rfl (by decide) rfl ?_
      refine v_iload_n F dX9_measureDistances_78 rfl 0 rfl ?_
      refine v_aload_n F dX9_measureDistances_79 rfl 2 rfl ?_
      refine v_aload F dX9_measureDistances_80 1 rfl ?_
      obtain ⟨kd14, hw⟩ := hw
      refine v_getG F fl_X9_71 kd14 rfl dX9_measureDistances_82 ?_
      refine v_aload F dX9_measureDistances_85 1 rfl ?_
      refine v_getG F fl_X9_68 kd14 rfl dX9_measureDistances_87 ?_
      obtain ⟨kd15, hw⟩ := hw
      refine v_calli (r_V F lk_X9_93 kd15 (sX9_draw hw) (mkRm hR rfl rfl rfl rfl rfl rfl) rfl rfl (Nat.le_of_ble_eq_true rfl) dX9_measureDistances_90) (fun r16 G17 hw => ?_)
      refine v_ior F dX9_measureDistances_93 ?_
      refine v_topi (fun x18 hx18 => ?_)
      have hw := hw x18 hx18
      refine v_istore_n (L' := [(1, .int x18), (4, .ref b8), (0, .ref v0), (2, .int v2), (3, .int v3)]) F dX9_measureDistances_94 rfl (by decide) rfl ?_
      exact v_loc [2, 0, 3, 4] rfl (sbX9_measureDistances_95 hR F hk23 ih hw)
set_option maxRecDepth 100000 in
theorem sbX9_measureDistances_23 {X : Cx} {D : Dx} (hR : X.2.2.2.1 = rmX9_measureDistances) (F : Fx X D cX9_measureDistances 5 RX9 none "measureDistances") {Q : Wd → Prop} : ∀ (n : Nat) (v0 : Nat) (v1 : Int32) (v2 : Int32) (G : Wd), wpX9_measureDistances_23 Q  n v0 v1 v2 G → V X D 5 (ZM X D (QMv D Q) 0 0) G 0 0 23 [(0, .ref v0), (1, .int v1), (2, .int v2)] [] := by
  intro n
  induction n with
  | zero => intro v0 v1 v2 G hw; exact hw.elim
  | succ n ih =>
    intro v0 v1 v2 G hw
    simp only [wpX9_measureDistances_23] at hw
    refine v_iload_n F dX9_measureDistances_23 rfl 2 rfl ?_
    refine v_bipush (v := 10) F dX9_measureDistances_24 (by decide) ?_
    refine v_icmp_ge (tgt := 107) F dX9_measureDistances_26 (by decide) (fun h => ?_) (fun h => ?_)
    · rw [if_pos h] at hw
      exact v_vret F hw dX9_measureDistances_107
    · rw [if_neg h] at hw
      refine v_iload_n F dX9_measureDistances_29 rfl 1 rfl ?_
      refine v_if_eq (tgt := 107) F dX9_measureDistances_30 (by decide) (fun h => ?_) (fun h => ?_)
      · rw [if_pos h] at hw
        exact v_vret F hw dX9_measureDistances_107
      · rw [if_neg h] at hw
        refine v_iconst (v := 0) F dX9_measureDistances_33 (by decide) ?_
        refine v_istore_n (L' := [(1, .int 0), (0, .ref v0), (2, .int v2)]) F dX9_measureDistances_34 rfl (by decide) rfl ?_
        refine v_aload_n F dX9_measureDistances_35 rfl 1 rfl ?_
        obtain ⟨kd19, hw⟩ := hw
        refine v_get F fl_X9_81 kd19 rfl dX9_measureDistances_36 ?_
        refine v_topi (fun x20 hx20 => ?_)
        have hw := hw x20 hx20
        refine v_istore_n (L' := [(3, .int x20), (1, .int 0), (0, .ref v0), (2, .int v2)]) F dX9_measureDistances_39 rfl (by decide) rfl ?_
        obtain ⟨m, hw⟩ := hw
        exact v_loc [2, 1, 3, 0] rfl (sbX9_measureDistances_40 hR F ih m _ _ _ _ _ hw)
set_option maxRecDepth 100000 in
theorem sX9_measureDistances {l : Launch} {D : Dx} {a0 : Nat} {G : Wd} {Q : Wd → Prop} (hw : wpX9_measureDistances a0 G Q) : Met l yX9_measureDistances (wM yX9_measureDistances cX9_measureDistances 5 none) rmX9_measureDistances (PM D [.ref a0] G) (QMv D Q) 0 0 (Ab D) := by
  refine v_met (by decide) (Nat.le_of_ble_eq_true rfl) (fun X hl hR F => ?_)
  subst hl
  have F : Fx X D cX9_measureDistances 5 RX9 none "measureDistances" := F
  refine v_cast (L' := [(0, .ref a0)]) rfl rfl ?_
  unfold wpX9_measureDistances at hw
  refine v_aload_n F dX9_measureDistances_0 rfl 0 rfl ?_
  obtain ⟨kd21, hw⟩ := hw
  obtain ⟨b22, hr23, hw⟩ := hw
  refine v_getS F fl_X9_30 (fun _ => rfl) kd21 hr23 dX9_measureDistances_1 ?_
  refine v_bipush (v := 100) F dX9_measureDistances_4 (by decide) ?_
  refine v_callv (r_S F ls_X9_87 (sJ7_fill_53178 hw) (mkRm hR rfl rfl rfl rfl rfl rfl) rfl rfl (Nat.le_of_ble_eq_true rfl) dX9_measureDistances_6) (fun G25 hw => ?_)
  refine v_aload_n F dX9_measureDistances_9 rfl 0 rfl ?_
  obtain ⟨kd26, hw⟩ := hw
  obtain ⟨b27, hr28, hw⟩ := hw
  refine v_getS F fl_X9_30 (fun _ => rfl) kd26 hr28 dX9_measureDistances_10 ?_
  refine v_aload_n F dX9_measureDistances_13 rfl 0 rfl ?_
  refine v_get F fl_X9_78 kd26 rfl dX9_measureDistances_14 ?_
  refine v_iconst (v := 0) F dX9_measureDistances_17 (by decide) ?_
  obtain ⟨kd29, hw⟩ := hw
  obtain ⟨hi30, hw⟩ := hw
  refine v_iastE F rfl kd29 hi30 dX9_measureDistances_18 (fun G31 hG31 => ?_)
  have hw := hw G31 hG31
  refine v_iconst (v := 1) F dX9_measureDistances_19 (by decide) ?_
  refine v_istore_n (L' := [(1, .int 1), (0, .ref a0)]) F dX9_measureDistances_20 rfl (by decide) rfl ?_
  refine v_iconst (v := 0) F dX9_measureDistances_21 (by decide) ?_
  refine v_istore_n (L' := [(2, .int 0), (1, .int 1), (0, .ref a0)]) F dX9_measureDistances_22 rfl (by decide) rfl ?_
  obtain ⟨m, hw⟩ := hw
  exact v_loc [2, 1, 0] rfl (sbX9_measureDistances_23 hR F  m _ _ _ _ hw)
set_option maxRecDepth 100000 in
theorem sX9_aim {l : Launch} {D : Dx} {a0 : Nat} {p1 : Int32} {p2 : Int32} {G : Wd} {Q : Wd → Prop} (hw : wpX9_aim a0 p1 p2 G Q) : Met l yX9_aim (wM yX9_aim cX9_aim 3 none) rmX9_aim (PM D [.ref a0, .int p1, .int p2] G) (QMv D Q) 0 0 (Ab D) := by
  refine v_met (by decide) (Nat.le_of_ble_eq_true rfl) (fun X hl hR F => ?_)
  subst hl
  have F : Fx X D cX9_aim 3 RX9 none "aim" := F
  refine v_cast (L' := [(0, .ref a0), (1, .int p1), (2, .int p2)]) rfl rfl ?_
  unfold wpX9_aim at hw
  refine v_aload_n F dX9_aim_0 rfl 0 rfl ?_
  refine v_iload_n F dX9_aim_1 rfl 1 rfl ?_
  obtain ⟨kd1, hw⟩ := hw
  refine v_putI F fl_X9_78 (fun h => absurd h (by decide)) rfl kd1 dX9_aim_2 ?_
  refine v_nmG (fun G2 hG2 => ?_)
  have hw := hw G2 hG2
  refine v_aload_n F dX9_aim_5 rfl 0 rfl ?_
  refine v_iload_n F dX9_aim_6 rfl 2 rfl ?_
  have kd3 : gK G2 a0 = 9 := by rw [hG2]; exact kd1
  refine v_putI F fl_X9_81 (fun h => absurd h (by decide)) rfl kd3 dX9_aim_7 ?_
  refine v_nmG (fun G4 hG4 => ?_)
  have hw := hw G4 hG4
  refine v_aload_n F dX9_aim_10 rfl 0 rfl ?_
  refine v_iconst (v := 0) F dX9_aim_11 (by decide) ?_
  have kd5 : gK G4 a0 = 9 := by rw [hG4]; exact kd3
  refine v_putZ F fl_X9_61 (fun h => absurd h (by decide)) rfl (Or.inl rfl) kd5 dX9_aim_12 ?_
  refine v_nmG (fun G6 hG6 => ?_)
  have hw := hw G6 hG6
  refine v_aload_n F dX9_aim_15 rfl 0 rfl ?_
  have kd7 : gK G6 a0 = 9 := by rw [hG6]; exact kd5
  refine v_callv (r_V F lk_X9_84 kd7 (sX9_measureDistances hw) (mkRm hR rfl rfl rfl rfl rfl rfl) rfl rfl (Nat.le_of_ble_eq_true rfl) dX9_aim_16) (fun G9 hw => ?_)
  refine v_widen (c' := 0) (s' := 0) (by decide) (by decide) ?_
  exact v_vret F hw dX9_aim_19
set_option maxRecDepth 100000 in
theorem sbX9_take_23 {X : Cx} {D : Dx} (hR : X.2.2.2.1 = rmX9_take) (F : Fx X D cX9_take 4 RX9 none "take") {Q : Wd → Prop} {v0 : Nat} {v1 : Nat} {v2 : Int32} {v3 : Int32} {s0 : Nat} {s1 : Int32} {s2 : Int32} {G : Wd} (hw : wpX9_take_23 Q  v0 v1 v2 v3 s0 s1 s2 G) : V X D 4 (ZM X D (QMv D Q) 0 0) G 0 0 23 [(0, .ref v0), (1, .ref v1), (2, .int v2), (3, .int v3)] [.int s2, .int s1, .ref s0] := by
  unfold wpX9_take_23 at hw
  obtain ⟨kd1, hw⟩ := hw
  obtain ⟨hi2, hw⟩ := hw
  refine v_iastE F rfl kd1 hi2 dX9_take_23 (fun G3 hG3 => ?_)
  have hw := hw G3 hG3
  refine v_iload_n F dX9_take_24 rfl 2 rfl ?_
  refine v_if_eq (tgt := 93) F dX9_take_25 (by decide) (fun h => ?_) (fun h => ?_)
  · rw [if_pos h] at hw
    refine v_aload_n F dX9_take_93 rfl 0 rfl ?_
    obtain ⟨kd4, hw⟩ := hw
    obtain ⟨b5, hr6, hw⟩ := hw
    refine v_getS F fl_X9_23 (fun _ => rfl) kd4 hr6 dX9_take_94 ?_
    refine v_iload_n F dX9_take_97 rfl 3 rfl ?_
    refine v_iconst (v := 1) F dX9_take_98 (by decide) ?_
    refine v_iadd F dX9_take_99 ?_
    obtain ⟨kd7, hw⟩ := hw
    obtain ⟨hi8, hw⟩ := hw
    obtain ⟨b9, hr10, hw⟩ := hw
    refine v_aaldS (t := 4) F rfl rfl kd7 hi8 hr10 dX9_take_100 ?_
    refine v_aload_n F dX9_take_101 rfl 0 rfl ?_
    obtain ⟨b11, hr12, hw⟩ := hw
    refine v_getS F fl_X9_23 (fun _ => rfl) kd4 hr12 dX9_take_102 ?_
    refine v_iload_n F dX9_take_105 rfl 3 rfl ?_
    obtain ⟨kd13, hw⟩ := hw
    obtain ⟨hi14, hw⟩ := hw
    obtain ⟨b15, hr16, hw⟩ := hw
    refine v_aaldS (t := 4) F rfl rfl kd13 hi14 hr16 dX9_take_106 ?_
    refine v_aload_n F dX9_take_107 rfl 1 rfl ?_
    obtain ⟨kd17, hw⟩ := hw
    obtain ⟨b18, hr19, hw⟩ := hw
    refine v_getSG F fl_X9_115 (fun _ => rfl) kd17 hr19 dX9_take_108 ?_
    obtain ⟨kd20, hw⟩ := hw
    refine v_get F fl_X9_108 kd20 rfl dX9_take_111 ?_
    refine v_aload_n F dX9_take_114 rfl 1 rfl ?_
    obtain ⟨b21, hr22, hw⟩ := hw
    refine v_getSG F fl_X9_115 (fun _ => rfl) kd17 hr22 dX9_take_115 ?_
    obtain ⟨kd23, hw⟩ := hw
    refine v_get F fl_X9_104 kd23 rfl dX9_take_118 ?_
    obtain ⟨kd24, hw⟩ := hw
    refine v_callv (r_V F lk_X9_111 kd24 (sX2_becomeProduct hw) (mkRm hR rfl rfl rfl rfl rfl rfl) rfl rfl (Nat.le_of_ble_eq_true rfl) dX9_take_121) (fun G26 hw => ?_)
    refine v_aload_n F dX9_take_124 rfl 0 rfl ?_
    obtain ⟨kd27, hw⟩ := hw
    obtain ⟨b28, hr29, hw⟩ := hw
    refine v_getS F fl_X9_27 (fun _ => rfl) kd27 hr29 dX9_take_125 ?_
    refine v_iload_n F dX9_take_128 rfl 3 rfl ?_
    refine v_iconst (v := 1) F dX9_take_129 (by decide) ?_
    refine v_iadd F dX9_take_130 ?_
    obtain ⟨kd30, hw⟩ := hw
    obtain ⟨hi31, hw⟩ := hw
    obtain ⟨b32, hr33, hw⟩ := hw
    refine v_aaldS (t := 4) F rfl rfl kd30 hi31 hr33 dX9_take_131 ?_
    refine v_aload_n F dX9_take_132 rfl 0 rfl ?_
    obtain ⟨b34, hr35, hw⟩ := hw
    refine v_getS F fl_X9_27 (fun _ => rfl) kd27 hr35 dX9_take_133 ?_
    refine v_iload_n F dX9_take_136 rfl 3 rfl ?_
    obtain ⟨kd36, hw⟩ := hw
    obtain ⟨hi37, hw⟩ := hw
    obtain ⟨b38, hr39, hw⟩ := hw
    refine v_aaldS (t := 4) F rfl rfl kd36 hi37 hr39 dX9_take_137 ?_
    refine v_aload_n F dX9_take_138 rfl 1 rfl ?_
    obtain ⟨kd40, hw⟩ := hw
    obtain ⟨b41, hr42, hw⟩ := hw
    refine v_getSG F fl_X9_100 (fun _ => rfl) kd40 hr42 dX9_take_139 ?_
    obtain ⟨kd43, hw⟩ := hw
    refine v_get F fl_X9_108 kd43 rfl dX9_take_142 ?_
    refine v_aload_n F dX9_take_145 rfl 1 rfl ?_
    obtain ⟨b44, hr45, hw⟩ := hw
    refine v_getSG F fl_X9_100 (fun _ => rfl) kd40 hr45 dX9_take_146 ?_
    obtain ⟨kd46, hw⟩ := hw
    refine v_get F fl_X9_104 kd46 rfl dX9_take_149 ?_
    obtain ⟨kd47, hw⟩ := hw
    refine v_callv (r_V F lk_X9_111 kd47 (sX2_becomeProduct hw) (mkRm hR rfl rfl rfl rfl rfl rfl) rfl rfl (Nat.le_of_ble_eq_true rfl) dX9_take_152) (fun G49 hw => ?_)
    refine v_widen (c' := 0) (s' := 0) (by decide) (by decide) ?_
    exact v_vret F hw dX9_take_155
  · rw [if_neg h] at hw
    refine v_aload_n F dX9_take_28 rfl 0 rfl ?_
    obtain ⟨kd50, hw⟩ := hw
    obtain ⟨b51, hr52, hw⟩ := hw
    refine v_getS F fl_X9_23 (fun _ => rfl) kd50 hr52 dX9_take_29 ?_
    refine v_iload_n F dX9_take_32 rfl 3 rfl ?_
    refine v_iconst (v := 1) F dX9_take_33 (by decide) ?_
    refine v_iadd F dX9_take_34 ?_
    obtain ⟨kd53, hw⟩ := hw
    obtain ⟨hi54, hw⟩ := hw
    obtain ⟨b55, hr56, hw⟩ := hw
    refine v_aaldS (t := 4) F rfl rfl kd53 hi54 hr56 dX9_take_35 ?_
    refine v_aload_n F dX9_take_36 rfl 0 rfl ?_
    obtain ⟨b57, hr58, hw⟩ := hw
    refine v_getS F fl_X9_23 (fun _ => rfl) kd50 hr58 dX9_take_37 ?_
    refine v_iload_n F dX9_take_40 rfl 3 rfl ?_
    obtain ⟨kd59, hw⟩ := hw
    obtain ⟨hi60, hw⟩ := hw
    obtain ⟨b61, hr62, hw⟩ := hw
    refine v_aaldS (t := 4) F rfl rfl kd59 hi60 hr62 dX9_take_41 ?_
    refine v_aload_n F dX9_take_42 rfl 1 rfl ?_
    obtain ⟨kd63, hw⟩ := hw
    obtain ⟨b64, hr65, hw⟩ := hw
    refine v_getSG F fl_X9_100 (fun _ => rfl) kd63 hr65 dX9_take_43 ?_
    obtain ⟨kd66, hw⟩ := hw
    refine v_get F fl_X9_104 kd66 rfl dX9_take_46 ?_
    refine v_aload_n F dX9_take_49 rfl 1 rfl ?_
    obtain ⟨b67, hr68, hw⟩ := hw
    refine v_getSG F fl_X9_100 (fun _ => rfl) kd63 hr68 dX9_take_50 ?_
    obtain ⟨kd69, hw⟩ := hw
    refine v_get F fl_X9_108 kd69 rfl dX9_take_53 ?_
    obtain ⟨kd70, hw⟩ := hw
    refine v_callv (r_V F lk_X9_111 kd70 (sX2_becomeProduct hw) (mkRm hR rfl rfl rfl rfl rfl rfl) rfl rfl (Nat.le_of_ble_eq_true rfl) dX9_take_56) (fun G72 hw => ?_)
    refine v_aload_n F dX9_take_59 rfl 0 rfl ?_
    obtain ⟨kd73, hw⟩ := hw
    obtain ⟨b74, hr75, hw⟩ := hw
    refine v_getS F fl_X9_27 (fun _ => rfl) kd73 hr75 dX9_take_60 ?_
    refine v_iload_n F dX9_take_63 rfl 3 rfl ?_
    refine v_iconst (v := 1) F dX9_take_64 (by decide) ?_
    refine v_iadd F dX9_take_65 ?_
    obtain ⟨kd76, hw⟩ := hw
    obtain ⟨hi77, hw⟩ := hw
    obtain ⟨b78, hr79, hw⟩ := hw
    refine v_aaldS (t := 4) F rfl rfl kd76 hi77 hr79 dX9_take_66 ?_
    refine v_aload_n F dX9_take_67 rfl 0 rfl ?_
    obtain ⟨b80, hr81, hw⟩ := hw
    refine v_getS F fl_X9_27 (fun _ => rfl) kd73 hr81 dX9_take_68 ?_
    refine v_iload_n F dX9_take_71 rfl 3 rfl ?_
    obtain ⟨kd82, hw⟩ := hw
    obtain ⟨hi83, hw⟩ := hw
    obtain ⟨b84, hr85, hw⟩ := hw
    refine v_aaldS (t := 4) F rfl rfl kd82 hi83 hr85 dX9_take_72 ?_
    refine v_aload_n F dX9_take_73 rfl 1 rfl ?_
    obtain ⟨kd86, hw⟩ := hw
    obtain ⟨b87, hr88, hw⟩ := hw
    refine v_getSG F fl_X9_115 (fun _ => rfl) kd86 hr88 dX9_take_74 ?_
    obtain ⟨kd89, hw⟩ := hw
    refine v_get F fl_X9_104 kd89 rfl dX9_take_77 ?_
    refine v_aload_n F dX9_take_80 rfl 1 rfl ?_
    obtain ⟨b90, hr91, hw⟩ := hw
    refine v_getSG F fl_X9_115 (fun _ => rfl) kd86 hr91 dX9_take_81 ?_
    obtain ⟨kd92, hw⟩ := hw
    refine v_get F fl_X9_108 kd92 rfl dX9_take_84 ?_
    obtain ⟨kd93, hw⟩ := hw
    refine v_callv (r_V F lk_X9_111 kd93 (sX2_becomeProduct hw) (mkRm hR rfl rfl rfl rfl rfl rfl) rfl rfl (Nat.le_of_ble_eq_true rfl) dX9_take_87) (fun G95 hw => ?_)
    refine v_goto (tgt := 155) F dX9_take_90 (by decide) ?_
    refine v_widen (c' := 0) (s' := 0) (by decide) (by decide) ?_
    exact v_vret F hw dX9_take_155
set_option maxRecDepth 100000 in
theorem sX9_take {l : Launch} {D : Dx} {a0 : Nat} {a1 : Nat} {p2 : Int32} {p3 : Int32} {G : Wd} {Q : Wd → Prop} (hw : wpX9_take a0 a1 p2 p3 G Q) : Met l yX9_take (wM yX9_take cX9_take 4 none) rmX9_take (PM D [.ref a0, .ref a1, .int p2, .int p3] G) (QMv D Q) 0 0 (Ab D) := by
  refine v_met (by decide) (Nat.le_of_ble_eq_true rfl) (fun X hl hR F => ?_)
  subst hl
  have F : Fx X D cX9_take 4 RX9 none "take" := F
  refine v_cast (L' := [(0, .ref a0), (1, .ref a1), (2, .int p2), (3, .int p3)]) rfl rfl ?_
  unfold wpX9_take at hw
  refine v_aload_n F dX9_take_0 rfl 0 rfl ?_
  obtain ⟨kd96, hw⟩ := hw
  obtain ⟨b97, hr98, hw⟩ := hw
  refine v_getS F fl_X9_17 (fun _ => rfl) kd96 hr98 dX9_take_1 ?_
  refine v_iload_n F dX9_take_4 rfl 3 rfl ?_
  refine v_iload_n F dX9_take_5 rfl 2 rfl ?_
  refine v_if_eq (tgt := 19) F dX9_take_6 (by decide) (fun h => ?_) (fun h => ?_)
  · rw [if_pos h] at hw
    refine v_aload_n F dX9_take_19 rfl 1 rfl ?_
    obtain ⟨kd99, hw⟩ := hw
    refine v_getG F fl_X9_97 kd99 rfl dX9_take_20 ?_
    exact v_loc [0, 1, 2, 3] rfl (sbX9_take_23 hR F  hw)
  · rw [if_neg h] at hw
    refine v_aload_n F dX9_take_9 rfl 1 rfl ?_
    obtain ⟨kd100, hw⟩ := hw
    refine v_getG F fl_X9_97 kd100 rfl dX9_take_10 ?_
    refine v_bipush (v := 100) F dX9_take_13 (by decide) ?_
    refine v_iadd F dX9_take_15 ?_
    refine v_goto (tgt := 23) F dX9_take_16 (by decide) ?_
    exact v_loc [0, 1, 2, 3] rfl (sbX9_take_23 hR F  hw)
set_option maxRecDepth 100000 in
theorem sbX9_extend_149 {X : Cx} {D : Dx} {d : Nat} (hR : X.2.2.2.1 = rmX9_extend (d + 1)) (F : Fx X D cX9_extend 8 RX9 none "extend") {Q : Wd → Prop} {rec : Nat → Nat → Int32 → Int32 → Int32 → Wd → (Wd → Prop) → Prop} (hrec : ∀ (a0 : Nat) (a1 : Nat) (p2 : Int32) (p3 : Int32) (p4 : Int32) (G : Wd) (Q : Wd → Prop), rec a0 a1 p2 p3 p4 G Q → Met X.2.1 yX9_extend (wM yX9_extend cX9_extend 8 none) (rmX9_extend d) (PM D [.ref a0, .ref a1, .int p2, .int p3, .int p4] G) (QMv D Q) 0 0 (Ab D)) (hRr : Rm X 0 0 8 0 0 (rmX9_extend d)) {k36 : Nat → Nat → Int32 → Int32 → Int32 → Int32 → Wd → Prop} (hk36 : ∀ v0 v1 v2 v3 v4 v5 G, k36 v0 v1 v2 v3 v4 v5 G → V X D 8 (ZM X D (QMv D Q) 0 0) G 0 0 36 [(0, .ref v0), (1, .ref v1), (2, .int v2), (3, .int v3), (4, .int v4), (5, .int v5)] []) {v0 : Nat} {v1 : Nat} {v2 : Int32} {v3 : Int32} {v4 : Int32} {v5 : Int32} {G : Wd} (hw : wpX9_extend_149 rec Q k36 v0 v1 v2 v3 v4 v5 G) : V X D 8 (ZM X D (QMv D Q) 0 0) G 0 0 149 [(0, .ref v0), (1, .ref v1), (2, .int v2), (3, .int v3), (4, .int v4), (5, .int v5)] [] := by
  unfold wpX9_extend_149 at hw
  refine v_iincN (c := 1) F dX9_extend_149 5 rfl (by decide) (by decide) (fun x1 hx1 => ?_)
  refine v_cast (L' := [(5, .int x1), (0, .ref v0), (1, .ref v1), (2, .int v2), (3, .int v3), (4, .int v4)]) rfl rfl ?_
  have hw := hw x1 hx1
  refine v_goto (tgt := 36) F dX9_extend_152 (by decide) ?_
  exact v_loc [1, 2, 3, 4, 5, 0] rfl (hk36 _ _ _ _ _ _ _ hw)
set_option maxRecDepth 100000 in
theorem sbX9_extend_127 {X : Cx} {D : Dx} {d : Nat} (hR : X.2.2.2.1 = rmX9_extend (d + 1)) (F : Fx X D cX9_extend 8 RX9 none "extend") {Q : Wd → Prop} {rec : Nat → Nat → Int32 → Int32 → Int32 → Wd → (Wd → Prop) → Prop} (hrec : ∀ (a0 : Nat) (a1 : Nat) (p2 : Int32) (p3 : Int32) (p4 : Int32) (G : Wd) (Q : Wd → Prop), rec a0 a1 p2 p3 p4 G Q → Met X.2.1 yX9_extend (wM yX9_extend cX9_extend 8 none) (rmX9_extend d) (PM D [.ref a0, .ref a1, .int p2, .int p3, .int p4] G) (QMv D Q) 0 0 (Ab D)) (hRr : Rm X 0 0 8 0 0 (rmX9_extend d)) {k36 : Nat → Nat → Int32 → Int32 → Int32 → Int32 → Wd → Prop} (hk36 : ∀ v0 v1 v2 v3 v4 v5 G, k36 v0 v1 v2 v3 v4 v5 G → V X D 8 (ZM X D (QMv D Q) 0 0) G 0 0 36 [(0, .ref v0), (1, .ref v1), (2, .int v2), (3, .int v3), (4, .int v4), (5, .int v5)] []) {v0 : Nat} {v1 : Nat} {v2 : Int32} {v3 : Int32} {v4 : Int32} {v5 : Int32} {v7 : Int32} {s0 : Nat} {s1 : Nat} {s2 : Int32} {G : Wd} (hw : wpX9_extend_127 rec Q k36 v0 v1 v2 v3 v4 v5 v7 s0 s1 s2 G) : V X D 8 (ZM X D (QMv D Q) 0 0) G 0 0 127 [(0, .ref v0), (1, .ref v1), (2, .int v2), (3, .int v3), (4, .int v4), (5, .int v5), (7, .int v7)] [.int s2, .ref s1, .ref s0] := by
  unfold wpX9_extend_127 at hw
  refine v_iload F dX9_extend_127 4 rfl ?_
  obtain ⟨kd2, hw⟩ := hw
  refine v_callv (r_V F lk_X9_74 kd2 (sX9_take hw) (mkRm2 hR rfl rfl (by simp [rmX9_take, rmX9_extend]; try omega) (by simp [rmX9_take, rmX9_extend]; try omega) (Nat.le_of_ble_eq_true rfl) (Nat.le_of_ble_eq_true rfl)) rfl rfl (Nat.le_of_ble_eq_true rfl) dX9_extend_129) (fun G4 hw => ?_)
  refine v_aload_n F dX9_extend_132 rfl 0 rfl ?_
  refine v_aload_n F dX9_extend_133 rfl 1 rfl ?_
  refine v_iload F dX9_extend_134 6 rfl ?_
  refine v_iload_n F dX9_extend_136 rfl 3 rfl ?_
  refine v_iconst (v := 1) F dX9_extend_137 (by decide) ?_
  refine v_iload F dX9_extend_138 6 rfl ?_
  refine v_ishl F dX9_extend_140 ?_
  refine v_ior F dX9_extend_141 ?_
  refine v_iload F dX9_extend_142 4 rfl ?_
  refine v_iconst (v := 1) F dX9_extend_144 (by decide) ?_
  refine v_iadd F dX9_extend_145 ?_
  refine v_callv (r_S F ls_X9_52 (hrec _ _ _ _ _ _ _ hw) hRr rfl rfl (Nat.le_of_ble_eq_true rfl) dX9_extend_146) (fun G6 hw => ?_)
  exact v_loc [0, 1, 2, 3, 4, 5] rfl (sbX9_extend_149 hR F hrec hRr hk36 hw)
set_option maxRecDepth 100000 in
theorem sbX9_extend_36 {X : Cx} {D : Dx} {d : Nat} (hR : X.2.2.2.1 = rmX9_extend (d + 1)) (F : Fx X D cX9_extend 8 RX9 none "extend") {Q : Wd → Prop} {rec : Nat → Nat → Int32 → Int32 → Int32 → Wd → (Wd → Prop) → Prop} (hrec : ∀ (a0 : Nat) (a1 : Nat) (p2 : Int32) (p3 : Int32) (p4 : Int32) (G : Wd) (Q : Wd → Prop), rec a0 a1 p2 p3 p4 G Q → Met X.2.1 yX9_extend (wM yX9_extend cX9_extend 8 none) (rmX9_extend d) (PM D [.ref a0, .ref a1, .int p2, .int p3, .int p4] G) (QMv D Q) 0 0 (Ab D)) (hRr : Rm X 0 0 8 0 0 (rmX9_extend d)) : ∀ (n : Nat) (v0 : Nat) (v1 : Nat) (v2 : Int32) (v3 : Int32) (v4 : Int32) (v5 : Int32) (G : Wd), wpX9_extend_36 rec Q  n v0 v1 v2 v3 v4 v5 G → V X D 8 (ZM X D (QMv D Q) 0 0) G 0 0 36 [(0, .ref v0), (1, .ref v1), (2, .int v2), (3, .int v3), (4, .int v4), (5, .int v5)] [] := by
  intro n
  induction n with
  | zero => intro v0 v1 v2 v3 v4 v5 G hw; exact hw.elim
  | succ n ih =>
    intro v0 v1 v2 v3 v4 v5 G hw
    simp only [wpX9_extend_36] at hw
    refine v_iload F dX9_extend_36 5 rfl ?_
    refine v_aload_n F dX9_extend_38 rfl 0 rfl ?_
    obtain ⟨kd7, hw⟩ := hw
    refine v_get F fl_X9_38 kd7 rfl dX9_extend_39 ?_
    refine v_icmp_ge (tgt := 155) F dX9_extend_42 (by decide) (fun h => ?_) (fun h => ?_)
    · rw [if_pos h] at hw
      exact v_vret F hw dX9_extend_155
    · rw [if_neg h] at hw
      refine v_aload_n F dX9_extend_45 rfl 0 rfl ?_
      refine v_get F fl_X9_61 kd7 rfl dX9_extend_46 ?_
      refine v_if_ne (tgt := 155) F dX9_extend_49 (by decide) (fun h => ?_) (fun h => ?_)
      · rw [if_neg h] at hw
        exact v_vret F hw dX9_extend_155
      · rw [if_pos h] at hw
        refine v_aload_n F dX9_extend_52 rfl 0 rfl ?_
        obtain ⟨b8, hr9, hw⟩ := hw
        refine v_getS F fl_X9_11 (fun _ => rfl) kd7 hr9 dX9_extend_53 ?_
        refine v_iload F dX9_extend_56 5 rfl ?_
        obtain ⟨kd10, hw⟩ := hw
        obtain ⟨hi11, hw⟩ := hw
        obtain ⟨b12, hr13, hw⟩ := hw
        refine v_aaldS (t := 5) F rfl rfl kd10 hi11 hr13 dX9_extend_58 ?_
        refine v_astore (L' := [(6, .ref b12), (0, .ref v0), (1, .ref v1), (2, .int v2), (3, .int v3), (4, .int v4), (5, .int v5)]) F dX9_extend_59 (by decide) rfl ?_
        refine v_aload F dX9_extend_61 0 rfl ?_
        refine v_ifnonnull (r := some b12) (tgt := 69) F dX9_extend_63 (by decide) (fun _ _ => ?_) (fun h => nomatch h)
        refine v_aload F dX9_extend_69 0 rfl ?_
        refine v_iload_n F dX9_extend_71 rfl 3 rfl ?_
        obtain ⟨kd14, hw⟩ := hw
        refine v_calli (r_V F lk_X9_124 kd14 (sX5_across hw) (mkRm2 hR rfl rfl (by simp [rmX5_across, rmX9_extend]; try omega) (by simp [rmX5_across, rmX9_extend]; try omega) (Nat.le_of_ble_eq_true rfl) (Nat.le_of_ble_eq_true rfl)) rfl rfl (Nat.le_of_ble_eq_true rfl) dX9_extend_72) (fun r15 G16 hw => ?_)
        refine v_istore (L' := [(7, .int r15), (6, .ref b12), (0, .ref v0), (1, .ref v1), (2, .int v2), (3, .int v3), (4, .int v4), (5, .int v5)]) F dX9_extend_75 (by decide) rfl ?_
        refine v_iload F dX9_extend_77 0 rfl ?_
        refine v_if_lt (tgt := 149) F dX9_extend_79 (by decide) (fun h => ?_) (fun h => ?_)
        · rw [if_pos h] at hw
          exact v_loc [2, 3, 4, 5, 6, 7] rfl (sbX9_extend_149 hR F hrec hRr ih hw)
        · rw [if_neg h] at hw
          refine v_iload_n F dX9_extend_82 rfl 5 rfl ?_
          refine v_iload F dX9_extend_83 0 rfl ?_
          refine v_ishr F dX9_extend_85 ?_
          refine v_iconst (v := 1) F dX9_extend_86 (by decide) ?_
          refine v_iand F dX9_extend_87 ?_
          refine v_if_ne (tgt := 149) F dX9_extend_88 (by decide) (fun h => ?_) (fun h => ?_)
          · rw [if_neg h] at hw
            exact v_loc [2, 3, 4, 5, 6, 7] rfl (sbX9_extend_149 hR F hrec hRr ih hw)
          · rw [if_pos h] at hw
            refine v_iload F dX9_extend_91 6 rfl ?_
            refine v_iconst (v := 1) F dX9_extend_93 (by decide) ?_
            refine v_iadd F dX9_extend_94 ?_
            refine v_aload_n F dX9_extend_95 rfl 2 rfl ?_
            obtain ⟨kd17, hw⟩ := hw
            obtain ⟨b18, hr19, hw⟩ := hw
            refine v_getS F fl_X9_30 (fun _ => rfl) kd17 hr19 dX9_extend_96 ?_
            refine v_iload F dX9_extend_99 0 rfl ?_
            obtain ⟨kd20, hw⟩ := hw
            obtain ⟨hi21, hw⟩ := hw
            refine v_ialdE F rfl kd20 hi21 dX9_extend_101 ?_
            refine v_iadd F dX9_extend_102 ?_
            refine v_aload_n F dX9_extend_103 rfl 2 rfl ?_
            refine v_get F fl_X9_49 kd17 rfl dX9_extend_104 ?_
            refine v_icmp_gt (tgt := 149) F dX9_extend_107 (by decide) (fun h => ?_) (fun h => ?_)
            · rw [if_pos h] at hw
              exact v_loc [2, 3, 4, 5, 6, 7] rfl (sbX9_extend_149 hR F hrec hRr ih hw)
            · rw [if_neg h] at hw
              refine v_aload_n F dX9_extend_110 rfl 2 rfl ?_
              refine v_aload F dX9_extend_111 1 rfl ?_
              refine v_iload_n F dX9_extend_113 rfl 4 rfl ?_
              refine v_aload F dX9_extend_114 1 rfl ?_
              obtain ⟨kd22, hw⟩ := hw
              refine v_getG F fl_X9_68 kd22 rfl dX9_extend_116 ?_
              refine v_icmp_eq (tgt := 126) F dX9_extend_119 (by decide) (fun h => ?_) (fun h => ?_)
              · rw [if_pos h] at hw
                refine v_iconst (v := 0) F dX9_extend_126 (by decide) ?_
                exact v_loc [2, 3, 4, 5, 6, 7, 0] rfl (sbX9_extend_127 hR F hrec hRr ih hw)
              · rw [if_neg h] at hw
                refine v_iconst (v := 1) F dX9_extend_122 (by decide) ?_
                refine v_goto (tgt := 127) F dX9_extend_123 (by decide) ?_
                exact v_loc [2, 3, 4, 5, 6, 7, 0] rfl (sbX9_extend_127 hR F hrec hRr ih hw)
set_option maxRecDepth 100000 in
theorem sX9_extend {l : Launch} {D : Dx} : ∀ (d : Nat) (a0 : Nat) (a1 : Nat) (p2 : Int32) (p3 : Int32) (p4 : Int32) {G : Wd} {Q : Wd → Prop}, wpX9_extend d a0 a1 p2 p3 p4 G Q → Met l yX9_extend (wM yX9_extend cX9_extend 8 none) (rmX9_extend d) (PM D [.ref a0, .ref a1, .int p2, .int p3, .int p4] G) (QMv D Q) 0 0 (Ab D) := by
  intro d
  induction d with
  | zero => intro a0 a1 p2 p3 p4 G Q hw; exact hw.elim
  | succ d ihd =>
    intro a0 a1 p2 p3 p4 G Q hw
    refine v_met (by decide) (Nat.le_of_ble_eq_true rfl) (fun X hl hR F => ?_)
    subst hl
    have F : Fx X D cX9_extend 8 RX9 none "extend" := F
    have hrec : ∀ (a0 : Nat) (a1 : Nat) (p2 : Int32) (p3 : Int32) (p4 : Int32) (G : Wd) (Q : Wd → Prop), wpX9_extend d a0 a1 p2 p3 p4 G Q → Met X.2.1 yX9_extend (wM yX9_extend cX9_extend 8 none) (rmX9_extend d) (PM D [.ref a0, .ref a1, .int p2, .int p3, .int p4] G) (QMv D Q) 0 0 (Ab D) := fun a0 a1 p2 p3 p4 G Q hw => ihd a0 a1 p2 p3 p4 hw
    have hRr : Rm X 0 0 8 0 0 (rmX9_extend d) := mkRm2 hR rfl rfl (by simp [rmX9_extend]; try omega) (by simp [rmX9_extend]; try omega) (Nat.le_of_ble_eq_true rfl) (Nat.le_of_ble_eq_true rfl)
    refine v_cast (L' := [(0, .ref a0), (1, .ref a1), (2, .int p2), (3, .int p3), (4, .int p4)]) rfl rfl ?_
    simp only [wpX9_extend] at hw
    refine v_iload_n F dX9_extend_0 rfl 2 rfl ?_
    refine v_aload_n F dX9_extend_1 rfl 0 rfl ?_
    obtain ⟨kd23, hw⟩ := hw
    refine v_get F fl_X9_78 kd23 rfl dX9_extend_2 ?_
    refine v_icmp_ne (tgt := 20) F dX9_extend_5 (by decide) (fun h => ?_) (fun h => ?_)
    · rw [if_neg h] at hw
      refine v_iload F dX9_extend_20 4 rfl ?_
      refine v_aload_n F dX9_extend_22 rfl 0 rfl ?_
      refine v_get F fl_X9_49 kd23 rfl dX9_extend_23 ?_
      refine v_icmp_lt (tgt := 30) F dX9_extend_26 (by decide) (fun h => ?_) (fun h => ?_)
      · rw [if_pos h] at hw
        refine v_aload_n F dX9_extend_30 rfl 0 rfl ?_
        refine v_get F fl_X9_81 kd23 rfl dX9_extend_31 ?_
        refine v_topi (fun x24 hx24 => ?_)
        have hw := hw x24 hx24
        refine v_istore (L' := [(5, .int x24), (0, .ref a0), (1, .ref a1), (2, .int p2), (3, .int p3), (4, .int p4)]) F dX9_extend_34 (by decide) rfl ?_
        obtain ⟨m, hw⟩ := hw
        exact v_loc [1, 2, 3, 4, 5, 0] rfl (sbX9_extend_36 hR F hrec hRr  m _ _ _ _ _ _ _ hw)
      · rw [if_neg h] at hw
        exact v_vret F hw dX9_extend_29
    · rw [if_pos h] at hw
      refine v_aload_n F dX9_extend_8 rfl 0 rfl ?_
      refine v_iload F dX9_extend_9 4 rfl ?_
      refine v_putI F fl_X9_42 (fun h => absurd h (by decide)) rfl kd23 dX9_extend_11 ?_
      refine v_nmG (fun G25 hG25 => ?_)
      have hw := hw G25 hG25
      refine v_aload_n F dX9_extend_14 rfl 1 rfl ?_
      refine v_aload_n F dX9_extend_15 rfl 0 rfl ?_
      rcases hw with ⟨hk, hw⟩ | ⟨hk, hw⟩ | ⟨hk, hw⟩ | ⟨hk, hw⟩
      · refine v_callv (r_U F lu_X9_118_X0 hk (sX0_arrived hw) (mkRm2 hR rfl rfl (by simp [rmX0_arrived, rmX9_extend]; try omega) (by simp [rmX0_arrived, rmX9_extend]; try omega) (Nat.le_of_ble_eq_true rfl) (Nat.le_of_ble_eq_true rfl)) rfl rfl (Nat.le_of_ble_eq_true rfl) dX9_extend_16) (fun G27 hw => ?_)
        refine v_widen (c' := 0) (s' := 0) (by decide) (by decide) ?_
        exact v_vret F hw dX9_extend_19
      · refine v_callv (r_U F lu_X9_118_X7 hk (sX7_arrived hw) (mkRm2 hR rfl rfl (by simp [rmX7_arrived, rmX9_extend]; try omega) (by simp [rmX7_arrived, rmX9_extend]; try omega) (Nat.le_of_ble_eq_true rfl) (Nat.le_of_ble_eq_true rfl)) rfl rfl (Nat.le_of_ble_eq_true rfl) dX9_extend_16) (fun G29 hw => ?_)
        refine v_widen (c' := 0) (s' := 0) (by decide) (by decide) ?_
        exact v_vret F hw dX9_extend_19
      · refine v_callv (r_U F lu_X9_118_X8 hk (sX8_arrived hw) (mkRm2 hR rfl rfl (by simp [rmX8_arrived, rmX9_extend]; try omega) (by simp [rmX8_arrived, rmX9_extend]; try omega) (Nat.le_of_ble_eq_true rfl) (Nat.le_of_ble_eq_true rfl)) rfl rfl (Nat.le_of_ble_eq_true rfl) dX9_extend_16) (fun G31 hw => ?_)
        refine v_widen (c' := 0) (s' := 0) (by decide) (by decide) ?_
        exact v_vret F hw dX9_extend_19
      · refine v_callv (r_U F lu_X9_118_X4 hk (sX4_arrived hw) (mkRm2 hR rfl rfl (by simp [rmX4_arrived, rmX9_extend]; try omega) (by simp [rmX4_arrived, rmX9_extend]; try omega) (Nat.le_of_ble_eq_true rfl) (Nat.le_of_ble_eq_true rfl)) rfl rfl (Nat.le_of_ble_eq_true rfl) dX9_extend_16) (fun G33 hw => ?_)
        refine v_widen (c' := 0) (s' := 0) (by decide) (by decide) ?_
        exact v_vret F hw dX9_extend_19
set_option maxRecDepth 100000 in
theorem sX9_seekWays {l : Launch} {D : Dx} {a0 : Nat} {p1 : Int32} {p2 : Int32} {a3 : Nat} {G : Wd} {Q : Wd → Prop} (hw : wpX9_seekWays a0 p1 p2 a3 G Q) : Met l yX9_seekWays (wM yX9_seekWays cX9_seekWays 4 none) rmX9_seekWays (PM D [.ref a0, .int p1, .int p2, .ref a3] G) (QMv D Q) 0 0 (Ab D) := by
  refine v_met (by decide) (Nat.le_of_ble_eq_true rfl) (fun X hl hR F => ?_)
  subst hl
  have F : Fx X D cX9_seekWays 4 RX9 none "seekWays" := F
  refine v_cast (L' := [(0, .ref a0), (1, .int p1), (2, .int p2), (3, .ref a3)]) rfl rfl ?_
  unfold wpX9_seekWays at hw
  refine v_aload_n F dX9_seekWays_0 rfl 0 rfl ?_
  refine v_iload_n F dX9_seekWays_1 rfl 2 rfl ?_
  refine v_iconst (v := 0) F dX9_seekWays_2 (by decide) ?_
  obtain ⟨kd1, hw⟩ := hw
  refine v_callv (r_V F lk_X9_45 kd1 (sX9_aim hw) (mkRm hR rfl rfl rfl rfl rfl rfl) rfl rfl (Nat.le_of_ble_eq_true rfl) dX9_seekWays_3) (fun G3 hw => ?_)
  refine v_aload_n F dX9_seekWays_6 rfl 0 rfl ?_
  refine v_bipush (v := 9) F dX9_seekWays_7 (by decide) ?_
  obtain ⟨kd4, hw⟩ := hw
  refine v_putI F fl_X9_49 (fun h => absurd h (by decide)) rfl kd4 dX9_seekWays_9 ?_
  refine v_nmG (fun G5 hG5 => ?_)
  have hw := hw G5 hG5
  refine v_aload_n F dX9_seekWays_12 rfl 0 rfl ?_
  refine v_aload_n F dX9_seekWays_13 rfl 3 rfl ?_
  refine v_iload_n F dX9_seekWays_14 rfl 1 rfl ?_
  refine v_iconst (v := 1) F dX9_seekWays_15 (by decide) ?_
  refine v_iload_n F dX9_seekWays_16 rfl 1 rfl ?_
  refine v_ishl F dX9_seekWays_17 ?_
  refine v_iconst (v := 0) F dX9_seekWays_18 (by decide) ?_
  refine v_callv (r_S F ls_X9_52 (sX9_extend 12 _ _ _ _ _ hw) (mkRm hR rfl rfl rfl rfl rfl rfl) rfl rfl (Nat.le_of_ble_eq_true rfl) dX9_seekWays_19) (fun G7 hw => ?_)
  refine v_widen (c' := 0) (s' := 0) (by decide) (by decide) ?_
  exact v_vret F hw dX9_seekWays_22
set_option maxRecDepth 100000 in
theorem sbX9_pickWay_64 {X : Cx} {D : Dx} (hR : X.2.2.2.1 = rmX9_pickWay) (F : Fx X D cX9_pickWay 6 RX9 (some .boolean) "pickWay") {Q : Int32 → Wd → Prop} {v0 : Nat} {G : Wd} (hw : wpX9_pickWay_64 Q  v0 G) : V X D 6 (ZM X D (QMi D Q) 0 0) G 0 0 64 [(0, .ref v0)] [] := by
  unfold wpX9_pickWay_64 at hw
  refine v_aload_n F dX9_pickWay_64 rfl 0 rfl ?_
  obtain ⟨kd1, hw⟩ := hw
  refine v_get F fl_X9_61 kd1 rfl dX9_pickWay_65 ?_
  exact v_zret F hw.1 hw.2 dX9_pickWay_68
set_option maxRecDepth 100000 in
theorem sbX9_pickWay_20 {X : Cx} {D : Dx} (hR : X.2.2.2.1 = rmX9_pickWay) (F : Fx X D cX9_pickWay 6 RX9 (some .boolean) "pickWay") {Q : Int32 → Wd → Prop} : ∀ (n : Nat) (v0 : Nat) (v1 : Int32) (v4 : Nat) (v5 : Int32) (G : Wd), wpX9_pickWay_20 Q  n v0 v1 v4 v5 G → V X D 6 (ZM X D (QMi D Q) 0 0) G 0 0 20 [(0, .ref v0), (1, .int v1), (4, .ref v4), (5, .int v5)] [] := by
  intro n
  induction n with
  | zero => intro v0 v1 v4 v5 G hw; exact hw.elim
  | succ n ih =>
    intro v0 v1 v4 v5 G hw
    simp only [wpX9_pickWay_20] at hw
    refine v_iload F dX9_pickWay_20 3 rfl ?_
    refine v_bipush (v := 9) F dX9_pickWay_22 (by decide) ?_
    refine v_icmp_gt (tgt := 64) F dX9_pickWay_24 (by decide) (fun h => ?_) (fun h => ?_)
    · rw [if_pos h] at hw
      exact v_loc [0] rfl (sbX9_pickWay_64 hR F  hw)
    · rw [if_neg h] at hw
      refine v_aload_n F dX9_pickWay_27 rfl 0 rfl ?_
      obtain ⟨kd2, hw⟩ := hw
      refine v_get F fl_X9_61 kd2 rfl dX9_pickWay_28 ?_
      refine v_if_ne (tgt := 64) F dX9_pickWay_31 (by decide) (fun h => ?_) (fun h => ?_)
      · rw [if_neg h] at hw
        exact v_loc [0] rfl (sbX9_pickWay_64 hR F  hw)
      · rw [if_pos h] at hw
        refine v_aload F dX9_pickWay_34 2 rfl ?_
        refine v_iload F dX9_pickWay_36 3 rfl ?_
        obtain ⟨kd3, hw⟩ := hw
        refine v_putI F fl_X9_65 (fun h => absurd h (by decide)) rfl kd3 dX9_pickWay_38 ?_
        refine v_nmG (fun G4 hG4 => ?_)
        have hw := hw G4 hG4
        refine v_aload_n F dX9_pickWay_41 rfl 0 rfl ?_
        refine v_iload F dX9_pickWay_42 3 rfl ?_
        have kd5 : gK G4 v0 = 9 := by rw [hG4]; exact kd2
        refine v_putI F fl_X9_49 (fun h => absurd h (by decide)) rfl kd5 dX9_pickWay_44 ?_
        refine v_nmG (fun G6 hG6 => ?_)
        have hw := hw G6 hG6
        refine v_aload_n F dX9_pickWay_47 rfl 0 rfl ?_
        refine v_aload F dX9_pickWay_48 2 rfl ?_
        refine v_iload_n F dX9_pickWay_50 rfl 1 rfl ?_
        refine v_iconst (v := 1) F dX9_pickWay_51 (by decide) ?_
        refine v_iload_n F dX9_pickWay_52 rfl 1 rfl ?_
        refine v_ishl F dX9_pickWay_53 ?_
        refine v_iconst (v := 0) F dX9_pickWay_54 (by decide) ?_
        refine v_callv (r_S F ls_X9_52 (sX9_extend 12 _ _ _ _ _ hw) (mkRm hR rfl rfl rfl rfl rfl rfl) rfl rfl (Nat.le_of_ble_eq_true rfl) dX9_pickWay_55) (fun G8 hw => ?_)
        refine v_iincN (c := 1) F dX9_pickWay_58 3 rfl (by decide) (by decide) (fun x9 hx9 => ?_)
        refine v_cast (L' := [(5, .int x9), (0, .ref v0), (1, .int v1), (4, .ref v4)]) rfl rfl ?_
        have hw := hw x9 hx9
        refine v_goto (tgt := 20) F dX9_pickWay_61 (by decide) ?_
        exact v_loc [1, 2, 3, 0] rfl (ih _ _ _ _ _ hw)
set_option maxRecDepth 100000 in
theorem sX9_pickWay {l : Launch} {D : Dx} {a0 : Nat} {p1 : Int32} {p2 : Int32} {p3 : Int32} {a4 : Nat} {G : Wd} {Q : Int32 → Wd → Prop} (hw : wpX9_pickWay a0 p1 p2 p3 a4 G Q) : Met l yX9_pickWay (wM yX9_pickWay cX9_pickWay 6 (some .boolean)) rmX9_pickWay (PM D [.ref a0, .int p1, .int p2, .int p3, .ref a4] G) (QMi D Q) 0 0 (Ab D) := by
  refine v_met (by decide) (Nat.le_of_ble_eq_true rfl) (fun X hl hR F => ?_)
  subst hl
  have F : Fx X D cX9_pickWay 6 RX9 (some .boolean) "pickWay" := F
  refine v_cast (L' := [(0, .ref a0), (1, .int p1), (2, .int p2), (3, .int p3), (4, .ref a4)]) rfl rfl ?_
  unfold wpX9_pickWay at hw
  refine v_aload_n F dX9_pickWay_0 rfl 0 rfl ?_
  refine v_iload_n F dX9_pickWay_1 rfl 2 rfl ?_
  refine v_iconst (v := 0) F dX9_pickWay_2 (by decide) ?_
  obtain ⟨kd10, hw⟩ := hw
  refine v_callv (r_V F lk_X9_45 kd10 (sX9_aim hw) (mkRm hR rfl rfl rfl rfl rfl rfl) rfl rfl (Nat.le_of_ble_eq_true rfl) dX9_pickWay_3) (fun G12 hw => ?_)
  refine v_aload F dX9_pickWay_6 4 rfl ?_
  refine v_iload_n F dX9_pickWay_8 rfl 3 rfl ?_
  obtain ⟨kd13, hw⟩ := hw
  refine v_putI F fl_X9_56 (fun h => absurd h (by decide)) rfl kd13 dX9_pickWay_9 ?_
  refine v_nmG (fun G14 hG14 => ?_)
  have hw := hw G14 hG14
  refine v_aload_n F dX9_pickWay_12 rfl 0 rfl ?_
  obtain ⟨kd15, hw⟩ := hw
  obtain ⟨b16, hr17, hw⟩ := hw
  refine v_getS F fl_X9_30 (fun _ => rfl) kd15 hr17 dX9_pickWay_13 ?_
  refine v_iload_n F dX9_pickWay_16 rfl 1 rfl ?_
  obtain ⟨kd18, hw⟩ := hw
  obtain ⟨hi19, hw⟩ := hw
  refine v_ialdE F rfl kd18 hi19 dX9_pickWay_17 ?_
  refine v_topi (fun x20 hx20 => ?_)
  have hw := hw x20 hx20
  refine v_istore (L' := [(5, .int x20), (0, .ref a0), (1, .int p1), (2, .int p2), (3, .int p3), (4, .ref a4)]) F dX9_pickWay_18 (by decide) rfl ?_
  obtain ⟨m, hw⟩ := hw
  exact v_loc [1, 2, 5, 0] rfl (sbX9_pickWay_20 hR F  m _ _ _ _ _ hw)
set_option maxRecDepth 100000 in
theorem sbX9_seekRings_120 {X : Cx} {D : Dx} (hR : X.2.2.2.1 = rmX9_seekRings) (F : Fx X D cX9_seekRings 6 RX9 none "seekRings") {Q : Wd → Prop} {k7 : Nat → Nat → Int32 → Wd → Prop} (hk7 : ∀ v0 v1 v2 G, k7 v0 v1 v2 G → V X D 6 (ZM X D (QMv D Q) 0 0) G 0 0 7 [(0, .ref v0), (1, .ref v1), (2, .int v2)] []) {v0 : Nat} {v1 : Nat} {v2 : Int32} {G : Wd} (hw : wpX9_seekRings_120 Q k7 v0 v1 v2 G) : V X D 6 (ZM X D (QMv D Q) 0 0) G 0 0 120 [(0, .ref v0), (1, .ref v1), (2, .int v2)] [] := by
  unfold wpX9_seekRings_120 at hw
  refine v_iincN (c := 1) F dX9_seekRings_120 2 rfl (by decide) (by decide) (fun x1 hx1 => ?_)
  refine v_cast (L' := [(2, .int x1), (0, .ref v0), (1, .ref v1)]) rfl rfl ?_
  have hw := hw x1 hx1
  refine v_goto (tgt := 7) F dX9_seekRings_123 (by decide) ?_
  exact v_loc [1, 2, 0] rfl (hk7 _ _ _ _ hw)
set_option maxRecDepth 100000 in
theorem sbX9_seekRings_86 {X : Cx} {D : Dx} (hR : X.2.2.2.1 = rmX9_seekRings) (F : Fx X D cX9_seekRings 6 RX9 none "seekRings") {Q : Wd → Prop} {k7 : Nat → Nat → Int32 → Wd → Prop} (hk7 : ∀ v0 v1 v2 G, k7 v0 v1 v2 G → V X D 6 (ZM X D (QMv D Q) 0 0) G 0 0 7 [(0, .ref v0), (1, .ref v1), (2, .int v2)] []) {v0 : Nat} {v1 : Nat} {v2 : Int32} {v3 : Nat} {v4 : Int32} {v5 : Int32} {s0 : Nat} {s1 : Int32} {G : Wd} (hw : wpX9_seekRings_86 Q k7 v0 v1 v2 v3 v4 v5 s0 s1 G) : V X D 6 (ZM X D (QMv D Q) 0 0) G 0 0 86 [(0, .ref v0), (1, .ref v1), (2, .int v2), (3, .ref v3), (4, .int v4), (5, .int v5)] [.int s1, .ref s0] := by
  unfold wpX9_seekRings_86 at hw
  refine v_iload_n F dX9_seekRings_86 rfl 2 rfl ?_
  refine v_iconst (v := 2) F dX9_seekRings_87 (by decide) ?_
  refine v_idiv F dX9_seekRings_88 (by decide) ?_
  refine v_iconst (v := 1) F dX9_seekRings_89 (by decide) ?_
  refine v_iadd F dX9_seekRings_90 ?_
  obtain ⟨kd2, hw⟩ := hw
  refine v_callv (r_V F lk_X9_45 kd2 (sX9_aim hw) (mkRm hR rfl rfl rfl rfl rfl rfl) rfl rfl (Nat.le_of_ble_eq_true rfl) dX9_seekRings_91) (fun G4 hw => ?_)
  refine v_aload_n F dX9_seekRings_94 rfl 0 rfl ?_
  refine v_bipush (v := 10) F dX9_seekRings_95 (by decide) ?_
  obtain ⟨kd5, hw⟩ := hw
  refine v_putI F fl_X9_49 (fun h => absurd h (by decide)) rfl kd5 dX9_seekRings_97 ?_
  refine v_nmG (fun G6 hG6 => ?_)
  have hw := hw G6 hG6
  refine v_aload_n F dX9_seekRings_100 rfl 0 rfl ?_
  refine v_aload_n F dX9_seekRings_101 rfl 3 rfl ?_
  refine v_iload F dX9_seekRings_102 4 rfl ?_
  refine v_iconst (v := 0) F dX9_seekRings_104 (by decide) ?_
  have kd7 : gK G6 v0 = 9 := by rw [hG6]; exact kd5
  refine v_callv (r_V F lk_X9_74 kd7 (sX9_take hw) (mkRm hR rfl rfl rfl rfl rfl rfl) rfl rfl (Nat.le_of_ble_eq_true rfl) dX9_seekRings_105) (fun G9 hw => ?_)
  refine v_aload_n F dX9_seekRings_108 rfl 0 rfl ?_
  refine v_aload_n F dX9_seekRings_109 rfl 1 rfl ?_
  refine v_iload F dX9_seekRings_110 5 rfl ?_
  refine v_iconst (v := 1) F dX9_seekRings_112 (by decide) ?_
  refine v_iload F dX9_seekRings_113 5 rfl ?_
  refine v_ishl F dX9_seekRings_115 ?_
  refine v_iconst (v := 1) F dX9_seekRings_116 (by decide) ?_
  refine v_callv (r_S F ls_X9_52 (sX9_extend 12 _ _ _ _ _ hw) (mkRm hR rfl rfl rfl rfl rfl rfl) rfl rfl (Nat.le_of_ble_eq_true rfl) dX9_seekRings_117) (fun G11 hw => ?_)
  exact v_loc [0, 1, 2] rfl (sbX9_seekRings_120 hR F hk7 hw)
set_option maxRecDepth 100000 in
theorem sbX9_seekRings_67 {X : Cx} {D : Dx} (hR : X.2.2.2.1 = rmX9_seekRings) (F : Fx X D cX9_seekRings 6 RX9 none "seekRings") {Q : Wd → Prop} {k7 : Nat → Nat → Int32 → Wd → Prop} (hk7 : ∀ v0 v1 v2 G, k7 v0 v1 v2 G → V X D 6 (ZM X D (QMv D Q) 0 0) G 0 0 7 [(0, .ref v0), (1, .ref v1), (2, .int v2)] []) {v0 : Nat} {v1 : Nat} {v2 : Int32} {v3 : Nat} {v4 : Int32} {s0 : Int32} {G : Wd} (hw : wpX9_seekRings_67 Q k7 v0 v1 v2 v3 v4 s0 G) : V X D 6 (ZM X D (QMv D Q) 0 0) G 0 0 67 [(0, .ref v0), (1, .ref v1), (2, .int v2), (3, .ref v3), (4, .int v4)] [.int s0] := by
  unfold wpX9_seekRings_67 at hw
  refine v_istore (L' := [(5, .int s0), (0, .ref v0), (1, .ref v1), (2, .int v2), (3, .ref v3), (4, .int v4)]) F dX9_seekRings_67 (by decide) rfl ?_
  refine v_aload_n F dX9_seekRings_69 rfl 1 rfl ?_
  refine v_iload F dX9_seekRings_70 5 rfl ?_
  refine v_if_eq (tgt := 82) F dX9_seekRings_72 (by decide) (fun h => ?_) (fun h => ?_)
  · rw [if_pos h] at hw
    refine v_aload_n F dX9_seekRings_82 rfl 4 rfl ?_
    obtain ⟨kd12, hw⟩ := hw
    refine v_getG F fl_X9_68 kd12 rfl dX9_seekRings_83 ?_
    exact v_loc [1, 2, 3, 4, 5, 0] rfl (sbX9_seekRings_86 hR F hk7 hw)
  · rw [if_neg h] at hw
    refine v_aload_n F dX9_seekRings_75 rfl 4 rfl ?_
    obtain ⟨kd13, hw⟩ := hw
    refine v_getG F fl_X9_71 kd13 rfl dX9_seekRings_76 ?_
    refine v_goto (tgt := 86) F dX9_seekRings_79 (by decide) ?_
    exact v_loc [1, 2, 3, 4, 5, 0] rfl (sbX9_seekRings_86 hR F hk7 hw)
set_option maxRecDepth 100000 in
theorem sbX9_seekRings_49 {X : Cx} {D : Dx} (hR : X.2.2.2.1 = rmX9_seekRings) (F : Fx X D cX9_seekRings 6 RX9 none "seekRings") {Q : Wd → Prop} {k7 : Nat → Nat → Int32 → Wd → Prop} (hk7 : ∀ v0 v1 v2 G, k7 v0 v1 v2 G → V X D 6 (ZM X D (QMv D Q) 0 0) G 0 0 7 [(0, .ref v0), (1, .ref v1), (2, .int v2)] []) {v0 : Nat} {v1 : Nat} {v2 : Int32} {v3 : Nat} {s0 : Int32} {G : Wd} (hw : wpX9_seekRings_49 Q k7 v0 v1 v2 v3 s0 G) : V X D 6 (ZM X D (QMv D Q) 0 0) G 0 0 49 [(0, .ref v0), (1, .ref v1), (2, .int v2), (3, .ref v3)] [.int s0] := by
  unfold wpX9_seekRings_49 at hw
  refine v_istore (L' := [(4, .int s0), (0, .ref v0), (1, .ref v1), (2, .int v2), (3, .ref v3)]) F dX9_seekRings_49 (by decide) rfl ?_
  refine v_iload F dX9_seekRings_51 0 rfl ?_
  refine v_if_eq (tgt := 63) F dX9_seekRings_53 (by decide) (fun h => ?_) (fun h => ?_)
  · rw [if_pos h] at hw
    refine v_aload_n F dX9_seekRings_63 rfl 4 rfl ?_
    obtain ⟨kd14, hw⟩ := hw
    refine v_getG F fl_X9_71 kd14 rfl dX9_seekRings_64 ?_
    exact v_loc [1, 2, 3, 4, 0] rfl (sbX9_seekRings_67 hR F hk7 hw)
  · rw [if_neg h] at hw
    refine v_aload_n F dX9_seekRings_56 rfl 4 rfl ?_
    obtain ⟨kd15, hw⟩ := hw
    refine v_getG F fl_X9_68 kd15 rfl dX9_seekRings_57 ?_
    refine v_goto (tgt := 67) F dX9_seekRings_60 (by decide) ?_
    exact v_loc [1, 2, 3, 4, 0] rfl (sbX9_seekRings_67 hR F hk7 hw)
set_option maxRecDepth 100000 in
theorem sbX9_seekRings_7 {X : Cx} {D : Dx} (hR : X.2.2.2.1 = rmX9_seekRings) (F : Fx X D cX9_seekRings 6 RX9 none "seekRings") {Q : Wd → Prop} : ∀ (n : Nat) (v0 : Nat) (v1 : Nat) (v2 : Int32) (G : Wd), wpX9_seekRings_7 Q  n v0 v1 v2 G → V X D 6 (ZM X D (QMv D Q) 0 0) G 0 0 7 [(0, .ref v0), (1, .ref v1), (2, .int v2)] [] := by
  intro n
  induction n with
  | zero => intro v0 v1 v2 G hw; exact hw.elim
  | succ n ih =>
    intro v0 v1 v2 G hw
    simp only [wpX9_seekRings_7] at hw
    refine v_iload_n F dX9_seekRings_7 rfl 2 rfl ?_
    refine v_iconst (v := 2) F dX9_seekRings_8 (by decide) ?_
    refine v_aload_n F dX9_seekRings_9 rfl 0 rfl ?_
    obtain ⟨kd16, hw⟩ := hw
    refine v_get F fl_X9_38 kd16 rfl dX9_seekRings_10 ?_
    refine v_imul F dX9_seekRings_13 ?_
    refine v_icmp_ge (tgt := 126) F dX9_seekRings_14 (by decide) (fun h => ?_) (fun h => ?_)
    · rw [if_pos h] at hw
      exact v_vret F hw dX9_seekRings_126
    · rw [if_neg h] at hw
      refine v_aload_n F dX9_seekRings_17 rfl 0 rfl ?_
      refine v_get F fl_X9_61 kd16 rfl dX9_seekRings_18 ?_
      refine v_if_ne (tgt := 126) F dX9_seekRings_21 (by decide) (fun h => ?_) (fun h => ?_)
      · rw [if_neg h] at hw
        exact v_vret F hw dX9_seekRings_126
      · rw [if_pos h] at hw
        refine v_aload_n F dX9_seekRings_24 rfl 0 rfl ?_
        obtain ⟨b17, hr18, hw⟩ := hw
        refine v_getS F fl_X9_11 (fun _ => rfl) kd16 hr18 dX9_seekRings_25 ?_
        refine v_iload_n F dX9_seekRings_28 rfl 2 rfl ?_
        refine v_iconst (v := 2) F dX9_seekRings_29 (by decide) ?_
        refine v_idiv F dX9_seekRings_30 (by decide) ?_
        obtain ⟨kd19, hw⟩ := hw
        obtain ⟨hi20, hw⟩ := hw
        obtain ⟨b21, hr22, hw⟩ := hw
        refine v_aaldS (t := 5) F rfl rfl kd19 hi20 hr22 dX9_seekRings_31 ?_
        refine v_astore_n (L' := [(3, .ref b21), (0, .ref v0), (1, .ref v1), (2, .int v2)]) F dX9_seekRings_32 rfl (by decide) rfl ?_
        refine v_aload_n F dX9_seekRings_33 rfl 0 rfl ?_
        refine v_ifnull (r := some b21) (tgt := 120) F dX9_seekRings_34 (by decide) (fun h => nomatch h) (fun _ _ => ?_)
        refine v_iload_n F dX9_seekRings_37 rfl 3 rfl ?_
        refine v_iconst (v := 2) F dX9_seekRings_38 (by decide) ?_
        refine v_iremE F dX9_seekRings_39 (by decide) ?_
        refine v_iconst (v := 1) F dX9_seekRings_40 (by decide) ?_
        refine v_icmp_ne (tgt := 48) F dX9_seekRings_41 (by decide) (fun h => ?_) (fun h => ?_)
        · rw [if_neg h] at hw
          refine v_iconst (v := 0) F dX9_seekRings_48 (by decide) ?_
          exact v_loc [1, 2, 3, 0] rfl (sbX9_seekRings_49 hR F ih hw)
        · rw [if_pos h] at hw
          refine v_iconst (v := 1) F dX9_seekRings_44 (by decide) ?_
          refine v_goto (tgt := 49) F dX9_seekRings_45 (by decide) ?_
          exact v_loc [1, 2, 3, 0] rfl (sbX9_seekRings_49 hR F ih hw)
set_option maxRecDepth 100000 in
theorem sX9_seekRings {l : Launch} {D : Dx} {a0 : Nat} {a1 : Nat} {G : Wd} {Q : Wd → Prop} (hw : wpX9_seekRings a0 a1 G Q) : Met l yX9_seekRings (wM yX9_seekRings cX9_seekRings 6 none) rmX9_seekRings (PM D [.ref a0, .ref a1] G) (QMv D Q) 0 0 (Ab D) := by
  refine v_met (by decide) (Nat.le_of_ble_eq_true rfl) (fun X hl hR F => ?_)
  subst hl
  have F : Fx X D cX9_seekRings 6 RX9 none "seekRings" := F
  refine v_cast (L' := [(0, .ref a0), (1, .ref a1)]) rfl rfl ?_
  unfold wpX9_seekRings at hw
  refine v_aload_n F dX9_seekRings_0 rfl 0 rfl ?_
  refine v_iconst (v := 0) F dX9_seekRings_1 (by decide) ?_
  obtain ⟨kd23, hw⟩ := hw
  refine v_putZ F fl_X9_61 (fun h => absurd h (by decide)) rfl (Or.inl rfl) kd23 dX9_seekRings_2 ?_
  refine v_nmG (fun G24 hG24 => ?_)
  have hw := hw G24 hG24
  refine v_iconst (v := 0) F dX9_seekRings_5 (by decide) ?_
  refine v_istore_n (L' := [(2, .int 0), (0, .ref a0), (1, .ref a1)]) F dX9_seekRings_6 rfl (by decide) rfl ?_
  obtain ⟨m, hw⟩ := hw
  exact v_loc [1, 2, 0] rfl (sbX9_seekRings_7 hR F  m _ _ _ _ hw)
