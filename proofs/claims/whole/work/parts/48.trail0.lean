/-! ===== the trail at its start ===== -/
theorem cb.K {z o : Nat} {G : Wd} {L : List (Nat × Nat × Nat)} {F C : List Nat} (h : cb z G o L F C) (x : Nat) (hx : x < o) : gK G (z + x) = cKd x := (h.2.1 x hx).1
theorem cb.N {z o : Nat} {G : Wd} {L : List (Nat × Nat × Nat)} {F C : List Nat} (h : cb z G o L F C) (x : Nat) (hx : x < o) : gN G (z + x) = cNs x := (h.2.1 x hx).2
theorem cb.R {z o : Nat} {G : Wd} {L : List (Nat × Nat × Nat)} {F C : List Nat} (h : cb z G o L F C) (c k p : Nat) (hx : (c, k, p) ∈ L) : gR G (z + c) k = some (z + p) := h.2.2.1 (c, k, p) hx
theorem X2_become1 {G : Wd} {a : Nat} {Q : Wd → Prop} (hk : gK G a = 3) (h : Q (wF G a (some (1, 1)))) : wpX2_become a 1 1 G Q := by
  refine X2_become hk (by decide) (by decide) ?_
  rw [show (1 : Int64) / lN (max (jg 1 1) 1) = 1 by decide]
  exact h
def trL : List (Nat × Nat × Nat) := [(9, 10, 32), (8, 10, 31), (9, 9, 30), (8, 9, 29), (9, 8, 28), (8, 8, 27), (9, 7, 26), (8, 7, 25), (9, 6, 24), (8, 6, 23), (9, 5, 22), (8, 5, 21), (9, 4, 20), (8, 4, 19), (9, 3, 18), (8, 3, 17), (9, 2, 16), (8, 2, 15), (9, 1, 14), (8, 1, 13), (9, 0, 12), (8, 0, 11), (5, 7, 10), (5, 6, 9), (5, 5, 8), (5, 2, 7), (5, 0, 6), (0, 4, 4), (0, 3, 3), (0, 1, 2), (0, 0, 1)]
set_option maxRecDepth 100000 in
theorem X9_init {z : Nat} {G : Wd} {Q : Wd → Prop} (h0 : cb z G 6 [(0, 4, 4), (0, 3, 3), (0, 1, 2), (0, 0, 1)] [] []) (hQ : ∀ G', cb z G' 33 trL [12, 11] [] → Q G') : wpX9_init (z + 5) G Q := by
  unfold wpX9_init wpX2_init
  intro z0 G0 ez0 eg0
  have zz0 := ez0.trans h0.1
  subst zz0
  have h1 := h0.new eg0 rfl rfl (by decide) (by decide) (by decide)
  refine ⟨h1.K 5 (by decide), fun F1 f1 => ?_⟩
  have h2 := h1.ref (p := 6) f1 (by decide)
  intro z2 G2 ez2 eg2
  have zz2 := ez2.trans h2.1
  subst zz2
  have h3 := h2.new eg2 rfl rfl (by decide) (by decide) (by decide)
  refine ⟨h3.K 5 (by decide), fun F3 f3 => ?_⟩
  have h4 := h3.ref (p := 7) f3 (by decide)
  intro z4 G4 ez4 eg4
  have zz4 := ez4.trans h4.1
  subst zz4
  have h5 := h4.new eg4 rfl rfl (by decide) (by decide) (by decide)
  refine ⟨h5.K 5 (by decide), fun F5 f5 => ?_⟩
  have h6 := h5.ref (p := 8) f5 (by decide)
  intro z6 G6 ez6 eg6
  have zz6 := ez6.trans h6.1
  subst zz6
  have h7 := h6.new eg6 rfl rfl (by decide) (by decide) (by decide)
  refine ⟨h7.K 5 (by decide), fun F7 f7 => ?_⟩
  have h8 := h7.ref (p := 9) f7 (by decide)
  intro z8 G8 ez8 eg8
  have zz8 := ez8.trans h8.1
  subst zz8
  have h9 := h8.new eg8 rfl rfl (by decide) (by decide) (by decide)
  refine ⟨h9.K 5 (by decide), fun F9 f9 => ?_⟩
  have h10 := h9.ref (p := 10) f9 (by decide)
  refine ⟨z + 8, h10.R 5 5 8 (by decide), ?_⟩
  intro z10 G10 ez10 eg10
  have zz10 := ez10.trans h10.1
  subst zz10
  have h11 := h10.new eg10 rfl rfl (by decide) (by decide) (by decide)
  refine ⟨h11.K 11 (by decide), fun F11 f11 => ?_⟩
  have h12 := h11.one f11 (by decide)
  refine ⟨h12.K 8 (by decide), h12.K 11 (by decide), by rw [h12.N 8 (by decide)]; unfold vp_in; decide, fun F12 f12 => ?_⟩
  have h13 := h12.ref (p := 11) f12 (by decide)
  refine ⟨h13.K 5 (by decide), z + 9, h13.R 5 6 9 (by decide), ?_⟩
  intro z13 G13 ez13 eg13
  have zz13 := ez13.trans h13.1
  subst zz13
  have h14 := h13.new eg13 rfl rfl (by decide) (by decide) (by decide)
  refine ⟨h14.K 12 (by decide), fun F14 f14 => ?_⟩
  have h15 := h14.one f14 (by decide)
  refine ⟨h15.K 9 (by decide), h15.K 12 (by decide), by rw [h15.N 9 (by decide)]; unfold vp_in; decide, fun F15 f15 => ?_⟩
  have h16 := h15.ref (p := 12) f15 (by decide)
  refine ⟨h16.K 5 (by decide), z + 8, h16.R 5 5 8 (by decide), ?_⟩
  intro z16 G16 ez16 eg16
  have zz16 := ez16.trans h16.1
  subst zz16
  have h17 := h16.new eg16 rfl rfl (by decide) (by decide) (by decide)
  refine ⟨h17.K 13 (by decide), fun F17 f17 => ?_⟩
  have h18 := h17.one f17 (by decide)
  refine ⟨h18.K 8 (by decide), h18.K 13 (by decide), by rw [h18.N 8 (by decide)]; unfold vp_in; decide, fun F18 f18 => ?_⟩
  have h19 := h18.ref (p := 13) f18 (by decide)
  refine ⟨h19.K 5 (by decide), z + 9, h19.R 5 6 9 (by decide), ?_⟩
  intro z19 G19 ez19 eg19
  have zz19 := ez19.trans h19.1
  subst zz19
  have h20 := h19.new eg19 rfl rfl (by decide) (by decide) (by decide)
  refine ⟨h20.K 14 (by decide), fun F20 f20 => ?_⟩
  have h21 := h20.one f20 (by decide)
  refine ⟨h21.K 9 (by decide), h21.K 14 (by decide), by rw [h21.N 9 (by decide)]; unfold vp_in; decide, fun F21 f21 => ?_⟩
  have h22 := h21.ref (p := 14) f21 (by decide)
  refine ⟨h22.K 5 (by decide), z + 8, h22.R 5 5 8 (by decide), ?_⟩
  intro z22 G22 ez22 eg22
  have zz22 := ez22.trans h22.1
  subst zz22
  have h23 := h22.new eg22 rfl rfl (by decide) (by decide) (by decide)
  refine ⟨h23.K 15 (by decide), fun F23 f23 => ?_⟩
  have h24 := h23.one f23 (by decide)
  refine ⟨h24.K 8 (by decide), h24.K 15 (by decide), by rw [h24.N 8 (by decide)]; unfold vp_in; decide, fun F24 f24 => ?_⟩
  have h25 := h24.ref (p := 15) f24 (by decide)
  refine ⟨h25.K 5 (by decide), z + 9, h25.R 5 6 9 (by decide), ?_⟩
  intro z25 G25 ez25 eg25
  have zz25 := ez25.trans h25.1
  subst zz25
  have h26 := h25.new eg25 rfl rfl (by decide) (by decide) (by decide)
  refine ⟨h26.K 16 (by decide), fun F26 f26 => ?_⟩
  have h27 := h26.one f26 (by decide)
  refine ⟨h27.K 9 (by decide), h27.K 16 (by decide), by rw [h27.N 9 (by decide)]; unfold vp_in; decide, fun F27 f27 => ?_⟩
  have h28 := h27.ref (p := 16) f27 (by decide)
  refine ⟨h28.K 5 (by decide), z + 8, h28.R 5 5 8 (by decide), ?_⟩
  intro z28 G28 ez28 eg28
  have zz28 := ez28.trans h28.1
  subst zz28
  have h29 := h28.new eg28 rfl rfl (by decide) (by decide) (by decide)
  refine ⟨h29.K 17 (by decide), fun F29 f29 => ?_⟩
  have h30 := h29.one f29 (by decide)
  refine ⟨h30.K 8 (by decide), h30.K 17 (by decide), by rw [h30.N 8 (by decide)]; unfold vp_in; decide, fun F30 f30 => ?_⟩
  have h31 := h30.ref (p := 17) f30 (by decide)
  refine ⟨h31.K 5 (by decide), z + 9, h31.R 5 6 9 (by decide), ?_⟩
  intro z31 G31 ez31 eg31
  have zz31 := ez31.trans h31.1
  subst zz31
  have h32 := h31.new eg31 rfl rfl (by decide) (by decide) (by decide)
  refine ⟨h32.K 18 (by decide), fun F32 f32 => ?_⟩
  have h33 := h32.one f32 (by decide)
  refine ⟨h33.K 9 (by decide), h33.K 18 (by decide), by rw [h33.N 9 (by decide)]; unfold vp_in; decide, fun F33 f33 => ?_⟩
  have h34 := h33.ref (p := 18) f33 (by decide)
  refine ⟨h34.K 5 (by decide), z + 8, h34.R 5 5 8 (by decide), ?_⟩
  intro z34 G34 ez34 eg34
  have zz34 := ez34.trans h34.1
  subst zz34
  have h35 := h34.new eg34 rfl rfl (by decide) (by decide) (by decide)
  refine ⟨h35.K 19 (by decide), fun F35 f35 => ?_⟩
  have h36 := h35.one f35 (by decide)
  refine ⟨h36.K 8 (by decide), h36.K 19 (by decide), by rw [h36.N 8 (by decide)]; unfold vp_in; decide, fun F36 f36 => ?_⟩
  have h37 := h36.ref (p := 19) f36 (by decide)
  refine ⟨h37.K 5 (by decide), z + 9, h37.R 5 6 9 (by decide), ?_⟩
  intro z37 G37 ez37 eg37
  have zz37 := ez37.trans h37.1
  subst zz37
  have h38 := h37.new eg37 rfl rfl (by decide) (by decide) (by decide)
  refine ⟨h38.K 20 (by decide), fun F38 f38 => ?_⟩
  have h39 := h38.one f38 (by decide)
  refine ⟨h39.K 9 (by decide), h39.K 20 (by decide), by rw [h39.N 9 (by decide)]; unfold vp_in; decide, fun F39 f39 => ?_⟩
  have h40 := h39.ref (p := 20) f39 (by decide)
  refine ⟨h40.K 5 (by decide), z + 8, h40.R 5 5 8 (by decide), ?_⟩
  intro z40 G40 ez40 eg40
  have zz40 := ez40.trans h40.1
  subst zz40
  have h41 := h40.new eg40 rfl rfl (by decide) (by decide) (by decide)
  refine ⟨h41.K 21 (by decide), fun F41 f41 => ?_⟩
  have h42 := h41.one f41 (by decide)
  refine ⟨h42.K 8 (by decide), h42.K 21 (by decide), by rw [h42.N 8 (by decide)]; unfold vp_in; decide, fun F42 f42 => ?_⟩
  have h43 := h42.ref (p := 21) f42 (by decide)
  refine ⟨h43.K 5 (by decide), z + 9, h43.R 5 6 9 (by decide), ?_⟩
  intro z43 G43 ez43 eg43
  have zz43 := ez43.trans h43.1
  subst zz43
  have h44 := h43.new eg43 rfl rfl (by decide) (by decide) (by decide)
  refine ⟨h44.K 22 (by decide), fun F44 f44 => ?_⟩
  have h45 := h44.one f44 (by decide)
  refine ⟨h45.K 9 (by decide), h45.K 22 (by decide), by rw [h45.N 9 (by decide)]; unfold vp_in; decide, fun F45 f45 => ?_⟩
  have h46 := h45.ref (p := 22) f45 (by decide)
  refine ⟨h46.K 5 (by decide), z + 8, h46.R 5 5 8 (by decide), ?_⟩
  intro z46 G46 ez46 eg46
  have zz46 := ez46.trans h46.1
  subst zz46
  have h47 := h46.new eg46 rfl rfl (by decide) (by decide) (by decide)
  refine ⟨h47.K 23 (by decide), fun F47 f47 => ?_⟩
  have h48 := h47.one f47 (by decide)
  refine ⟨h48.K 8 (by decide), h48.K 23 (by decide), by rw [h48.N 8 (by decide)]; unfold vp_in; decide, fun F48 f48 => ?_⟩
  have h49 := h48.ref (p := 23) f48 (by decide)
  refine ⟨h49.K 5 (by decide), z + 9, h49.R 5 6 9 (by decide), ?_⟩
  intro z49 G49 ez49 eg49
  have zz49 := ez49.trans h49.1
  subst zz49
  have h50 := h49.new eg49 rfl rfl (by decide) (by decide) (by decide)
  refine ⟨h50.K 24 (by decide), fun F50 f50 => ?_⟩
  have h51 := h50.one f50 (by decide)
  refine ⟨h51.K 9 (by decide), h51.K 24 (by decide), by rw [h51.N 9 (by decide)]; unfold vp_in; decide, fun F51 f51 => ?_⟩
  have h52 := h51.ref (p := 24) f51 (by decide)
  refine ⟨h52.K 5 (by decide), z + 8, h52.R 5 5 8 (by decide), ?_⟩
  intro z52 G52 ez52 eg52
  have zz52 := ez52.trans h52.1
  subst zz52
  have h53 := h52.new eg52 rfl rfl (by decide) (by decide) (by decide)
  refine ⟨h53.K 25 (by decide), fun F53 f53 => ?_⟩
  have h54 := h53.one f53 (by decide)
  refine ⟨h54.K 8 (by decide), h54.K 25 (by decide), by rw [h54.N 8 (by decide)]; unfold vp_in; decide, fun F54 f54 => ?_⟩
  have h55 := h54.ref (p := 25) f54 (by decide)
  refine ⟨h55.K 5 (by decide), z + 9, h55.R 5 6 9 (by decide), ?_⟩
  intro z55 G55 ez55 eg55
  have zz55 := ez55.trans h55.1
  subst zz55
  have h56 := h55.new eg55 rfl rfl (by decide) (by decide) (by decide)
  refine ⟨h56.K 26 (by decide), fun F56 f56 => ?_⟩
  have h57 := h56.one f56 (by decide)
  refine ⟨h57.K 9 (by decide), h57.K 26 (by decide), by rw [h57.N 9 (by decide)]; unfold vp_in; decide, fun F57 f57 => ?_⟩
  have h58 := h57.ref (p := 26) f57 (by decide)
  refine ⟨h58.K 5 (by decide), z + 8, h58.R 5 5 8 (by decide), ?_⟩
  intro z58 G58 ez58 eg58
  have zz58 := ez58.trans h58.1
  subst zz58
  have h59 := h58.new eg58 rfl rfl (by decide) (by decide) (by decide)
  refine ⟨h59.K 27 (by decide), fun F59 f59 => ?_⟩
  have h60 := h59.one f59 (by decide)
  refine ⟨h60.K 8 (by decide), h60.K 27 (by decide), by rw [h60.N 8 (by decide)]; unfold vp_in; decide, fun F60 f60 => ?_⟩
  have h61 := h60.ref (p := 27) f60 (by decide)
  refine ⟨h61.K 5 (by decide), z + 9, h61.R 5 6 9 (by decide), ?_⟩
  intro z61 G61 ez61 eg61
  have zz61 := ez61.trans h61.1
  subst zz61
  have h62 := h61.new eg61 rfl rfl (by decide) (by decide) (by decide)
  refine ⟨h62.K 28 (by decide), fun F62 f62 => ?_⟩
  have h63 := h62.one f62 (by decide)
  refine ⟨h63.K 9 (by decide), h63.K 28 (by decide), by rw [h63.N 9 (by decide)]; unfold vp_in; decide, fun F63 f63 => ?_⟩
  have h64 := h63.ref (p := 28) f63 (by decide)
  refine ⟨h64.K 5 (by decide), z + 8, h64.R 5 5 8 (by decide), ?_⟩
  intro z64 G64 ez64 eg64
  have zz64 := ez64.trans h64.1
  subst zz64
  have h65 := h64.new eg64 rfl rfl (by decide) (by decide) (by decide)
  refine ⟨h65.K 29 (by decide), fun F65 f65 => ?_⟩
  have h66 := h65.one f65 (by decide)
  refine ⟨h66.K 8 (by decide), h66.K 29 (by decide), by rw [h66.N 8 (by decide)]; unfold vp_in; decide, fun F66 f66 => ?_⟩
  have h67 := h66.ref (p := 29) f66 (by decide)
  refine ⟨h67.K 5 (by decide), z + 9, h67.R 5 6 9 (by decide), ?_⟩
  intro z67 G67 ez67 eg67
  have zz67 := ez67.trans h67.1
  subst zz67
  have h68 := h67.new eg67 rfl rfl (by decide) (by decide) (by decide)
  refine ⟨h68.K 30 (by decide), fun F68 f68 => ?_⟩
  have h69 := h68.one f68 (by decide)
  refine ⟨h69.K 9 (by decide), h69.K 30 (by decide), by rw [h69.N 9 (by decide)]; unfold vp_in; decide, fun F69 f69 => ?_⟩
  have h70 := h69.ref (p := 30) f69 (by decide)
  refine ⟨h70.K 5 (by decide), z + 8, h70.R 5 5 8 (by decide), ?_⟩
  intro z70 G70 ez70 eg70
  have zz70 := ez70.trans h70.1
  subst zz70
  have h71 := h70.new eg70 rfl rfl (by decide) (by decide) (by decide)
  refine ⟨h71.K 31 (by decide), fun F71 f71 => ?_⟩
  have h72 := h71.one f71 (by decide)
  refine ⟨h72.K 8 (by decide), h72.K 31 (by decide), by rw [h72.N 8 (by decide)]; unfold vp_in; decide, fun F72 f72 => ?_⟩
  have h73 := h72.ref (p := 31) f72 (by decide)
  refine ⟨h73.K 5 (by decide), z + 9, h73.R 5 6 9 (by decide), ?_⟩
  intro z73 G73 ez73 eg73
  have zz73 := ez73.trans h73.1
  subst zz73
  have h74 := h73.new eg73 rfl rfl (by decide) (by decide) (by decide)
  refine ⟨h74.K 32 (by decide), fun F74 f74 => ?_⟩
  have h75 := h74.one f74 (by decide)
  refine ⟨h75.K 9 (by decide), h75.K 32 (by decide), by rw [h75.N 9 (by decide)]; unfold vp_in; decide, fun F75 f75 => ?_⟩
  have h76 := h75.ref (p := 32) f75 (by decide)
  refine ⟨h76.K 5 (by decide), z + 8, h76.R 5 5 8 (by decide), h76.K 8 (by decide), by rw [h76.N 8 (by decide)]; unfold vp_in; decide, z + 11, h76.R 8 0 11 (by decide), h76.K 11 (by decide), X2_become1 (h76.K 11 (by decide)) ?_⟩
  have h77 := h76.frac (x := 11) rfl (by decide) (by decide) rfl (by decide) (by decide)
  refine ⟨h77.K 5 (by decide), z + 9, h77.R 5 6 9 (by decide), h77.K 9 (by decide), by rw [h77.N 9 (by decide)]; unfold vp_in; decide, z + 12, h77.R 9 0 12 (by decide), h77.K 12 (by decide), X2_become1 (h77.K 12 (by decide)) ?_⟩
  exact hQ _ (h77.frac (x := 12) rfl (by decide) (by decide) rfl (by decide) (by decide))
