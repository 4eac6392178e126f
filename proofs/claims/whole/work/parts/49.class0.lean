/-! ===== the class at its start ===== -/
set_option maxRecDepth 100000 in
theorem X10_init {z : Nat} {G : Wd} {Q : Wd → Prop} (h0 : cb z G 1 [] [] []) (hQ : ∀ G', cb z G' 54 cRf [12, 11] [52, 50, 48, 46] → Q G') : wpX10_init z G Q := by
  unfold wpX10_init wpX8_init wpX4_init wpX7_init wpX0_init wpX3_init wpX2_init wpX1_init
  intro z0 G0 ez0 eg0
  have zz0 := ez0.trans h0.1
  subst zz0
  have h1 := h0.new eg0 rfl rfl (by decide) (by decide) (by decide)
  refine ⟨h1.K 0 (by decide), fun F1 f1 => ?_⟩
  have h2 := h1.ref (c := 0) (p := 1) f1 (by decide)
  intro z2 G2 ez2 eg2
  have zz2 := ez2.trans h2.1
  subst zz2
  have h3 := h2.new eg2 rfl rfl (by decide) (by decide) (by decide)
  refine ⟨h3.K 0 (by decide), fun F3 f3 => ?_⟩
  have h4 := h3.ref (c := 0) (p := 2) f3 (by decide)
  intro z4 G4 ez4 eg4
  have zz4 := ez4.trans h4.1
  subst zz4
  have h5 := h4.new eg4 rfl rfl (by decide) (by decide) (by decide)
  refine ⟨h5.K 0 (by decide), fun F5 f5 => ?_⟩
  have h6 := h5.ref (c := 0) (p := 3) f5 (by decide)
  intro z6 G6 ez6 eg6
  have zz6 := ez6.trans h6.1
  subst zz6
  have h7 := h6.new eg6 rfl rfl (by decide) (by decide) (by decide)
  refine ⟨h7.K 0 (by decide), fun F7 f7 => ?_⟩
  have h8 := h7.ref (c := 0) (p := 4) f7 (by decide)
  intro z8 G8 ez8 eg8
  have zz8 := ez8.trans h8.1
  subst zz8
  have h9 := h8.new eg8 rfl rfl (by decide) (by decide) (by decide)
  refine X9_init h9 (fun F10 h10 => ?_)
  unfold trL at h10
  refine ⟨h10.K 0 (by decide), fun F10 f10 => ?_⟩
  have h11 := h10.ref (c := 0) (p := 5) f10 (by decide)
  intro z11 G11 ez11 eg11
  have zz11 := ez11.trans h11.1
  subst zz11
  have h12 := h11.new eg11 rfl rfl (by decide) (by decide) (by decide)
  refine ⟨h12.K 0 (by decide), fun F12 f12 => ?_⟩
  have h13 := h12.ref (c := 0) (p := 33) f12 (by decide)
  intro z13 G13 ez13 eg13
  have zz13 := ez13.trans h13.1
  subst zz13
  have h14 := h13.new eg13 rfl rfl (by decide) (by decide) (by decide)
  refine ⟨h14.K 0 (by decide), fun F14 f14 => ?_⟩
  have h15 := h14.ref (c := 0) (p := 34) f14 (by decide)
  intro z15 G15 ez15 eg15
  have zz15 := ez15.trans h15.1
  subst zz15
  have h16 := h15.new eg15 rfl rfl (by decide) (by decide) (by decide)
  intro z16 G16 ez16 eg16
  have zz16 := ez16.trans h16.1
  subst zz16
  have h17 := h16.new eg16 rfl rfl (by decide) (by decide) (by decide)
  refine ⟨h17.K 36 (by decide), fun F17 f17 => ?_⟩
  have h18 := h17.one f17 (by decide)
  refine ⟨h18.K 35 (by decide), fun F18 f18 => ?_⟩
  have h19 := h18.ref (c := 35) (p := 36) f18 (by decide)
  intro z19 G19 ez19 eg19
  have zz19 := ez19.trans h19.1
  subst zz19
  have h20 := h19.new eg19 rfl rfl (by decide) (by decide) (by decide)
  refine ⟨h20.K 37 (by decide), fun F20 f20 => ?_⟩
  have h21 := h20.one f20 (by decide)
  refine ⟨h21.K 35 (by decide), fun F21 f21 => ?_⟩
  have h22 := h21.ref (c := 35) (p := 37) f21 (by decide)
  refine ⟨h22.K 0 (by decide), fun F22 f22 => ?_⟩
  have h23 := h22.ref (c := 0) (p := 35) f22 (by decide)
  intro z23 G23 ez23 eg23
  have zz23 := ez23.trans h23.1
  subst zz23
  have h24 := h23.new eg23 rfl rfl (by decide) (by decide) (by decide)
  intro z24 G24 ez24 eg24
  have zz24 := ez24.trans h24.1
  subst zz24
  have h25 := h24.new eg24 rfl rfl (by decide) (by decide) (by decide)
  refine ⟨h25.K 38 (by decide), fun F25 f25 => ?_⟩
  have h26 := h25.ref (c := 38) (p := 39) f25 (by decide)
  intro z26 G26 ez26 eg26
  have zz26 := ez26.trans h26.1
  subst zz26
  have h27 := h26.new eg26 rfl rfl (by decide) (by decide) (by decide)
  refine ⟨h27.K 38 (by decide), fun F27 f27 => ?_⟩
  have h28 := h27.ref (c := 38) (p := 40) f27 (by decide)
  intro z28 G28 ez28 eg28
  have zz28 := ez28.trans h28.1
  subst zz28
  have h29 := h28.new eg28 rfl rfl (by decide) (by decide) (by decide)
  refine ⟨h29.K 38 (by decide), fun F29 f29 => ?_⟩
  have h30 := h29.ref (c := 38) (p := 41) f29 (by decide)
  intro z30 G30 ez30 eg30
  have zz30 := ez30.trans h30.1
  subst zz30
  have h31 := h30.new eg30 rfl rfl (by decide) (by decide) (by decide)
  refine ⟨h31.K 38 (by decide), fun F31 f31 => ?_⟩
  have h32 := h31.ref (c := 38) (p := 42) f31 (by decide)
  refine ⟨h32.K 0 (by decide), fun F32 f32 => ?_⟩
  have h33 := h32.ref (c := 0) (p := 38) f32 (by decide)
  intro z33 G33 ez33 eg33
  have zz33 := ez33.trans h33.1
  subst zz33
  have h34 := h33.new eg33 rfl rfl (by decide) (by decide) (by decide)
  refine ⟨h34.K 43 (by decide), fun F34 f34 => ?_⟩
  have h35 := h34.one f34 (by decide)
  refine ⟨h35.K 0 (by decide), fun F35 f35 => ?_⟩
  have h36 := h35.ref (c := 0) (p := 43) f35 (by decide)
  intro z36 G36 ez36 eg36
  have zz36 := ez36.trans h36.1
  subst zz36
  have h37 := h36.new eg36 rfl rfl (by decide) (by decide) (by decide)
  refine ⟨h37.K 44 (by decide), fun F37 f37 => ?_⟩
  have h38 := h37.one f37 (by decide)
  refine ⟨h38.K 0 (by decide), fun F38 f38 => ?_⟩
  have h39 := h38.ref (c := 0) (p := 44) f38 (by decide)
  intro z39 G39 ez39 eg39
  have zz39 := ez39.trans h39.1
  subst zz39
  have h40 := h39.new eg39 rfl rfl (by decide) (by decide) (by decide)
  refine ⟨h40.K 45 (by decide), fun F40 f40 => ?_⟩
  have h41 := h40.one f40 (by decide)
  refine ⟨h41.K 0 (by decide), fun F41 f41 => ?_⟩
  have h42 := h41.ref (c := 0) (p := 45) f41 (by decide)
  refine ⟨z + 3, h42.R 0 3 3 (by decide), ?_⟩
  intro z42 G42 ez42 eg42
  have zz42 := ez42.trans h42.1
  subst zz42
  have h43 := h42.new eg42 rfl rfl (by decide) (by decide) (by decide)
  intro z43 G43 ez43 eg43
  have zz43 := ez43.trans h43.1
  subst zz43
  have h44 := h43.new eg43 rfl rfl (by decide) (by decide) (by decide)
  refine ⟨h44.K 46 (by decide), fun F44 f44 => ?_⟩
  have h45 := h44.ref (c := 46) (p := 47) f44 (by decide)
  intro F45 f45
  have h46 := h45.miss (x := 46) f45 (by decide) (by decide) (by decide)
  refine ⟨z + 47, h46.R 46 0 47 (by decide), J7_fill (N := 5) (h46.K 47 (by decide)) (h46.N 47 (by decide)) (by decide) (fun F46 f46 _ => ?_)⟩
  have h47 := h46.fill (x := 47) f46 (by decide) (by decide) (by decide) (by decide)
  refine ⟨h47.K 3 (by decide), h47.K 46 (by decide), by rw [h47.N 3 (by decide)]; unfold vp_in; decide, fun F47 f47 => ?_⟩
  have h48 := h47.ref (c := 3) (p := 46) f47 (by decide)
  refine ⟨h48.K 0 (by decide), z + 3, h48.R 0 3 3 (by decide), ?_⟩
  intro z48 G48 ez48 eg48
  have zz48 := ez48.trans h48.1
  subst zz48
  have h49 := h48.new eg48 rfl rfl (by decide) (by decide) (by decide)
  intro z49 G49 ez49 eg49
  have zz49 := ez49.trans h49.1
  subst zz49
  have h50 := h49.new eg49 rfl rfl (by decide) (by decide) (by decide)
  refine ⟨h50.K 48 (by decide), fun F50 f50 => ?_⟩
  have h51 := h50.ref (c := 48) (p := 49) f50 (by decide)
  intro F51 f51
  have h52 := h51.miss (x := 48) f51 (by decide) (by decide) (by decide)
  refine ⟨z + 49, h52.R 48 0 49 (by decide), J7_fill (N := 5) (h52.K 49 (by decide)) (h52.N 49 (by decide)) (by decide) (fun F52 f52 _ => ?_)⟩
  have h53 := h52.fill (x := 49) f52 (by decide) (by decide) (by decide) (by decide)
  refine ⟨h53.K 3 (by decide), h53.K 48 (by decide), by rw [h53.N 3 (by decide)]; unfold vp_in; decide, fun F53 f53 => ?_⟩
  have h54 := h53.ref (c := 3) (p := 48) f53 (by decide)
  refine ⟨h54.K 0 (by decide), z + 3, h54.R 0 3 3 (by decide), ?_⟩
  intro z54 G54 ez54 eg54
  have zz54 := ez54.trans h54.1
  subst zz54
  have h55 := h54.new eg54 rfl rfl (by decide) (by decide) (by decide)
  intro z55 G55 ez55 eg55
  have zz55 := ez55.trans h55.1
  subst zz55
  have h56 := h55.new eg55 rfl rfl (by decide) (by decide) (by decide)
  refine ⟨h56.K 50 (by decide), fun F56 f56 => ?_⟩
  have h57 := h56.ref (c := 50) (p := 51) f56 (by decide)
  intro F57 f57
  have h58 := h57.miss (x := 50) f57 (by decide) (by decide) (by decide)
  refine ⟨z + 51, h58.R 50 0 51 (by decide), J7_fill (N := 5) (h58.K 51 (by decide)) (h58.N 51 (by decide)) (by decide) (fun F58 f58 _ => ?_)⟩
  have h59 := h58.fill (x := 51) f58 (by decide) (by decide) (by decide) (by decide)
  refine ⟨h59.K 3 (by decide), h59.K 50 (by decide), by rw [h59.N 3 (by decide)]; unfold vp_in; decide, fun F59 f59 => ?_⟩
  have h60 := h59.ref (c := 3) (p := 50) f59 (by decide)
  refine ⟨h60.K 0 (by decide), z + 3, h60.R 0 3 3 (by decide), ?_⟩
  intro z60 G60 ez60 eg60
  have zz60 := ez60.trans h60.1
  subst zz60
  have h61 := h60.new eg60 rfl rfl (by decide) (by decide) (by decide)
  intro z61 G61 ez61 eg61
  have zz61 := ez61.trans h61.1
  subst zz61
  have h62 := h61.new eg61 rfl rfl (by decide) (by decide) (by decide)
  refine ⟨h62.K 52 (by decide), fun F62 f62 => ?_⟩
  have h63 := h62.ref (c := 52) (p := 53) f62 (by decide)
  intro F63 f63
  have h64 := h63.miss (x := 52) f63 (by decide) (by decide) (by decide)
  refine ⟨z + 53, h64.R 52 0 53 (by decide), J7_fill (N := 5) (h64.K 53 (by decide)) (h64.N 53 (by decide)) (by decide) (fun F64 f64 _ => ?_)⟩
  have h65 := h64.fill (x := 53) f64 (by decide) (by decide) (by decide) (by decide)
  refine ⟨h65.K 3 (by decide), h65.K 52 (by decide), by rw [h65.N 3 (by decide)]; unfold vp_in; decide, fun F65 f65 => ?_⟩
  have h66 := h65.ref (c := 3) (p := 52) f65 (by decide)
  refine hQ _ ⟨h66.1, h66.2.1, fun q hq => h66.2.2.1 q ?_, h66.2.2.2.1, h66.2.2.2.2.1, h66.2.2.2.2.2.1, h66.2.2.2.2.2.2⟩
  revert q
  decide
