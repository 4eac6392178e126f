/-! ===== the pure statement, from the nine calls ===== -/
theorem CR0 {z : Nat} {G2 G4 : Wd} (h : cb z G2 54 cRf [12, 11] [52, 50, 48, 46]) (hZ : gZ G4 = z + 54 + 27) (hs : ∀ b, b < z + 54 → sameAt G2 G4 b) : CR z G4 S0 (fun _ => 0) (fun _ => 0) := by
  obtain ⟨h1, h2, h3, h4, h5, h6, h7⟩ := h
  have hh : ∀ q ∈ cRf, q.1 < 54 := by decide
  have hf : ∀ x, x < 54 → isF G2 (z + x) (some (1, 1)) → isF G4 (z + x) (some (1, 1)) := fun x hx q => by
    obtain ⟨w1, w2, w3, w4, w5⟩ := hs (z + x) (by omega)
    exact ⟨by rw [w1]; exact q.1, by rw [w3]; exact q.2.1, by rw [w4]; exact q.2.2.1, by rw [w4]; exact q.2.2.2⟩
  have hi : ∀ x j, x < 46 → gI G4 (z + x) j = 0 := fun x j hx => by rw [(hs (z + x) (by omega)).2.2.1]; exact h4 x hx j
  refine ⟨⟨fun o ho => ⟨by rw [(hs (z + o) (by omega)).1]; exact (h2 o ho).1, by rw [(hs (z + o) (by omega)).2.1]; exact (h2 o ho).2⟩, fun q hq => by rw [(hs (z + q.1) (by have := hh q hq; omega)).2.2.2.2]; exact h3 q hq⟩, ⟨hf 11 (by omega) (h6 11 (by decide)), hf 12 (by omega) (h6 12 (by decide))⟩, fun i hi' => ?_, ⟨hi 0 2 (by omega), hi 0 5 (by omega)⟩, fun k hk => absurd hk (Nat.not_lt_zero _), fun j hj => absurd hj (Nat.not_lt_zero _), ⟨fun k hk => absurd hk (Nat.not_lt_zero _), fun j hj => absurd hj (Nat.not_lt_zero _), fun k k' _ hk => absurd hk (Nat.not_lt_zero _), fun k k' _ hk => absurd hk (Nat.not_lt_zero _), fun k j hk => absurd hk (Nat.not_lt_zero _), by omega⟩, fun c hc => ?_⟩
  · rw [hi 1 i (by omega)]
    unfold S0; rw [sA_set, if_neg (by omega), sA_set, if_neg (by omega), sA_set, if_neg (by omega), sA_set, if_neg (by omega)]; rfl
  · have hn : ∀ c, c < 4 → sA S0 13 c < 0 := by decide
    have hm : ∀ c, c < 4 → (46 + 2 * c) ∈ [52, 50, 48, 46] := by decide
    rw [if_pos (hn c hc), (hs (z + (46 + 2 * c)) (by omega)).2.2.1]
    exact ⟨h7 _ (hm c hc), fun q => absurd (hn c hc) q⟩
theorem pure_of (h_ways : ok2 wpX10_ways wpX11_ways) (h_way : ok4 wpX10_way wpX11_way) (h_factor : ok4 wpX10_factor wpX11_factor) (h_span : ok4 wpX10_span wpX11_span) (h_quarrel : ok2 wpX10_quarrel wpX11_quarrel) (h_cure : ok1 wpX10_cure wpX11_cure) (h_heal : ok1 wpX10_heal wpX11_heal) (h_total : ok3 wpX10_total wpX11_total) (h_slip : ok2 wpX10_slip wpX11_slip) : ∀ (N : Nat) (xs : Nat → Int32) (z : Nat), N ≤ 320 → wpL_law N xs (G00 z) := by
  intro N xs z hN
  unfold wpL_law
  intro z1 G1 ez e1
  have ez' : z1 = z := ez
  subst ez'
  have h0 : cb z1 G1 1 [] [] [] := by
    subst e1
    refine ⟨rfl, fun o' ho => ?_, (by intro q hq; cases hq), fun o' ho j => ?_, fun b hb j => ?_, (by intro q hq; cases hq), (by intro q hq; cases hq)⟩
    · have : o' = 0 := by omega
      subst this
      rw [gK_nC, gN_nC, if_pos (show z1 + 0 = gZ (G00 z1) from rfl), if_pos (show z1 + 0 = gZ (G00 z1) from rfl)]; exact ⟨rfl, rfl⟩
    · rw [gI_nC]; split <;> rfl
    · rw [gI_nC]; split <;> rfl
  refine X10_init h0 (fun G2 h2 => ?_)
  intro z2 G3 ez2 e3
  have ez3 := ez2.trans h2.1
  subst ez3
  have Z3 : gZ G3 = z1 + 54 + 1 := by rw [e3, gZ_nC, h2.1]
  have s3 : ∀ b, b < z1 + 54 → sameAt G2 G3 b := fun b hb => by
    have nb : ¬ b = gZ G2 := by rw [h2.1]; omega
    rw [e3]
    exact ⟨by rw [gK_nC, if_neg nb], by rw [gN_nC, if_neg nb], fun j => by rw [gI_nC, if_neg nb], fun j => by rw [gJ_nC, if_neg nb], fun j => by rw [gR_nC, if_neg nb]⟩
  refine X11_init (by rw [e3, gK_nC, if_pos h2.1.symm]) Z3 (fun b hb j => ?_) (fun G4 hm hz hs => ⟨66, by omega, ?_⟩)
  · rw [e3, gI_nC]
    by_cases c : b = gZ G2
    · rw [if_pos c]
    · rw [if_neg c]; exact h2.2.2.2.2.1 b (by omega) j
  · have s4 : ∀ b, b < z1 + 54 → sameAt G2 G4 b := fun b hb => by
      obtain ⟨a1, a2, a3, a4, a5⟩ := s3 b hb
      obtain ⟨b1, b2, b3, b4, b5⟩ := hs b hb
      exact ⟨b1.trans a1, b2.trans a2, fun j => (b3 j).trans (a3 j), fun j => (b4 j).trans (a4 j), fun j => (b5 j).trans (a5 j)⟩
    exact law_loop hN h_ways h_way h_factor h_span h_quarrel h_cure h_heal h_total h_slip 66 0 G4 S0 (by omega) (by omega) ⟨⟨_, _, CR0 h2 hz s4⟩, hm⟩ Inv0
