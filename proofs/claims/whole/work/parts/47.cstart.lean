/-! ===== the class at its start: what is made so far (cells below o, references L, ones F, missing customs C) ===== -/
def cb (z : Nat) (G : Wd) (o : Nat) (L : List (Nat × Nat × Nat)) (F C : List Nat) : Prop := gZ G = z + o ∧ (∀ o', o' < o → gK G (z + o') = cKd o' ∧ gN G (z + o') = cNs o') ∧ (∀ q ∈ L, gR G (z + q.1) q.2.1 = some (z + q.2.2)) ∧ (∀ o', o' < 46 → ∀ j, gI G (z + o') j = 0) ∧ (∀ b, z + o ≤ b → ∀ j, gI G b j = 0) ∧ (∀ x ∈ F, isF G (z + x) (some (1, 1))) ∧ ∀ x ∈ C, gI G (z + x) 2 = 1
theorem cb.new {z o k n : Nat} {G G1 : Wd} {L : List (Nat × Nat × Nat)} {F C : List Nat} (h : cb z G o L F C) (e1 : G1 = nC G k n) (hk : cKd o = k) (hn : cNs o = n) (hL : ∀ q ∈ L, q.1 < o) (hF : ∀ x ∈ F, x < o) (hC : ∀ x ∈ C, x < o) : cb z G1 (o + 1) L F C := by
  obtain ⟨h1, h2, h3, h4, h5, h6, h7⟩ := h
  subst e1; subst hk; subst hn
  refine ⟨by rw [gZ_nC, h1]; omega, fun o' ho => ?_, fun q hq => ?_, fun o' ho j => ?_, fun b hb j => ?_, fun x hx => ?_, fun x hx => ?_⟩
  · rw [gK_nC, gN_nC]
    by_cases c : o' = o
    · rw [if_pos (by omega), if_pos (by omega), c]; exact ⟨rfl, rfl⟩
    · rw [if_neg (by omega), if_neg (by omega)]; exact h2 o' (by omega)
  · have := hL q hq
    rw [gR_nC, if_neg (by omega)]; exact h3 q hq
  · rw [gI_nC]
    by_cases c : z + o' = gZ G
    · rw [if_pos c]
    · rw [if_neg c]; exact h4 o' ho j
  · rw [gI_nC]
    by_cases c : b = gZ G
    · rw [if_pos c]
    · rw [if_neg c]; exact h5 b (by omega) j
  · have := hF x hx
    obtain ⟨a, b1, b2, b3⟩ := h6 x hx
    exact ⟨by rw [gK_nC, if_neg (by omega)]; exact a, by rw [gI_nC, if_neg (by omega)]; exact b1, by rw [gJ_nC, if_neg (by omega)]; exact b2, by rw [gJ_nC, if_neg (by omega)]; exact b3⟩
  · have := hC x hx
    rw [gI_nC, if_neg (by omega)]; exact h7 x hx
theorem cb.ref {z o c k p : Nat} {G G1 : Wd} {L : List (Nat × Nat × Nat)} {F C : List Nat} (h : cb z G o L F C) (e1 : G1 = uR G (z + c) k (some (z + p))) (hL : ∀ q ∈ L, ¬ (q.1 = c ∧ q.2.1 = k)) : cb z G1 o ((c, k, p) :: L) F C := by
  obtain ⟨h1, h2, h3, h4, h5, h6, h7⟩ := h
  subst e1
  refine ⟨h1, h2, fun q hq => ?_, h4, h5, h6, h7⟩
  rcases List.mem_cons.mp hq with e | e
  · rw [e, gR_uR, if_pos ⟨rfl, rfl⟩]
  · have := hL q e
    rw [gR_uR, if_neg (fun w => this ⟨by omega, w.2⟩)]; exact h3 q e
/-- below = 1 of a new fraction -/
theorem cb.one {z o x : Nat} {G G1 : Wd} {v : Int64} {L : List (Nat × Nat × Nat)} {F C : List Nat} (h : cb z G o L F C) (e1 : G1 = uJ G (z + x) 1 v) (hF : x ∉ F) : cb z G1 o L F C := by
  obtain ⟨h1, h2, h3, h4, h5, h6, h7⟩ := h
  subst e1
  refine ⟨h1, h2, h3, h4, h5, fun y hy => ?_, h7⟩
  have ne : ¬ z + y = z + x := fun w => hF (by rw [show x = y by omega]; exact hy)
  obtain ⟨a, b1, b2, b3⟩ := h6 y hy
  exact ⟨a, b1, by rw [gJ_uJ, if_neg (fun w => ne w.1)]; exact b2, by rw [gJ_uJ, if_neg (fun w => ne w.1)]; exact b3⟩
/-- the two fractions that become 1 / 1 -/
theorem cb.frac {z o x : Nat} {G G1 : Wd} {L : List (Nat × Nat × Nat)} {F C : List Nat} (h : cb z G o L F C) (e1 : G1 = wF G (z + x) (some (1, 1))) (hx : x < 46) (hx' : x < o) (hk : cKd x = 3) (hF : x ∉ F) (hC : ∀ y ∈ C, y ≠ x) : cb z G1 o L (x :: F) C := by
  obtain ⟨h1, h2, h3, h4, h5, h6, h7⟩ := h
  have kx : gK G (z + x) = 3 := by rw [(h2 x hx').1]; exact hk
  have nw : isF G1 (z + x) (some (1, 1)) := by rw [e1]; exact isF_wF kx _
  have fr : chg (fun b => b = z + x) (fun _ => False) G G1 := by rw [e1]; exact chg.rf.wF _ _ rfl
  refine ⟨fr.1.1.trans h1, fun o' ho => ⟨by rw [fr.K]; exact (h2 o' ho).1, by rw [fr.N]; exact (h2 o' ho).2⟩, fun q hq => by rw [fr.Rf (fun w => w)]; exact h3 q hq, fun o' ho j => ?_, fun b hb j => by rw [fr.I (by omega)]; exact h5 b hb j, fun y hy => ?_, fun y hy => ?_⟩
  · by_cases c : o' = x
    · rw [c, e1]
      show gI (wF G (z + x) (some (1, 1))) (z + x) j = 0
      by_cases c2 : j = 2
      · rw [c2]; have := nw.2.1; rw [e1] at this; exact this
      · have hh : gI (wF G (z + x) (some (1, 1))) (z + x) j = gI G (z + x) j := by
          unfold wF
          simp [gI_uI, gI_uJ, c2]
        rw [hh]; exact h4 x hx j
    · rw [fr.I (by omega)]; exact h4 o' ho j
  · rcases List.mem_cons.mp hy with e | e
    · rw [e]; exact nw
    · exact (h6 y e).keep fr (fun w => hF (by rw [show x = y by omega]; exact e))
  · rw [fr.I (fun w => hC y hy (by omega))]; exact h7 y hy
/-- a custom is missing -/
theorem cb.miss {z o x : Nat} {G G1 : Wd} {L : List (Nat × Nat × Nat)} {F C : List Nat} (h : cb z G o L F C) (e1 : G1 = uI G (z + x) 2 1) (hx : 46 ≤ x) (hx' : x < o) (hF : ∀ y ∈ F, y ≠ x) : cb z G1 o L F (x :: C) := by
  obtain ⟨h1, h2, h3, h4, h5, h6, h7⟩ := h
  have fr : chg (fun b => b = z + x) (fun _ => False) G G1 := by rw [e1]; exact chg.rf.wI _ _ _ rfl
  refine ⟨fr.1.1.trans h1, fun o' ho => ⟨by rw [fr.K]; exact (h2 o' ho).1, by rw [fr.N]; exact (h2 o' ho).2⟩, fun q hq => by rw [fr.Rf (fun w => w)]; exact h3 q hq, fun o' ho j => by rw [fr.I (by omega)]; exact h4 o' ho j, fun b hb j => by rw [fr.I (by omega)]; exact h5 b hb j, fun y hy => (h6 y hy).keep fr (fun w => hF y hy (by omega)), fun y hy => ?_⟩
  rcases List.mem_cons.mp hy with e | e
  · rw [e, e1, gI_uI, if_pos ⟨rfl, rfl⟩]
  · by_cases c : y = x
    · rw [c, e1, gI_uI, if_pos ⟨rfl, rfl⟩]
    · rw [fr.I (by omega)]; exact h7 y e
/-- a custom's steps are filled -/
theorem cb.fill {z o x : Nat} {G G1 : Wd} {L : List (Nat × Nat × Nat)} {F C : List Nat} (h : cb z G o L F C) (fr : chg (fun b => b = z + x) (fun _ => False) G G1) (hx : 46 ≤ x) (hx' : x < o) (hF : ∀ y ∈ F, y ≠ x) (hC : ∀ y ∈ C, y ≠ x) : cb z G1 o L F C := by
  obtain ⟨h1, h2, h3, h4, h5, h6, h7⟩ := h
  exact ⟨fr.1.1.trans h1, fun o' ho => ⟨by rw [fr.K]; exact (h2 o' ho).1, by rw [fr.N]; exact (h2 o' ho).2⟩, fun q hq => by rw [fr.Rf (fun w => w)]; exact h3 q hq, fun o' ho j => by rw [fr.I (by omega)]; exact h4 o' ho j, fun b hb j => by rw [fr.I (by omega)]; exact h5 b hb j, fun y hy => (h6 y hy).keep fr (fun w => hF y hy (by omega)), fun y hy => by rw [fr.I (fun w => hC y hy (by omega))]; exact h7 y hy⟩
