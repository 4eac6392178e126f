/-! ===== the ranges stay ===== -/
theorem rng_set {S : St} {o k : Nat} {v : Int32} (r i : Nat) (lo hi : Int) (h : rng (sA S r i) lo hi) (h' : r = o → i = k → rng v lo hi) : rng (sA (sSet S o k v) r i) lo hi := by
  rw [sA_set]
  by_cases e : r = o ∧ i = k
  · rw [if_pos e]; exact h' e.1 e.2
  · rw [if_neg e]; exact h
theorem Inv.lies {S : St} {p q : Int32} (hi : Inv S) : Inv (oLies S p q).2 := by
  unfold oLies
  by_cases c : rng p 1 7 ∧ 0 ≤ q.toInt ∧ q.toInt < p.toInt
  · rw [if_pos c]
    have hp := c.1.1
    have ep := nv_i (x := p) (by omega)
    have hs : ∀ o i, o ≠ 1 → sA (sSet S 1 (nv p) q) o i = sA S o i := fun o i ho => by rw [sA_set, if_neg (fun q => ho q.1)]
    obtain ⟨h1, h2, h3, h4, h5, h6⟩ := hi
    refine ⟨h1, fun i hi => ?_, fun k hk => ?_, fun c' hc => ?_, fun c' i hc hi' => ?_, fun j hj => ?_⟩
    · show 0 ≤ (sA (sSet S 1 (nv p) q) 1 i).toInt ∧ _
      rw [sA_set]
      by_cases e : i = nv p
      · rw [if_pos ⟨rfl, e⟩]; omega
      · rw [if_neg (fun q => e q.2)]; exact h2 i hi
    · have := h3 k hk
      simp only [hs _ _ (show (2 : Nat) ≠ 1 by omega), hs _ _ (show (3 : Nat) ≠ 1 by omega), hs _ _ (show (4 : Nat) ≠ 1 by omega), hs _ _ (show (5 : Nat) ≠ 1 by omega), hs _ _ (show (6 : Nat) ≠ 1 by omega), hs _ _ (show (7 : Nat) ≠ 1 by omega), hs _ _ (show (8 : Nat) ≠ 1 by omega), hs _ _ (show (9 : Nat) ≠ 1 by omega), hs _ _ (show (10 : Nat) ≠ 1 by omega), hs _ _ (show (11 : Nat) ≠ 1 by omega), hs _ _ (show (12 : Nat) ≠ 1 by omega)]
      exact this
    · show rng (sA (sSet S 1 (nv p) q) 13 c') _ _
      rw [hs _ _ (by omega)]; exact h4 c' hc
    · show ¬ sA (sSet S 1 (nv p) q) 13 c' < 0 → rng (sA (sSet S 1 (nv p) q) 14 _) _ _
      rw [hs _ _ (by omega), hs _ _ (by omega)]; exact h5 c' i hc hi'
    · show rng (sA (sSet S 1 (nv p) q) 15 j) _ _ ∧ rng (sA (sSet S 1 (nv p) q) 16 j) _ _ ∧ rng (sA (sSet S 1 (nv p) q) 17 j) _ _ ∧ rng (sA (sSet S 1 (nv p) q) 18 j) _ _
      rw [hs _ _ (by omega), hs _ _ (by omega), hs _ _ (by omega), hs _ _ (by omega)]; exact h6 j hj
  · rw [if_neg c]; exact hi
theorem Inv.set {S : St} {o k : Nat} {v : Int32} (hi : Inv S) (ho : 7 ≤ o) (h7 : o = 7 → rng v 0 7) (h8 : o = 8 → rng v 0 9999) (h9 : o = 9 → rng v 0 9999) (h10 : o = 10 → rng v 0 100) (h11 : o = 11 → rng v 0 500) (h12 : o = 12 → rng v 0 1) (h13 : o ≠ 13) (h14 : o = 14 → rng v 2 1000) (h15 : o = 15 → rng v (-1000000) 1000000) (h16 : o < 16) : Inv (sSet S o k v) := by
  obtain ⟨h1, h2, h3, h4, h5, h6⟩ := hi
  refine ⟨h1, fun i hi => ?_, fun k' hk => ?_, fun c' hc => ?_, fun c' i hc hi' => ?_, fun j hj => ?_⟩
  · show 0 ≤ (sA (sSet S o k v) 1 i).toInt ∧ ((sA (sSet S o k v) 1 i).toInt < i ∨ i = 0 ∧ (sA (sSet S o k v) 1 i).toInt = 0)
    rw [sA_set, if_neg (by omega)]; exact h2 i hi
  · obtain ⟨a2, a3, a4, a5, a6, a7, a8, a9, a10, a11, a12⟩ := h3 k' hk
    exact ⟨rng_set 2 k' _ _ a2 (fun e => by omega), rng_set 3 k' _ _ a3 (fun e => by omega), rng_set 4 k' _ _ a4 (fun e => by omega), rng_set 5 k' _ _ a5 (fun e => by omega), rng_set 6 k' _ _ a6 (fun e => by omega), rng_set 7 k' _ _ a7 (fun e _ => h7 e.symm), rng_set 8 k' _ _ a8 (fun e _ => h8 e.symm), rng_set 9 k' _ _ a9 (fun e _ => h9 e.symm), rng_set 10 k' _ _ a10 (fun e _ => h10 e.symm), rng_set 11 k' _ _ a11 (fun e _ => h11 e.symm), rng_set 12 k' _ _ a12 (fun e _ => h12 e.symm)⟩
  · exact rng_set 13 c' _ _ (h4 c' hc) (fun e => absurd e.symm h13)
  · intro q
    have e : sA (sSet S o k v) 13 c' = sA S 13 c' := by rw [sA_set, if_neg (by omega)]
    rw [e] at q
    exact rng_set 14 _ _ _ (h5 c' i hc hi' q) (fun e _ => h14 e.symm)
  · obtain ⟨a1, a2, a3, a4⟩ := h6 j hj
    exact ⟨rng_set 15 j _ _ a1 (fun e _ => h15 e.symm), rng_set 16 j _ _ a2 (fun e => by omega), rng_set 17 j _ _ a3 (fun e => by omega), rng_set 18 j _ _ a4 (fun e => by omega)⟩
theorem Inv.holds {S : St} {k p f l : Int32} (hi : Inv S) : Inv (oHolds S k p f l).2 := by
  unfold oHolds
  split
  · rename_i c
    exact ((hi.set (o := 7) (by omega) (fun _ => c.2.1) (by omega) (by omega) (by omega) (by omega) (by omega) (by omega) (by omega) (by omega) (by omega)).set (o := 8) (by omega) (by omega) (fun _ => c.2.2.1) (by omega) (by omega) (by omega) (by omega) (by omega) (by omega) (by omega) (by omega)).set (o := 9) (by omega) (by omega) (by omega) (fun _ => c.2.2.2.1) (by omega) (by omega) (by omega) (by omega) (by omega) (by omega) (by omega)
  · exact hi
theorem Inv.doubt {S : St} {k w s : Int32} (hi : Inv S) : Inv (oDoubt S k w s).2 := by
  unfold oDoubt
  split
  · rename_i c
    exact (hi.set (o := 10) (by omega) (by omega) (by omega) (by omega) (fun _ => c.2.1) (by omega) (by omega) (by omega) (by omega) (by omega) (by omega)).set (o := 11) (by omega) (by omega) (by omega) (by omega) (by omega) (fun _ => c.2.2) (by omega) (by omega) (by omega) (by omega) (by omega)
  · exact hi
theorem Inv.set12 {S : St} (hi : Inv S) (k : Nat) (v : Int32) (hv : rng v 0 1) : Inv (sSet S 12 k v) :=
  hi.set (o := 12) (by omega) (by omega) (by omega) (by omega) (by omega) (by omega) (fun _ => hv) (by omega) (by omega) (by omega) (by omega)
theorem Inv.set14 {S : St} (hi : Inv S) (k : Nat) (v : Int32) (hv : rng v 2 1000) : Inv (sSet S 14 k v) :=
  hi.set (o := 14) (by omega) (by omega) (by omega) (by omega) (by omega) (by omega) (by omega) (by omega) (fun _ => hv) (by omega) (by omega)
theorem Inv.drop {S : St} {k o : Int32} (hi : Inv S) : Inv (oDrop S k o).2 := by
  unfold oDrop
  split
  · split
    · refine hi.set12 _ _ ?_
      split
      · exact ⟨by decide, by decide⟩
      · exact ⟨by decide, by decide⟩
    · exact hi
  · exact hi
theorem Inv.less {S : St} (hi : Inv S) (m l : Nat) (hm : m ≤ sM S) (hl : l ≤ sL S) : Inv (S.1, m, l) := by
  obtain ⟨h1, h2, h3, h4, h5, h6⟩ := hi
  exact ⟨⟨by show m ≤ 24; omega, by show l ≤ 20; omega⟩, h2, fun k hk => h3 k (Nat.lt_of_lt_of_le hk hm), h4, h5, fun j hj => h6 j (Nat.lt_of_lt_of_le hj hl)⟩
theorem Inv.forget {S : St} (hi : Inv S) : Inv (oForget S).2 := by
  unfold oForget
  split
  · exact hi
  · exact hi.less _ _ (by omega) (Nat.le_refl _)
theorem Inv.clear {S : St} (hi : Inv S) : Inv (oClear S).2 := hi.less _ _ (Nat.le_refl _) (Nat.zero_le _)
theorem Inv.amend {S : St} {j v : Int32} (hi : Inv S) : Inv (oAmend S j v).2 := by
  unfold oAmend
  split
  · rename_i c
    exact hi.set (o := 15) (by omega) (by omega) (by omega) (by omega) (by omega) (by omega) (by omega) (by omega) (by omega) (fun _ => c.2) (by omega)
  · exact hi
theorem Inv.line {S : St} {a m p d : Int32} (hi : Inv S) : Inv (oLine S a m p d).2 := by
  unfold oLine
  split
  · rename_i c
    split
    · rename_i hl
      obtain ⟨h1, h2, h3, h4, h5, h6⟩ := hi
      obtain ⟨e1, e2, e3, e4⟩ := lnS_hi (S := S) (a := a) (m := m) (p := p) (d := d)
      refine ⟨⟨h1.1, by show sL S + 1 ≤ 20; omega⟩, fun i hi => ?_, fun k hk => ?_, fun c' hc => ?_, fun c' i hc hi' => ?_, fun j hj => ?_⟩
      · have q := h2 i hi
        rw [← lnS_lo (S := S) (a := a) (m := m) (p := p) (d := d) (o := 1) (i := i) (by omega)] at q
        exact q
      · obtain ⟨a2, a3, a4, a5, a6, a7, a8, a9, a10, a11, a12⟩ := h3 k hk
        exact ⟨by rw [lnS_lo (by omega)]; exact a2, by rw [lnS_lo (by omega)]; exact a3, by rw [lnS_lo (by omega)]; exact a4, by rw [lnS_lo (by omega)]; exact a5, by rw [lnS_lo (by omega)]; exact a6, by rw [lnS_lo (by omega)]; exact a7, by rw [lnS_lo (by omega)]; exact a8, by rw [lnS_lo (by omega)]; exact a9, by rw [lnS_lo (by omega)]; exact a10, by rw [lnS_lo (by omega)]; exact a11, by rw [lnS_lo (by omega)]; exact a12⟩
      · rw [lnS_lo (by omega)]; exact h4 c' hc
      · rw [lnS_lo (by omega), lnS_lo (by omega)]; exact h5 c' i hc hi'
      · have hj' : j < sL S + 1 := hj
        by_cases e : j = sL S
        · rw [e, e1, e2, e3, e4]; exact c
        · rw [lnS_lo (by omega), lnS_lo (by omega), lnS_lo (by omega), lnS_lo (by omega)]; exact h6 j (by omega)
    · exact hi
  · exact hi
theorem ab10 : ∀ n, n < 100 → rng (nI n / 10) 0 9 ∧ rng (nI n % 10) 0 9 := by decide +kernel
theorem Inv.likeness {S : St} {kd ab p q : Int32} (hi : Inv S) : Inv (oLikeness S kd ab p q).2 := by
  unfold oLikeness
  split
  · rename_i c
    split
    · rename_i hl
      obtain ⟨h1, h2, h3, h4, h5, h6⟩ := hi
      obtain ⟨c1, c2, c3, c4⟩ := c
      have hab : rng (ab / 10) 0 9 ∧ rng (ab % 10) 0 9 := by
        have := ab10 (nv ab) (by have := nv_i c2.1; have := c2.2; omega)
        rw [← nI_nv c2.1] at this
        exact this
      refine ⟨⟨by show sM S + 1 ≤ 24; omega, h1.2⟩, fun i hi => ?_, fun k hk => ?_, fun c' hc => ?_, fun c' i hc hi' => ?_, fun j hj => ?_⟩
      · show 0 ≤ (sA (lkT S kd ab p q) 1 i).toInt ∧ ((sA (lkT S kd ab p q) 1 i).toInt < i ∨ i = 0 ∧ (sA (lkT S kd ab p q) 1 i).toInt = 0)
        rw [lkT_lo (by omega)]; exact h2 i hi
      · have hk' : k < sM S + 1 := hk
        by_cases e : k = sM S
        · rw [e]
          exact ⟨by rw [lkT_2]; exact c1, by rw [lkT_3]; exact hab.1, by rw [lkT_4]; exact hab.2, by rw [lkT_5]; exact c3, by rw [lkT_6]; exact c4, by rw [lkT_7]; decide, by rw [lkT_8]; decide, by rw [lkT_9]; decide, by rw [lkT_10]; decide, by rw [lkT_11]; decide, by rw [lkT_12]; decide⟩
        · obtain ⟨a2, a3, a4, a5, a6, a7, a8, a9, a10, a11, a12⟩ := h3 k (by omega)
          exact ⟨by rw [lkT_lo (by omega)]; exact a2, by rw [lkT_lo (by omega)]; exact a3, by rw [lkT_lo (by omega)]; exact a4, by rw [lkT_lo (by omega)]; exact a5, by rw [lkT_lo (by omega)]; exact a6, by rw [lkT_lo (by omega)]; exact a7, by rw [lkT_lo (by omega)]; exact a8, by rw [lkT_lo (by omega)]; exact a9, by rw [lkT_lo (by omega)]; exact a10, by rw [lkT_lo (by omega)]; exact a11, by rw [lkT_lo (by omega)]; exact a12⟩
      · show rng (sA (lkT S kd ab p q) 13 c') _ _
        rw [lkT_lo (by omega)]; exact h4 c' hc
      · show ¬ sA (lkT S kd ab p q) 13 c' < 0 → rng (sA (lkT S kd ab p q) 14 _) _ _
        rw [lkT_lo (by omega), lkT_lo (by omega)]; exact h5 c' i hc hi'
      · show rng (sA (lkT S kd ab p q) 15 j) _ _ ∧ rng (sA (lkT S kd ab p q) 16 j) _ _ ∧ rng (sA (lkT S kd ab p q) 17 j) _ _ ∧ rng (sA (lkT S kd ab p q) 18 j) _ _
        rw [lkT_lo (by omega), lkT_lo (by omega), lkT_lo (by omega), lkT_lo (by omega)]; exact h6 j hj
    · exact hi
  · exact hi
theorem Inv.custom {S : St} {c n : Int32} (hi : Inv S) : Inv (oCustom S c n).2 := by
  unfold oCustom
  split
  · rename_i b
    split
    · rename_i d
      obtain ⟨h1, h2, h3, h4, h5, h6⟩ := hi
      have hs : ∀ o i, o < 13 ∨ 14 < o → sA (fil (sSet S 13 (nv c) n) (nv c) 5) o i = sA S o i := fun o i q => by rw [fil_A, if_neg (by omega), sA_set, if_neg (by omega)]
      have hM := fil_M (sSet S 13 (nv c) n) (nv c) 5
      have hM1 : sM (fil (sSet S 13 (nv c) n) (nv c) 5) = sM S := hM.1
      have hM2 : sL (fil (sSet S 13 (nv c) n) (nv c) 5) = sL S := hM.2
      have e13 : ∀ c', sA (fil (sSet S 13 (nv c) n) (nv c) 5) 13 c' = if c' = nv c then n else sA S 13 c' := fun c' => by
        rw [fil_A, if_neg (by omega), sA_set]
        by_cases e : c' = nv c
        · rw [if_pos ⟨rfl, e⟩, if_pos e]
        · rw [if_neg (fun q => e q.2), if_neg e]
      refine ⟨?_, fun i hi => ?_, fun k hk => ?_, fun c' hc => ?_, fun c' i hc hi' => ?_, fun j hj => ?_⟩
      · show sM (fil (sSet S 13 (nv c) n) (nv c) 5) ≤ 24 ∧ sL (fil (sSet S 13 (nv c) n) (nv c) 5) ≤ 20
        rw [hM1, hM2]; exact h1
      · show 0 ≤ (sA (fil (sSet S 13 (nv c) n) (nv c) 5) 1 i).toInt ∧ ((sA (fil (sSet S 13 (nv c) n) (nv c) 5) 1 i).toInt < i ∨ i = 0 ∧ (sA (fil (sSet S 13 (nv c) n) (nv c) 5) 1 i).toInt = 0)
        rw [hs _ _ (by omega)]; exact h2 i hi
      · have hk' : k < sM (fil (sSet S 13 (nv c) n) (nv c) 5) := hk
        rw [hM1] at hk'
        obtain ⟨a2, a3, a4, a5, a6, a7, a8, a9, a10, a11, a12⟩ := h3 k hk'
        exact ⟨by rw [hs _ _ (by omega)]; exact a2, by rw [hs _ _ (by omega)]; exact a3, by rw [hs _ _ (by omega)]; exact a4, by rw [hs _ _ (by omega)]; exact a5, by rw [hs _ _ (by omega)]; exact a6, by rw [hs _ _ (by omega)]; exact a7, by rw [hs _ _ (by omega)]; exact a8, by rw [hs _ _ (by omega)]; exact a9, by rw [hs _ _ (by omega)]; exact a10, by rw [hs _ _ (by omega)]; exact a11, by rw [hs _ _ (by omega)]; exact a12⟩
      · show rng (sA (fil (sSet S 13 (nv c) n) (nv c) 5) 13 c') _ _
        rw [e13]
        split
        · exact ⟨by omega, b.2⟩
        · exact h4 c' hc
      · show ¬ sA (fil (sSet S 13 (nv c) n) (nv c) 5) 13 c' < 0 → rng (sA (fil (sSet S 13 (nv c) n) (nv c) 5) 14 _) _ _
        rw [e13]
        by_cases e : c' = nv c
        · intro _
          rw [fil_A, if_pos (by omega)]; exact ⟨by decide, by decide⟩
        · rw [if_neg e, fil_A, if_neg (by omega), sA_set, if_neg (by omega)]; exact h5 c' i hc hi'
      · have hj' : j < sL (fil (sSet S 13 (nv c) n) (nv c) 5) := hj
        rw [hM2] at hj'
        obtain ⟨a1, a2, a3, a4⟩ := h6 j hj'
        exact ⟨by rw [hs _ _ (by omega)]; exact a1, by rw [hs _ _ (by omega)]; exact a2, by rw [hs _ _ (by omega)]; exact a3, by rw [hs _ _ (by omega)]; exact a4⟩
    · exact hi
  · exact hi
theorem Inv.step {S : St} {c i v : Int32} (hi : Inv S) : Inv (oStep S c i v).2 := by
  unfold oStep
  split
  · split
    · exact hi
    · split
      · split
        · rename_i q
          exact hi.set14 _ _ q
        · exact hi
      · exact hi
  · exact hi
theorem Inv.cpy {S : St} {c d : Nat} (hi : Inv S) (hc : c < 4) (sc : ¬ sA S 13 c < 0) (n : Nat) (hn : n ≤ 5) : Inv (cpy S c d n) := by
  induction n with
  | zero => exact hi
  | succ n ih =>
    have h := ih (by omega)
    refine h.set14 _ _ ?_
    exact h.2.2.2.2.1 c n hc (by omega) (by rw [cpy_A _ _ _ _ _ _ (by omega)]; exact sc)
theorem Inv.copy {S : St} {c d n : Int32} (hi : Inv S) : Inv (oCopy S c d n).2 := by
  unfold oCopy
  split
  · rename_i a
    split
    · exact hi
    · rename_i b
      split
      · rename_i e
        have ec := nv_i a.1.1
        have := a.1.2
        have en := nv_i e.1
        have r := (hi.2.2.2.1 (nv c) (by omega)).2
        have := e.2.1
        exact hi.cpy (by omega) (fun q => b (.inl q)) _ (by omega)
      · exact hi
  · exact hi
