/-! ===== the law's loop, from what each call answers ===== -/
abbrev ok1 (c m : Nat → Int32 → Wd → (Int64 → Wd → Prop) → Prop) : Prop := ∃ o : St → Int32 → Int64 × St, (∀ (z : Nat) (G : Wd) (S T : St) (p0 : Int32) (Q : Int64 → Wd → Prop), mid z G S T → Inv S → (∀ G', mid z G' (o S p0).2 T → Q (o S p0).1 G') → c z p0 G Q) ∧ (∀ (z : Nat) (G : Wd) (S T : St) (p0 : Int32) (Q : Int64 → Wd → Prop), mid z G T S → Inv S → (∀ G', mid z G' T (o S p0).2 → Q (o S p0).1 G') → m (z + 54) p0 G Q) ∧ ∀ (S : St) (p0 : Int32), Inv S → Inv (o S p0).2
abbrev ok2 (c m : Nat → Int32 → Int32 → Wd → (Int64 → Wd → Prop) → Prop) : Prop := ∃ o : St → Int32 → Int32 → Int64 × St, (∀ (z : Nat) (G : Wd) (S T : St) (p0 p1 : Int32) (Q : Int64 → Wd → Prop), mid z G S T → Inv S → (∀ G', mid z G' (o S p0 p1).2 T → Q (o S p0 p1).1 G') → c z p0 p1 G Q) ∧ (∀ (z : Nat) (G : Wd) (S T : St) (p0 p1 : Int32) (Q : Int64 → Wd → Prop), mid z G T S → Inv S → (∀ G', mid z G' T (o S p0 p1).2 → Q (o S p0 p1).1 G') → m (z + 54) p0 p1 G Q) ∧ ∀ (S : St) (p0 p1 : Int32), Inv S → Inv (o S p0 p1).2
abbrev ok3 (c m : Nat → Int32 → Int32 → Int32 → Wd → (Int64 → Wd → Prop) → Prop) : Prop := ∃ o : St → Int32 → Int32 → Int32 → Int64 × St, (∀ (z : Nat) (G : Wd) (S T : St) (p0 p1 p2 : Int32) (Q : Int64 → Wd → Prop), mid z G S T → Inv S → (∀ G', mid z G' (o S p0 p1 p2).2 T → Q (o S p0 p1 p2).1 G') → c z p0 p1 p2 G Q) ∧ (∀ (z : Nat) (G : Wd) (S T : St) (p0 p1 p2 : Int32) (Q : Int64 → Wd → Prop), mid z G T S → Inv S → (∀ G', mid z G' T (o S p0 p1 p2).2 → Q (o S p0 p1 p2).1 G') → m (z + 54) p0 p1 p2 G Q) ∧ ∀ (S : St) (p0 p1 p2 : Int32), Inv S → Inv (o S p0 p1 p2).2
abbrev ok4 (c m : Nat → Int32 → Int32 → Int32 → Int32 → Wd → (Int64 → Wd → Prop) → Prop) : Prop := ∃ o : St → Int32 → Int32 → Int32 → Int32 → Int64 × St, (∀ (z : Nat) (G : Wd) (S T : St) (p0 p1 p2 p3 : Int32) (Q : Int64 → Wd → Prop), mid z G S T → Inv S → (∀ G', mid z G' (o S p0 p1 p2 p3).2 T → Q (o S p0 p1 p2 p3).1 G') → c z p0 p1 p2 p3 G Q) ∧ (∀ (z : Nat) (G : Wd) (S T : St) (p0 p1 p2 p3 : Int32) (Q : Int64 → Wd → Prop), mid z G T S → Inv S → (∀ G', mid z G' T (o S p0 p1 p2 p3).2 → Q (o S p0 p1 p2 p3).1 G') → m (z + 54) p0 p1 p2 p3 G Q) ∧ ∀ (S : St) (p0 p1 p2 p3 : Int32), Inv S → Inv (o S p0 p1 p2 p3).2
theorem law_loop {N z : Nat} {xs : Nat → Int32} (hN : N ≤ 320) (h_ways : ok2 wpX10_ways wpX11_ways) (h_way : ok4 wpX10_way wpX11_way) (h_factor : ok4 wpX10_factor wpX11_factor) (h_span : ok4 wpX10_span wpX11_span) (h_quarrel : ok2 wpX10_quarrel wpX11_quarrel) (h_cure : ok1 wpX10_cure wpX11_cure) (h_heal : ok1 wpX10_heal wpX11_heal) (h_total : ok3 wpX10_total wpX11_total) (h_slip : ok2 wpX10_slip wpX11_slip) (n : Nat) : ∀ (i : Nat) (G : Wd) (S : St), i ≤ N → N + 5 ≤ i + 5 * n → mid z G S S → Inv S → wpL_law_18 N xs n z (z + 54) (nI i) G := by
  obtain ⟨o_ways, c_ways, m_ways, i_ways⟩ := h_ways
  obtain ⟨o_way, c_way, m_way, i_way⟩ := h_way
  obtain ⟨o_factor, c_factor, m_factor, i_factor⟩ := h_factor
  obtain ⟨o_span, c_span, m_span, i_span⟩ := h_span
  obtain ⟨o_quarrel, c_quarrel, m_quarrel, i_quarrel⟩ := h_quarrel
  obtain ⟨o_cure, c_cure, m_cure, i_cure⟩ := h_cure
  obtain ⟨o_heal, c_heal, m_heal, i_heal⟩ := h_heal
  obtain ⟨o_total, c_total, m_total, i_total⟩ := h_total
  obtain ⟨o_slip, c_slip, m_slip, i_slip⟩ := h_slip
  induction n with
  | zero => intro i G S le e; omega
  | succ n ih =>
    intro i G S le e hm hi
    rw [wpL_law_18]
    refine ifE (fun _ => trivial) (fun a => ?_)
    have e5 : (nI N - 5).toInt = (N : Int) - 5 := pk_sub_toInt (a := N) (b := 5) (by omega) (by omega)
    rw [i_lt, e5, nI_toInt (by omega)] at a
    have va0 : vp_in (nI i) N := vp_in_nI (by omega) (by omega)
    have va1 : vp_in (nI i + 1) N := by rw [show (1 : Int32) = nI 1 from rfl, nI_add]; exact vp_in_nI (by omega) (by omega)
    have va2 : vp_in (nI i + 2) N := by rw [show (2 : Int32) = nI 2 from rfl, nI_add]; exact vp_in_nI (by omega) (by omega)
    have va3 : vp_in (nI i + 3) N := by rw [show (3 : Int32) = nI 3 from rfl, nI_add]; exact vp_in_nI (by omega) (by omega)
    have va4 : vp_in (nI i + 4) N := by rw [show (4 : Int32) = nI 4 from rfl, nI_add]; exact vp_in_nI (by omega) (by omega)
    have K : ∀ (G' : Wd) (S' : St), mid z G' S' S' → Inv S' → ∀ x : Int32, x = nI i + 5 → wpL_law_18 N xs n z (z + 54) x G' := fun G' S' h' i' x hx => by
      rw [hx, show (5 : Int32) = nI 5 from rfl, nI_add]
      exact ih (i + 5) G' S' (by omega) (by omega) h' i'
    refine ⟨va0, ?_⟩
    refine ifE (fun _ => ⟨va1, va2, hm.cK, C_lies hm (fun G1 h1 => ⟨va1, va2, h1.K, M_lies h1 (fun G2 h2 => ifP rfl (K _ _ h2 (Inv.lies hi)))⟩)⟩) (fun _ => ?_)
    refine ifE (fun _ => ⟨va1, va2, hm.cK, C_within hm hi ⟨va1, va2, hm.K, M_within hm hi (ifP rfl (K _ _ hm hi))⟩⟩) (fun _ => ?_)
    refine ifE (fun _ => ⟨va1, va2, va3, va4, hm.cK, C_likeness hm hi (fun G1 h1 => ⟨va1, va2, va3, va4, h1.K, M_likeness h1 hi (fun G2 h2 => ifP rfl (K _ _ h2 (Inv.likeness hi)))⟩)⟩) (fun _ => ?_)
    refine ifE (fun _ => ⟨va1, va2, va3, va4, hm.cK, C_holds hm hi (fun G1 h1 => ⟨va1, va2, va3, va4, h1.K, M_holds h1 hi (fun G2 h2 => ifP rfl (K _ _ h2 (Inv.holds hi)))⟩)⟩) (fun _ => ?_)
    refine ifE (fun _ => ⟨va1, va2, va3, hm.cK, C_doubt hm hi (fun G1 h1 => ⟨va1, va2, va3, h1.K, M_doubt h1 hi (fun G2 h2 => ifP rfl (K _ _ h2 (Inv.doubt hi)))⟩)⟩) (fun _ => ?_)
    refine ifE (fun _ => ⟨va1, va2, hm.cK, C_drop hm hi (fun G1 h1 => ⟨va1, va2, h1.K, M_drop h1 hi (fun G2 h2 => ifP rfl (K _ _ h2 (Inv.drop hi)))⟩)⟩) (fun _ => ?_)
    refine ifE (fun _ => ⟨hm.cK, C_forget hm hi (fun G1 h1 => ⟨h1.K, M_forget h1 hi (fun G2 h2 => ifP rfl (K _ _ h2 (Inv.forget hi)))⟩)⟩) (fun _ => ?_)
    refine ifE (fun _ => ⟨va1, va2, hm.cK, C_told hm hi ⟨va1, va2, hm.K, M_told hm hi (ifP rfl (K _ _ hm hi))⟩⟩) (fun _ => ?_)
    refine ifE (fun _ => ⟨va1, va2, hm.cK, C_isOf hm hi ⟨va1, va2, hm.K, M_isOf hm hi (ifP rfl (K _ _ hm hi))⟩⟩) (fun _ => ?_)
    refine ifE (fun _ => ⟨va1, va2, va3, hm.cK, C_end hm hi ⟨va1, va2, va3, hm.K, M_end hm hi (fun G2 h2 => ifP rfl (K _ _ h2 hi))⟩⟩) (fun _ => ?_)
    refine ifE (fun _ => ⟨va1, va2, va3, hm.cK, C_counts hm hi ⟨va1, va2, va3, hm.K, M_counts hm hi (ifP rfl (K _ _ hm hi))⟩⟩) (fun _ => ?_)
    refine ifE (fun _ => ⟨va1, va2, hm.cK, c_ways _ _ _ _ _ _ _ hm hi (fun G1 h1 => ⟨va1, va2, h1.K, m_ways _ _ _ _ _ _ _ h1 hi (fun G2 h2 => ifP rfl (K _ _ h2 (i_ways _ _ _ hi)))⟩)⟩) (fun _ => ?_)
    refine ifE (fun _ => ⟨va1, va2, va3, va4, hm.cK, c_way _ _ _ _ _ _ _ _ _ hm hi (fun G1 h1 => ⟨va1, va2, va3, va4, h1.K, m_way _ _ _ _ _ _ _ _ _ h1 hi (fun G2 h2 => ifP rfl (K _ _ h2 (i_way _ _ _ _ _ hi)))⟩)⟩) (fun _ => ?_)
    refine ifE (fun _ => ⟨va1, va2, va3, va4, hm.cK, c_factor _ _ _ _ _ _ _ _ _ hm hi (fun G1 h1 => ⟨va1, va2, va3, va4, h1.K, m_factor _ _ _ _ _ _ _ _ _ h1 hi (fun G2 h2 => ifP rfl (K _ _ h2 (i_factor _ _ _ _ _ hi)))⟩)⟩) (fun _ => ?_)
    refine ifE (fun _ => ⟨va1, va2, va3, va4, hm.cK, c_span _ _ _ _ _ _ _ _ _ hm hi (fun G1 h1 => ⟨va1, va2, va3, va4, h1.K, m_span _ _ _ _ _ _ _ _ _ h1 hi (fun G2 h2 => ifP rfl (K _ _ h2 (i_span _ _ _ _ _ hi)))⟩)⟩) (fun _ => ?_)
    refine ifE (fun _ => ⟨va1, va2, hm.cK, c_quarrel _ _ _ _ _ _ _ hm hi (fun G1 h1 => ⟨va1, va2, h1.K, m_quarrel _ _ _ _ _ _ _ h1 hi (fun G2 h2 => ifP rfl (K _ _ h2 (i_quarrel _ _ _ hi)))⟩)⟩) (fun _ => ?_)
    refine ifE (fun _ => ⟨va1, hm.cK, c_cure _ _ _ _ _ _ hm hi (fun G1 h1 => ⟨va1, h1.K, m_cure _ _ _ _ _ _ h1 hi (fun G2 h2 => ifP rfl (K _ _ h2 (i_cure _ _ hi)))⟩)⟩) (fun _ => ?_)
    refine ifE (fun _ => ⟨va1, hm.cK, c_heal _ _ _ _ _ _ hm hi (fun G1 h1 => ⟨va1, h1.K, m_heal _ _ _ _ _ _ h1 hi (fun G2 h2 => ifP rfl (K _ _ h2 (i_heal _ _ hi)))⟩)⟩) (fun _ => ?_)
    refine ifE (fun _ => ⟨va1, va2, hm.cK, C_custom hm (fun G1 h1 => ⟨va1, va2, h1.K, M_custom h1 (fun G2 h2 => ifP rfl (K _ _ h2 (Inv.custom hi)))⟩)⟩) (fun _ => ?_)
    refine ifE (fun _ => ⟨va1, va2, va3, hm.cK, C_step hm hi (fun G1 h1 => ⟨va1, va2, va3, h1.K, M_step h1 hi (fun G2 h2 => ifP rfl (K _ _ h2 (Inv.step hi)))⟩)⟩) (fun _ => ?_)
    refine ifE (fun _ => ⟨va1, va2, va3, hm.cK, C_copy hm hi (fun G1 h1 => ⟨va1, va2, va3, h1.K, M_copy h1 hi (fun G2 h2 => ifP rfl (K _ _ h2 (Inv.copy hi)))⟩)⟩) (fun _ => ?_)
    refine ifE (fun _ => ⟨va1, va2, va3, va4, hm.cK, C_part hm hi ⟨va1, va2, va3, va4, hm.K, M_part hm hi (ifP rfl (K _ _ hm hi))⟩⟩) (fun _ => ?_)
    refine ifE (fun _ => ⟨va1, va2, va3, hm.cK, C_whole hm hi ⟨va1, va2, va3, hm.K, M_whole hm hi (ifP rfl (K _ _ hm hi))⟩⟩) (fun _ => ?_)
    refine ifE (fun _ => ⟨va1, va2, va3, va4, hm.cK, C_line hm hi (fun G1 h1 => ⟨va1, va2, va3, va4, h1.K, M_line h1 hi (fun G2 h2 => ifP rfl (K _ _ h2 (Inv.line hi)))⟩)⟩) (fun _ => ?_)
    refine ifE (fun _ => ⟨va1, va2, hm.cK, C_amend hm hi (fun G1 h1 => ⟨va1, va2, h1.K, M_amend h1 hi (fun G2 h2 => ifP rfl (K _ _ h2 (Inv.amend hi)))⟩)⟩) (fun _ => ?_)
    refine ifE (fun _ => ⟨hm.cK, C_clear hm hi (fun G1 h1 => ⟨h1.K, M_clear h1 (fun G2 h2 => ifP rfl (K _ _ h2 (Inv.clear hi)))⟩)⟩) (fun _ => ?_)
    refine ifE (fun _ => ⟨va1, va2, va3, hm.cK, c_total _ _ _ _ _ _ _ _ hm hi (fun G1 h1 => ⟨va1, va2, va3, h1.K, m_total _ _ _ _ _ _ _ _ h1 hi (fun G2 h2 => ifP rfl (K _ _ h2 (i_total _ _ _ _ hi)))⟩)⟩) (fun _ => ?_)
    refine ifE (fun _ => ⟨va1, va2, hm.cK, c_slip _ _ _ _ _ _ _ hm hi (fun G1 h1 => ⟨va1, va2, h1.K, m_slip _ _ _ _ _ _ _ h1 hi (fun G2 h2 => ifP rfl (K _ _ h2 (i_slip _ _ _ hi)))⟩)⟩) (fun _ => ?_)
    refine ifE (fun _ => ⟨va1, hm.cK, C_count hm hi ⟨va1, hm.K, M_count hm hi (ifP rfl (K _ _ hm hi))⟩⟩) (fun _ => ?_)
    exact K G S hm hi
