/-! ===== cure: the class chooses ===== -/
theorem opl_s (S : St) (p d : Int32) (k : Nat) : opl S p d (k + 1) = opl S p d k ++ (if cnt S k p d = 0 then [] else [k]) := rfl
theorem opl_mem (S : St) (p d : Int32) (n k : Nat) (hk : k < n) (hc : ¬ cnt S k p d = 0) : k ∈ opl S p d n := by
  induction n with
  | zero => exact absurd hk (Nat.not_lt_zero _)
  | succ n ih =>
    rw [opl_s]
    by_cases q : k = n
    · subst q; rw [if_neg hc]; exact List.mem_append.mpr (Or.inr (List.mem_singleton.mpr rfl))
    · exact List.mem_append.mpr (Or.inl (ih (by omega)))
theorem cho_some {S : St} {p d : Int32} {k i : Nat} (h : cho true S p d k = some i) : k < sM S ∧ dck S p d k = true ∧ i = dc S p d k := by
  unfold cho at h
  split at h
  · next q =>
    simp only [Bool.and_eq_true, decide_eq_true_eq] at q
    exact ⟨q.2, q.1.1.2, (Option.some.inj h).symm⟩
  · cases h
theorem opl_take (S : St) (p d : Int32) (n : Nat) : ∀ j, j < (opl S p d n).length → (opl S p d n).take j = opl S p d ((opl S p d n).getD j 0) := by
  induction n with
  | zero => intro j h; exact absurd h (Nat.not_lt_zero _)
  | succ n ih =>
    intro j hj
    rw [opl_s] at hj ⊢
    by_cases c : j < (opl S p d n).length
    · rw [List.take_append_of_le_length (by omega), ih j c]
      congr 1
      simp [List.getD, List.getElem?_append_left c]
    · by_cases q : cnt S n p d = 0
      · rw [if_pos q, List.append_nil] at hj; exact absurd hj c
      · rw [if_neg q] at hj ⊢
        rw [List.length_append] at hj
        have hj' : j < (opl S p d n).length + 1 := hj
        have ej : j = (opl S p d n).length := by omega
        rw [List.take_append_of_le_length (by omega), List.take_of_length_le (by omega)]
        have : (opl S p d n ++ [n]).getD j 0 = n := by rw [ej]; simp [List.getD]
        rw [this]
theorem CR.cho {z : Nat} {G G' : Wd} {S : St} {la lb : Nat → Nat} (h : CR z G S la lb) (f : chg (fun b => b = z + 38 ∨ b = z + 41 ∨ b = z + 42) (fun b => b = z + 40) G G') : CR z G' S la lb := by
  have hap := h.A
  refine h.keep f (fun o ho q => by omega) (fun q hq => ?_) (by omega) (by omega) (fun k hk i hi => ?_) (fun j hj => ?_)
  · have hh : ∀ q ∈ cRf, q.1 ≠ 40 := by decide
    have := hh q hq
    omega
  · have := (hap.1 k hk).1; exact ⟨by omega, by omega⟩
  · have := (hap.2.1 j hj).1; exact ⟨by omega, by omega⟩
abbrev cP (z b : Nat) : Prop := b = z + 38 ∨ b = z + 41 ∨ b = z + 42
theorem X4_choose {z : Nat} {G0 : Wd} {S : St} {la lb : Nat → Nat} {p d : Int32} {Q : Int32 → Wd → Prop} (h0 : CR z G0 S la lb) (hi : Inv S) (ho : opnd z G0 la (opl S p d (sM S))) (b1 : gI G0 (z + 38) 1 = 0) (b2 : gI G0 (z + 38) 2 = 0) (b4 : gI G0 (z + 38) 4 = 0) (bb : ∀ k, k < 24 → gI G0 (z + 41) k = 0)
    (hQ0 : 10 < dc S p d (sM S) → ∀ G', chg (cP z) (fun b => b = z + 40) G0 G' → Q 0 G')
    (hQ1 : dc S p d (sM S) ≤ 10 → ∀ G', chg (cP z) (fun b => b = z + 40) G0 G' → jI z (boC (cho true S p d)) (dc S p d (sM S)) (2 ^ dc S p d (sM S)) jst0 G' → (∀ i, i < dc S p d (sM S) → gR G' (z + 40) i = some (la (ck S p d i))) → Q 1 G') : wpX4_choose (z + 38) (z + 5) G0 Q := by
  have hM := hi.1.1
  obtain ⟨hl, h24⟩ := opl_ok hi p d
  have clM : cl S p d (sM S) = (opl S p d (sM S)).filter (dbt S) := rfl
  -- the sets are cleared
  have l79 : dc S p d (sM S) ≤ 10 → ∀ (n i : Nat) (G : Wd), i ≤ 2 ^ dc S p d (sM S) → i + n = 2 ^ dc S p d (sM S) + 1 → chg (cP z) (fun b => b = z + 40) G0 G → gI G (z + 38) 1 = 0 → gI G (z + 38) 2 = 0 → gI G (z + 38) 4 = nI (dc S p d (sM S)) → (∀ k, k < 24 → gI G (z + 41) k = nI (boC (cho true S p d) k)) → (∀ i, i < dc S p d (sM S) → gR G (z + 40) i = some (la (ck S p d i))) → (∀ j, j < i → gI G (z + 42) j = 0) → wpX4_choose_83 Q n (z + 38) (nI i) G := by
    intro hC n
    have hle := dc_10 hC
    induction n with
    | zero => intro i G le e; omega
    | succ n ih =>
      intro i G le e f a1 a2 a4 ab ar az
      have h := h0.cho f
      unfold wpX4_choose_83
      rw [a4, sh11 _ (by omega)]
      refine ⟨h.1.K 38 (by omega), ifE (fun c => ?_) (fun c => ⟨z + 42, h.1.R 38 6 42 (by decide), h.1.K 42 (by omega), ?_⟩)⟩
      · rw [nI_leI (by omega) (by omega)] at c
        exact hQ1 hC G f ⟨by rw [a2]; rfl, a1, fun n hn => ⟨fun _ => rfl, fun _ => az n (by omega)⟩, ab, a4⟩ ar
      · rw [nI_leI (by omega) (by omega)] at c
        refine ⟨by rw [h.1.N 42 (by omega)]; exact vp_in_nI (by show i < 1024; omega) (by decide), fun G1 e1 x hx => ?_⟩
        rw [nI_1] at hx; subst hx
        rw [nI_clamp (by omega)] at e1
        have g1 : ∀ b j, b ≠ z + 42 → gI G1 b j = gI G b j := fun b j q => by rw [e1, gI_uI, if_neg (fun w => q w.1)]
        refine ih (i + 1) G1 (by omega) (by omega) (by rw [e1]; exact f.wI _ _ _ (Or.inr (Or.inr rfl))) (by rw [g1 _ _ (by omega)]; exact a1) (by rw [g1 _ _ (by omega)]; exact a2) (by rw [g1 _ _ (by omega)]; exact a4) (fun k hk => by rw [g1 _ _ (by omega)]; exact ab k hk) (fun i hi' => by rw [e1, gR_uI]; exact ar i hi') (fun j hj => ?_)
        rw [e1, gI_uI]
        by_cases q : j = i
        · rw [if_pos ⟨rfl, q⟩]
        · rw [if_neg (fun w => q w.2)]; exact az j (by omega)
  have loop : ∀ (n j : Nat) (G : Wd), j ≤ (opl S p d (sM S)).length → j + n = (opl S p d (sM S)).length + 1 → chg (cP z) (fun b => b = z + 40) G0 G → gI G (z + 38) 1 = 0 → gI G (z + 38) 2 = 0 → ((opl S p d (sM S)).take j |>.filter (dbt S)).length ≤ 10 → gI G (z + 38) 4 = nI (((opl S p d (sM S)).take j).filter (dbt S)).length → (∀ k, k < 24 → gI G (z + 41) k = nI (if k ∈ (opl S p d (sM S)).take j then boC (cho true S p d) k else 0)) → (∀ i, i < (((opl S p d (sM S)).take j).filter (dbt S)).length → gR G (z + 40) i = some (la ((((opl S p d (sM S)).take j).filter (dbt S)).getD i 0))) → wpX4_choose_2 Q n (z + 38) (z + 5) (nI j) G := by
    intro n
    induction n with
    | zero => intro j G le e; omega
    | succ n ih =>
      intro j G le e f a1 a2 hc a4 ab ar
      have h := h0.cho f
      have o1 : gI G (z + 5) 1 = nI (opl S p d (sM S)).length := by rw [f.I (by omega)]; exact ho.1
      unfold wpX4_choose_2
      rw [o1]
      refine ⟨h.1.K 5 (by omega), ifE (fun c => ⟨2 ^ dc S p d (sM S) + 1, ?_⟩) (fun c => ?_)⟩
      · rw [nI_leI (by omega) (by omega)] at c
        rw [List.take_of_length_le c, ← clM, cl_len] at hc a4
        rw [List.take_of_length_le c, ← clM] at ar
        rw [List.take_of_length_le c] at ab
        refine l79 hc _ 0 G (Nat.zero_le _) (Nat.zero_add _) f a1 a2 a4 (fun k hk => ?_) (fun i hi' => ar i (by rw [cl_len]; exact hi')) (fun j hj => absurd hj (Nat.not_lt_zero _))
        rw [ab k hk]
        by_cases q : k ∈ opl S p d (sM S)
        · rw [if_pos q]
        · rw [if_neg q]
          have e0 : cho true S p d k = none := by
            cases e : cho true S p d k with
            | none => rfl
            | some i =>
              obtain ⟨x1, x2, _⟩ := cho_some e
              exact absurd (opl_mem S p d (sM S) k x1 (of_decide_eq_true x2).1) q
          unfold boC
          rw [e0]
      · rw [nI_leI (by omega) (by omega)] at c
        have hlt : j < (opl S p d (sM S)).length := by omega
        have hk : (opl S p d (sM S)).getD j 0 < sM S := hl _ (getD_mem hlt)
        have htk := opl_take S p d (sM S) j hlt
        have hcn := (opl_lt S p d (sM S) _ (getD_mem hlt)).2
        have ets : (opl S p d (sM S)).take (j + 1) = (opl S p d (sM S)).take j ++ [(opl S p d (sM S)).getD j 0] := by
          rw [List.take_add_one]
          simp [List.getD, List.getElem?_eq_getElem hlt]
        have oR : gR G (z + 6) j = some (la ((opl S p d (sM S)).getD j 0)) := by rw [f.Rf (by omega)]; exact ho.2 j hlt
        have nmem : (opl S p d (sM S)).getD j 0 ∉ (opl S p d (sM S)).take j := fun q => by
          rw [htk] at q
          have := (opl_lt S p d _ _ q).1
          omega
        generalize ek : (opl S p d (sM S)).getD j 0 = k at hk htk hcn ets oR nmem
        obtain ⟨c1, c2, c3, _⟩ := (h.2.2.2.2.1 k hk).2
        have r2 := (hi.2.2.1 k hk).1
        refine ⟨z + 6, h.1.R 5 0 6 (by decide), h.1.K 6 (by omega), by rw [h.1.N 6 (by omega)]; exact vp_in_nI (by show j < 24; omega) (by decide), la k, by rw [nI_clamp (by omega)]; exact oR, c1, ?_⟩
        refine X5_is c1 (c3 1 (by omega) (by omega)) r2 (fun hd => ifN (fun e => n10 e) ⟨h.1.K 38 (by omega), ?_⟩) (fun hd => ifP rfl (fun x hx => ?_))
        · rw [isK2 r2] at hd
          have hdb : dbt S k = true := decide_eq_true hd
          have hdk : dck S p d k = true := decide_eq_true ⟨hcn, hd⟩
          have edc : (((opl S p d (sM S)).take j).filter (dbt S)).length = dc S p d k := by rw [htk]; exact cl_len S p d k
          have efl : ((opl S p d (sM S)).take (j + 1)).filter (dbt S) = ((opl S p d (sM S)).take j).filter (dbt S) ++ [k] := by
            rw [ets, List.filter_append, List.filter_cons_of_pos hdb]; rfl
          rw [a4]
          refine ifE (fun c10 => ?_) (fun c10 => ?_)
          · rw [i_lt, nI_toInt (by omega), il10] at c10
            refine ⟨z + 41, h.1.R 38 5 41 (by decide), c1, h.1.K 41 (by omega), by rw [c2, h.1.N 41 (by omega)]; exact vp_in_nI (by show k < 24; omega) (by decide), fun G1 e1 => ?_⟩
            rw [c2, nI_clamp (by omega), sh11 _ (by omega)] at e1
            have i4 : gI G1 (z + 38) 4 = nI (((opl S p d (sM S)).take j).filter (dbt S)).length := by rw [e1, gI_uI, if_neg (by omega)]; exact a4
            have f1 : chg (cP z) (fun b => b = z + 40) G0 G1 := by rw [e1]; exact f.wI _ _ _ (Or.inr (Or.inl rfl))
            have h1 := h0.cho f1
            refine ⟨z + 40, h1.1.R 38 3 40 (by decide), h1.1.K 40 (by omega), by rw [i4, h1.1.N 40 (by omega)]; exact vp_in_nI (by show _ < 10; omega) (by decide), fun G2 e2 G3 e3 x hx => ?_⟩
            rw [i4, nI_clamp (by omega)] at e2
            have j4 : gI G2 (z + 38) 4 = nI (((opl S p d (sM S)).take j).filter (dbt S)).length := by rw [e2, gI_uR]; exact i4
            rw [j4, nI_1] at e3
            rw [nI_1] at hx; subst hx
            have g3 : ∀ b i, b ≠ z + 41 → b ≠ z + 38 → gI G3 b i = gI G b i := fun b i q1 q2 => by rw [e3, gI_uI, if_neg (fun w => q2 w.1), e2, gI_uR, e1, gI_uI, if_neg (fun w => q1 w.1)]
            have g38 : ∀ i, i ≠ 4 → gI G3 (z + 38) i = gI G (z + 38) i := fun i q => by rw [e3, gI_uI, if_neg (fun w => q w.2), e2, gI_uR, e1, gI_uI, if_neg (by omega)]
            have elen : (((opl S p d (sM S)).take (j + 1)).filter (dbt S)).length = (((opl S p d (sM S)).take j).filter (dbt S)).length + 1 := by rw [efl, List.length_append]; rfl
            refine ih (j + 1) G3 (by omega) (by omega) (by rw [e3, e2]; exact (f1.wR _ _ _ rfl).wI _ _ _ (Or.inl rfl)) (by rw [g38 1 (by omega)]; exact a1) (by rw [g38 2 (by omega)]; exact a2) (by rw [elen]; omega) (by rw [e3, gI_uI, if_pos ⟨rfl, rfl⟩, elen]) (fun k' hk' => ?_) (fun i hi' => ?_)
            · have hx : gI G3 (z + 41) k' = if k' = k then nI (2 ^ (((opl S p d (sM S)).take j).filter (dbt S)).length) else gI G (z + 41) k' := by
                rw [e3, gI_uI, if_neg (by omega), e2, gI_uR, e1, gI_uI]
                by_cases q : k' = k
                · rw [if_pos ⟨rfl, q⟩, if_pos q]
                · rw [if_neg (fun w => q w.2), if_neg q]
              rw [hx, ets]
              by_cases q : k' = k
              · rw [if_pos q, if_pos (List.mem_append.mpr (Or.inr (List.mem_singleton.mpr q))), q, edc]
                have : cho true S p d k = some (dc S p d k) := by unfold cho; rw [hdk, decide_eq_true (show dc S p d k < 10 by omega), decide_eq_true hk]; rfl
                unfold boC
                rw [this]
              · rw [if_neg q, ab k' hk']
                by_cases w : k' ∈ (opl S p d (sM S)).take j
                · rw [if_pos w, if_pos (List.mem_append.mpr (Or.inl w))]
                · rw [if_neg w, if_neg (fun v => by
                    rcases List.mem_append.mp v with v | v
                    · exact w v
                    · exact q (List.mem_singleton.mp v))]
            · rw [elen] at hi'
              rw [efl, e3, gR_uI, e2, gR_uR, e1]
              by_cases q : i = (((opl S p d (sM S)).take j).filter (dbt S)).length
              · rw [if_pos ⟨rfl, q⟩, q]; simp [List.getD]
              · rw [if_neg (fun w => q w.2), gR_uI, ar i (by omega)]
                simp [List.getD, List.getElem?_append_left (show i < (((opl S p d (sM S)).take j).filter (dbt S)).length by omega)]
          · rw [i_lt, nI_toInt (by omega), il10] at c10
            refine hQ0 ?_ G f
            have : cl S p d (sM S) = ((opl S p d (sM S)).take (j + 1)).filter (dbt S) ++ ((opl S p d (sM S)).drop (j + 1)).filter (dbt S) := by rw [← List.filter_append, List.take_append_drop]; rfl
            rw [← cl_len, this, efl, List.length_append, List.length_append]
            have e1 : ([k] : List Nat).length = 1 := rfl
            omega
        · rw [isK2 r2] at hd
          have hdb : ¬ dbt S k = true := fun q => hd (of_decide_eq_true q)
          have efl : ((opl S p d (sM S)).take (j + 1)).filter (dbt S) = ((opl S p d (sM S)).take j).filter (dbt S) := by
            rw [ets, List.filter_append, List.filter_cons_of_neg hdb]
            exact List.append_nil _
          rw [nI_1] at hx; subst hx
          refine ih (j + 1) G (by omega) (by omega) f a1 a2 (by rw [efl]; exact hc) (by rw [efl]; exact a4) (fun k' hk' => ?_) (by rw [efl]; exact ar)
          rw [ab k' hk', ets]
          by_cases w : k' ∈ (opl S p d (sM S)).take j
          · rw [if_pos w, if_pos (List.mem_append.mpr (Or.inl w))]
          · rw [if_neg w]
            by_cases q : k' = k
            · rw [if_pos (List.mem_append.mpr (Or.inr (List.mem_singleton.mpr q))), q]
              have e0 : cho true S p d k = none := by
                cases e : cho true S p d k with
                | none => rfl
                | some i => obtain ⟨_, x2, _⟩ := cho_some e; exact absurd (of_decide_eq_true x2).2 hd
              unfold boC
              rw [e0]
            · rw [if_neg (fun v => by
                rcases List.mem_append.mp v with v | v
                · exact w v
                · exact q (List.mem_singleton.mp v))]
  exact ⟨(opl S p d (sM S)).length + 1, loop _ 0 G0 (Nat.zero_le _) (Nat.zero_add _) chg.rf b1 b2 (Nat.zero_le _) b4 (fun k hk => by rw [bb k hk]; rfl) (fun i hi' => absurd hi' (Nat.not_lt_zero _))⟩
