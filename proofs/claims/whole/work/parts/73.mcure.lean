/-! ===== cure: the reference ===== -/
theorem nI_and (a b : Nat) : nI a &&& nI b = nI (a &&& b) := by
  apply Int32.toBitVec_inj.mp
  show (BitVec.ofNat 32 a) &&& (BitVec.ofNat 32 b) = BitVec.ofNat 32 (a &&& b)
  rw [BitVec.ofNat_and]
theorem nI_xor (a b : Nat) : nI a ^^^ nI b = nI (a ^^^ b) := by
  apply Int32.toBitVec_inj.mp
  show (BitVec.ofNat 32 a) ^^^ (BitVec.ofNat 32 b) = BitVec.ofNat 32 (a ^^^ b)
  rw [BitVec.ofNat_xor]
theorem lN_or (a b : Nat) : lN a ||| lN b = lN (a ||| b) := by
  apply Int64.toBitVec_inj.mp
  show (BitVec.ofNat 64 a) ||| (BitVec.ofNat 64 b) = BitVec.ofNat 64 (a ||| b)
  rw [BitVec.ofNat_or]
theorem lN_and (a b : Nat) : lN a &&& lN b = lN (a &&& b) := by
  apply Int64.toBitVec_inj.mp
  show (BitVec.ofNat 64 a) &&& (BitVec.ofNat 64 b) = BitVec.ofNat 64 (a &&& b)
  rw [BitVec.ofNat_and]
theorem sh11 : ∀ j, j < 11 → (1 : Int32) <<< (nI j &&& 31) = nI (2 ^ j) := by decide +kernel
theorem shL : ∀ k, k < 24 → (1 : Int64) <<< ((nI k).toInt64 &&& 63) = lN (2 ^ k) := by decide +kernel
theorem bit_1 : ∀ n, n < 10 → ∀ m, m < 1024 → ((nI m >>> (nI n &&& 31)) &&& 1 = 1 ↔ m.testBit n = true) := by decide +kernel
theorem curB_iff (f : Nat → Bool) (n : Nat) : curB f n = true ↔ ∀ q, q < 1024 → f q = true → q &&& n ≠ 0 := by
  unfold curB
  rw [List.all_eq_true]
  constructor
  · intro h q hq hf
    have := h q (List.mem_range.mpr hq)
    rw [hf] at this
    simpa using this
  · intro h q hq
    have := h q (List.mem_range.mp hq)
    cases hf : f q with
    | false => rfl
    | true => simpa using this hf
theorem dc_10 {S : St} {p d : Int32} (h : dc S p d (sM S) ≤ 10) : 2 ^ dc S p d (sM S) ≤ 1024 := by
  have := Nat.pow_le_pow_right (n := 2) (by omega) h
  exact this
set_option maxRecDepth 100000 in
theorem M_cures {z n : Nat} {G : Wd} {T S : St} {f : Nat → Bool} {Q : Int64 → Wd → Prop} {k27 : Nat → Int64 → Int32 → Int32 → Int32 → Wd → Prop} {v3 : Int64} {v5 v6 : Int32} (h : mid z G T S) (hf : ∀ q, q < 1024 → (gI G (z + 54 + 24) q = 0 ↔ f q = false)) (hn : n < 1024) (hQ : wpX11_cureOf_88 Q k27 (z + 54) v3 v5 v6 (nI n) (if curB f n then 1 else 0) G) (m : Nat) : ∀ (i : Nat) (v8 : Int32), i ≤ 1024 → i + m = 1025 → (v8 = 1 ∧ (∀ q, q < i → f q = true → q &&& n ≠ 0) ∨ v8 = 0 ∧ curB f n = false) → wpX11_cureOf_44 Q k27 m (z + 54) v3 v5 v6 (nI n) v8 (nI i) G := by
  have il1024 : (1024 : Int32).toInt = 1024 := rfl
  induction m with
  | zero => intro i v8 le e; omega
  | succ m ih =>
    intro i v8 le e hv
    unfold wpX11_cureOf_44
    refine ifE (fun c => ?_) (fun c => ifE (fun c8 => ?_) (fun c8 => ⟨h.K, ?_⟩))
    · rw [i_le, nI_toInt (by omega), il1024] at c
      rcases hv with ⟨a, b⟩ | ⟨a, b⟩
      · rw [show curB f n = true from (curB_iff f n).mpr (fun q hq => b q (by omega))] at hQ
        rw [a]; exact hQ
      · rw [b] at hQ; rw [a]; exact hQ
    · rcases hv with ⟨a, b⟩ | ⟨a, b⟩
      · rw [a] at c8; exact n10 c8
      · rw [b] at hQ; rw [a]; exact hQ
    · rw [i_le, nI_toInt (by omega), il1024] at c
      rcases hv with ⟨a, b⟩ | ⟨a, b⟩
      · refine h.2.at 24 42 22 1024 rfl rfl rfl (by omega) (by omega) (vp_in_nI (by omega) (by decide)) ?_
        rw [nI_clamp (by omega)]
        have up : (f i = true → i &&& n ≠ 0) → ∀ q, q < i + 1 → f q = true → q &&& n ≠ 0 := fun w q hq hf' => by
          by_cases e : q = i
          · rw [e] at hf' ⊢; exact w hf'
          · exact b q (by omega) hf'
        refine ifE (fun c0 x hx => ?_) (fun c0 => ifE (fun ca x hx => ?_) (fun ca x hx => ?_))
        · rw [nI_1] at hx; subst hx
          refine ih (i + 1) 1 (by omega) (by omega) (Or.inl ⟨rfl, up (fun w => ?_)⟩)
          rw [(hf i (by omega)).mp c0] at w; cases w
        · rw [nI_1] at hx; subst hx
          refine ih (i + 1) 0 (by omega) (by omega) (Or.inr ⟨rfl, ?_⟩)
          cases q : curB f n with
          | false => rfl
          | true =>
            have w : f i = true := by cases q' : f i with | true => rfl | false => exact absurd ((hf i (by omega)).mpr q') c0
            have := (curB_iff f n).mp q i (by omega) w
            have e0 : nI (i &&& n) = nI 0 := by rw [← nI_and]; exact ca
            have la : i &&& n ≤ i := Nat.and_le_left
            rw [nI_eqI (by omega) (by omega)] at e0
            exact absurd e0 this
        · rw [nI_1] at hx; subst hx
          refine ih (i + 1) 1 (by omega) (by omega) (Or.inl ⟨rfl, up (fun _ e0 => ca ?_)⟩)
          rw [nI_and, e0]; rfl
      · rw [a] at c8; exact absurd rfl c8
theorem M_weigh {z n : Nat} {G : Wd} {T S : St} {p d : Int32} {Q : Int64 → Wd → Prop} {k27 : Nat → Int64 → Int32 → Int32 → Int32 → Wd → Prop} {v3 : Int64} {v5 v6 : Int32} (h : mid z G T S) (hi : Inv S) (hch : chc z S (cho true S p d) G) (hC : dc S p d (sM S) ≤ 10) (hn : n < 2 ^ dc S p d (sM S))
    (hQ : (if v3 = (-9000000000000000005) then (wpX11_cureOf_213 Q k27 (z + 54) (nI n) (nI (wtI S p d n (dc S p d (sM S)))) (nI (pcI n (dc S p d (sM S)))) (lN (BI S p d n (dc S p d (sM S)))) G) else (if nI (wtI S p d n (dc S p d (sM S))) < v5 then (wpX11_cureOf_213 Q k27 (z + 54) (nI n) (nI (wtI S p d n (dc S p d (sM S)))) (nI (pcI n (dc S p d (sM S)))) (lN (BI S p d n (dc S p d (sM S)))) G) else (if nI (wtI S p d n (dc S p d (sM S))) = v5 then (if nI (pcI n (dc S p d (sM S))) < v6 then (wpX11_cureOf_213 Q k27 (z + 54) (nI n) (nI (wtI S p d n (dc S p d (sM S)))) (nI (pcI n (dc S p d (sM S)))) (lN (BI S p d n (dc S p d (sM S)))) G) else (if nI (pcI n (dc S p d (sM S))) = v6 then (if lN (BI S p d n (dc S p d (sM S))) < v3 then (wpX11_cureOf_213 Q k27 (z + 54) (nI n) (nI (wtI S p d n (dc S p d (sM S)))) (nI (pcI n (dc S p d (sM S)))) (lN (BI S p d n (dc S p d (sM S)))) G) else (wpX11_cureOf_224 Q k27 (z + 54) v3 v5 v6 (nI n) G)) else (wpX11_cureOf_224 Q k27 (z + 54) v3 v5 v6 (nI n) G))) else (wpX11_cureOf_224 Q k27 (z + 54) v3 v5 v6 (nI n) G)))))
    (m : Nat) : ∀ k : Nat, k ≤ sM S → k + m = sM S + 1 → wpX11_cureOf_105 Q k27 m (z + 54) v3 v5 v6 (nI n) (nI (wtI S p d n (dc S p d k))) (nI (pcI n (dc S p d k))) (lN (BI S p d n (dc S p d k))) (nI k) G := by
  have hM := hi.1.1
  have hn10 := dc_10 hC
  induction m with
  | zero => intro k le e; omega
  | succ m ih =>
    intro k le e
    unfold wpX11_cureOf_105
    refine ⟨h.K, ?_⟩
    rw [h.M]
    refine ifE (fun c => ?_) (fun c => ?_)
    · rw [nI_leI (by omega) (by omega)] at c
      rw [show k = sM S by omega]
      exact hQ
    · rw [nI_leI (by omega) (by omega)] at c
      have hk : k < sM S := by omega
      have vi : vp_in (nI k) 24 := vp_in_nI (by omega) (by decide)
      have g25 : gI G (z + 54 + 25) (nI k).toNatClampNeg = (match cho true S p d k with | none => -1 | some i => nI i) := by rw [nI_clamp (by omega)]; exact hch k hk
      have nx := ih (k + 1) (by omega) (by omega)
      refine h.2.at 25 43 20 24 rfl rfl rfl (by omega) (by omega) vi ?_
      rw [g25]
      cases hd : dck S p d k with
      | false =>
        have e0 : cho true S p d k = none := by unfold cho; rw [hd]; rfl
        rw [dc_s, hd] at nx
        rw [e0]
        refine ifP (by decide) (fun x hx => ?_)
        rw [nI_1] at hx; subst hx
        exact nx
      | true =>
        obtain ⟨c1, c2⟩ := ck_at hk hd
        have e0 : cho true S p d k = some (dc S p d k) := by unfold cho; rw [hd, decide_eq_true (show dc S p d k < 10 by omega), decide_eq_true hk]; rfl
        rw [dc_s, hd] at nx
        have nx' : wpX11_cureOf_105 Q k27 m (z + 54) v3 v5 v6 (nI n) (nI (wtI S p d n (dc S p d k + 1))) (nI (pcI n (dc S p d k + 1))) (lN (BI S p d n (dc S p d k + 1))) (nI (k + 1)) G := nx
        rw [e0]
        refine ifN (by rw [i_lt, nI_toInt (by omega), il0]; omega) (h.2.at 25 43 20 24 rfl rfl rfl (by omega) (by omega) vi ?_)
        rw [g25, e0]
        have eb := bit_1 (dc S p d k) (by omega) n (by omega)
        have ew : wtI S p d n (dc S p d k + 1) = if n.testBit (dc S p d k) then wtI S p d n (dc S p d k) + nv (sA S 10 (ck S p d (dc S p d k))) else wtI S p d n (dc S p d k) := rfl
        have ep : pcI n (dc S p d k + 1) = if n.testBit (dc S p d k) then pcI n (dc S p d k) + 1 else pcI n (dc S p d k) := rfl
        have eB : BI S p d n (dc S p d k + 1) = if n.testBit (dc S p d k) then BI S p d n (dc S p d k) ||| 2 ^ ck S p d (dc S p d k) else BI S p d n (dc S p d k) := rfl
        rw [ew, ep, eB, c1] at nx'
        have r10 := (hi.2.2.1 k hk).2.2.2.2.2.2.2.2.1
        refine ifE (fun cb => ?_) (fun cb x hx => ?_)
        · rw [eb.mp cb] at nx'
          refine h.2.at 10 10 20 24 rfl rfl rfl (by omega) (by omega) vi (fun x1 h1 x2 h2 x3 h3 x hx => ?_)
          rw [nI_clamp (by omega), h.I 10 k (by omega) (by omega) (by show k < 24; omega), nI_nv r10.1, nI_add] at h1
          rw [nI_1] at h2 hx
          rw [shL k (by omega), lN_or] at h3
          rw [h1, h2, h3, hx]
          exact nx'
        · rw [show n.testBit (dc S p d k) = false by cases q : n.testBit (dc S p d k) with | false => rfl | true => exact absurd (eb.mpr q) cb] at nx'
          rw [nI_1] at hx; subst hx
          exact nx'
theorem X11_cureOf {z : Nat} {G0 : Wd} {T S : St} {p d : Int32} {Q : Int64 → Wd → Prop} (h0 : mid z G0 T S) (hi : Inv S) (hp : rng p 0 7)
    (hQ : ∀ G', fxM (z + 54) frI rgJ frA G0 G' → Q (if decide (10 < dc S p d (sM S)) || (run (jstep S (boC (cho true S p d))) jstop jst0 (rgs S (opl S p d (sM S)))).1 then -9000000000000000004 else (match chs S p d (run (jstep S (boC (cho true S p d))) jstop jst0 (rgs S (opl S p d (sM S)))).2.2 (2 ^ dc S p d (sM S)) with | none => -9000000000000000005 | some b => lN (BI S p d b (dc S p d (sM S))))) G') : wpX11_cureOf (z + 54) p d G0 Q := by
  have hM := hi.1.1
  obtain ⟨hl, h24⟩ := opl_ok hi p d
  obtain ⟨r1, r2⟩ := rings_eq hi (boC (cho true S p d)) (opl S p d (sM S)) hl
  unfold wpX11_cureOf
  refine ⟨h0.K, X11_findRings (ch := true) h0 hi hp rfl (fun G1 f1 hx => ifP rfl ?_) (fun G1 f1 hs hC I1 hch e44 => ifN (fun e => n10 e) ?_)⟩
  · have fin := hQ G1 f1
    rw [if_pos] at fin
    · exact fin
    · rcases hx with w | w
      · rw [r1] at w; rw [w, Bool.or_true]
      · rw [decide_eq_true w.2]; rfl
  · have hC' := hC rfl
    have hs' := hs
    rw [r1] at hs'
    rw [r2 hs'] at I1
    have fin := hQ G1 f1
    have hle := dc_10 hC'
    rw [if_neg (by rw [hs', decide_eq_false (by omega)]; decide)] at fin
    have m1 := h0.fx f1 (by decide) (by decide) (by decide)
    obtain ⟨_, hf⟩ := I1.2 hs'
    generalize (run (jstep S (boC (cho true S p d))) jstop jst0 (rgs S (opl S p d (sM S)))).2.2 = f at hf fin
    have loop : ∀ (m n : Nat) (v3 : Int64) (v5 v6 : Int32), n ≤ 2 ^ dc S p d (sM S) → n + m = 2 ^ dc S p d (sM S) + 1 → v3 = (match chs S p d f n with | none => -9000000000000000005 | some b => lN (BI S p d b (dc S p d (sM S)))) → (∀ b, chs S p d f n = some b → v5 = nI (wtI S p d b (dc S p d (sM S))) ∧ v6 = nI (pcI b (dc S p d (sM S)))) → wpX11_cureOf_27 Q m (z + 54) v3 v5 v6 (nI n) G1 := by
      intro m
      induction m with
      | zero => intro n v3 v5 v6 le e; omega
      | succ m ih =>
        intro n v3 v5 v6 le e e3 h56
        unfold wpX11_cureOf_27
        rw [e44, sh11 _ (by omega)]
        refine ⟨m1.K, ifE (fun c => ?_) (fun c => ⟨1025, ?_⟩)⟩
        · rw [nI_leI (by omega) (by omega)] at c
          rw [show n = 2 ^ dc S p d (sM S) by omega] at e3
          rw [e3]; exact fin
        · rw [nI_leI (by omega) (by omega)] at c
          have hlt : n < 2 ^ dc S p d (sM S) := by omega
          refine M_cures m1 hf (by omega) ?_ 1025 0 1 (by omega) (by omega) (Or.inl ⟨rfl, fun q hq => absurd hq (Nat.not_lt_zero _)⟩)
          have stay : chq S p d f n (chs S p d f n) = false → wpX11_cureOf_224 Q (fun y0 y1 y2 y3 y4 y5 => wpX11_cureOf_27 Q m y0 y1 y2 y3 y4 y5) (z + 54) v3 v5 v6 (nI n) G1 := by
            intro hq x hx
            rw [nI_1] at hx; subst hx
            have es : chs S p d f (n + 1) = chs S p d f n := by rw [chs_s, hq]; rfl
            exact ih (n + 1) v3 v5 v6 (by omega) (by omega) (by rw [es]; exact e3) (by rw [es]; exact h56)
          have take : chq S p d f n (chs S p d f n) = true → wpX11_cureOf_213 Q (fun y0 y1 y2 y3 y4 y5 => wpX11_cureOf_27 Q m y0 y1 y2 y3 y4 y5) (z + 54) (nI n) (nI (wtI S p d n (dc S p d (sM S)))) (nI (pcI n (dc S p d (sM S)))) (lN (BI S p d n (dc S p d (sM S)))) G1 := by
            intro hq x hx
            rw [nI_1] at hx; subst hx
            have es : chs S p d f (n + 1) = some n := by rw [chs_s, hq]; rfl
            exact ih (n + 1) _ _ _ (by omega) (by omega) (by rw [es]) (fun b hb => by rw [es] at hb; have := Option.some.inj hb; rw [← this]; exact ⟨rfl, rfl⟩)
          unfold wpX11_cureOf_88
          cases hc : curB f n with
          | false => exact ifP rfl (stay (by unfold chq; rw [hc]; rfl))
          | true =>
            have w0 := M_weigh (p := p) (d := d) (Q := Q) (k27 := fun y0 y1 y2 y3 y4 y5 => wpX11_cureOf_27 Q m y0 y1 y2 y3 y4 y5) (v3 := v3) (v5 := v5) (v6 := v6) m1 hi hch hC' hlt ?_ (sM S + 1) 0 (by omega) (by omega)
            · exact ifN (by decide) ⟨sM S + 1, w0⟩
            · cases hb : chs S p d f n with
              | none =>
                rw [hb] at e3
                exact ifP e3 (take (by unfold chq; rw [hc, hb]; rfl))
              | some b =>
                have hbl := chs_lt n b hb
                rw [hb] at e3
                have e3' : v3 = lN (BI S p d b (dc S p d (sM S))) := e3
                obtain ⟨e5, e6⟩ := h56 b hb
                have wn := wtI_le hi (p := p) (d := d) n _ (Nat.le_refl (dc S p d (sM S)))
                have wb := wtI_le hi (p := p) (d := d) b _ (Nat.le_refl (dc S p d (sM S)))
                have pn := pcI_le n (dc S p d (sM S))
                have pb := pcI_le b (dc S p d (sM S))
                have Bn := BI_24 (S := S) (p := p) (d := d) hM n _ (Nat.le_refl (dc S p d (sM S)))
                have Bb := BI_24 (S := S) (p := p) (d := d) hM b _ (Nat.le_refl (dc S p d (sM S)))
                have mono := BI_le (S := S) (p := p) (d := d) hbl hlt
                have eq' : chq S p d f n (chs S p d f n) = chpr S p d n b := by unfold chq; rw [hc, hb]; rfl
                rw [e5, e6, e3']
                refine ifN (fun q => ?_) (ifE (fun c1 => take ?_) (fun c1 => ifE (fun c2 => ifE (fun c3 => take ?_) (fun c3 => ifE (fun c4 => ifN ?_ ?_) (fun c4 => ?_))) (fun c2 => ?_)))
                · rw [l_eq, lT (by omega)] at q
                  have : (-9000000000000000005 : Int64).toInt = -9000000000000000005 := rfl
                  omega
                · rw [i_lt, nI_toInt (by omega), nI_toInt (by omega)] at c1
                  rw [eq']; exact decide_eq_true (Or.inl (by omega))
                · rw [nI_eqI (by omega) (by omega)] at c2
                  rw [i_lt, nI_toInt (by omega), nI_toInt (by omega)] at c3
                  rw [eq']; exact decide_eq_true (Or.inr ⟨c2, by omega⟩)
                · rw [lN_ltI (by omega) (by omega)]; omega
                · rw [i_lt, nI_toInt (by omega), nI_toInt (by omega)] at c1 c3
                  rw [← e3', ← e5, ← e6]
                  exact stay (by rw [eq']; exact decide_eq_false (by omega))
                · rw [i_lt, nI_toInt (by omega), nI_toInt (by omega)] at c1 c3
                  rw [← e3', ← e5, ← e6]
                  exact stay (by rw [eq']; exact decide_eq_false (by omega))
                · rw [i_lt, nI_toInt (by omega), nI_toInt (by omega)] at c1
                  rw [nI_eqI (by omega) (by omega)] at c2
                  rw [← e3', ← e5, ← e6]
                  exact stay (by rw [eq']; exact decide_eq_false (by omega))
    exact ⟨2 ^ dc S p d (sM S) + 1, loop _ 0 _ _ _ (Nat.zero_le _) (Nat.zero_add _) rfl (fun b hb => by cases hb)⟩
