/-! ===== cure ===== -/
theorem C_worth {z n : Nat} {G : Wd} {S : St} {la lb : Nat → Nat} {p d : Int32} {Q : Int32 → Wd → Prop} (h : CR z G S la lb) (hi : Inv S) (hC : dc S p d (sM S) ≤ 10) (hn : n < 2 ^ dc S p d (sM S)) (e4 : gI G (z + 38) 4 = nI (dc S p d (sM S))) (hr : ∀ i, i < dc S p d (sM S) → gR G (z + 40) i = some (la (ck S p d i))) (hQ : Q (nI (wtI S p d n (dc S p d (sM S)))) G) : wpX4_worthOf (z + 38) (nI n) G Q := by
  have hle := dc_10 hC
  have loop : ∀ (m i : Nat), i ≤ dc S p d (sM S) → i + m = dc S p d (sM S) + 1 → wpX4_worthOf_4 Q m (z + 38) (nI n) (nI (wtI S p d n i)) (nI i) G := by
    intro m
    induction m with
    | zero => intro i le e; omega
    | succ m ih =>
      intro i le e
      unfold wpX4_worthOf_4
      rw [e4]
      refine ⟨h.1.K 38 (by omega), ifE (fun c => ?_) (fun c => ?_)⟩
      · rw [nI_leI (by omega) (by omega)] at c
        rw [show i = dc S p d (sM S) by omega]
        exact hQ
      · rw [nI_leI (by omega) (by omega)] at c
        have hlt : i < dc S p d (sM S) := by omega
        have hk := (ck_lt hlt).1
        obtain ⟨c1, _, _, c4, _⟩ := (h.2.2.2.2.1 _ hk).2
        have r10 := (hi.2.2.1 _ hk).2.2.2.2.2.2.2.2.1
        have eb := bit_1 i (by omega) n (by omega)
        have nx := ih (i + 1) (by omega) (by omega)
        have ew : wtI S p d n (i + 1) = if n.testBit i then wtI S p d n i + nv (sA S 10 (ck S p d i)) else wtI S p d n i := rfl
        rw [ew] at nx
        refine ⟨z + 40, h.1.R 38 3 40 (by decide), h.1.K 40 (by omega), by rw [h.1.N 40 (by omega)]; exact vp_in_nI (by show i < 10; omega) (by decide), la (ck S p d i), by rw [nI_clamp (by omega)]; exact hr i hlt, ifE (fun cb => ⟨c1, fun x1 h1 x hx => ?_⟩) (fun cb x hx => ?_)⟩
        · rw [eb.mp cb] at nx
          rw [c4 11 (by omega) (by omega), nI_nv r10.1, nI_add] at h1
          rw [nI_1] at hx
          rw [h1, hx]
          exact nx
        · rw [show n.testBit i = false by cases q : n.testBit i with | false => rfl | true => exact absurd (eb.mpr q) cb] at nx
          rw [nI_1] at hx; subst hx
          exact nx
  exact ⟨dc S p d (sM S) + 1, loop _ 0 (Nat.zero_le _) (Nat.zero_add _)⟩
theorem C_byNum {z n : Nat} {G : Wd} {S : St} {la lb : Nat → Nat} {p d : Int32} {Q : Int64 → Wd → Prop} (h : CR z G S la lb) (hi : Inv S) (hC : dc S p d (sM S) ≤ 10) (hn : n < 2 ^ dc S p d (sM S)) (e4 : gI G (z + 38) 4 = nI (dc S p d (sM S))) (hr : ∀ i, i < dc S p d (sM S) → gR G (z + 40) i = some (la (ck S p d i))) (hQ : Q (lN (BI S p d n (dc S p d (sM S)))) G) : wpX4_byNumbers (z + 38) (nI n) G Q := by
  have hM := hi.1.1
  have hle := dc_10 hC
  have loop : ∀ (m i : Nat), i ≤ dc S p d (sM S) → i + m = dc S p d (sM S) + 1 → wpX4_byNumbers_5 Q m (z + 38) (nI n) (lN (BI S p d n i)) (nI i) G := by
    intro m
    induction m with
    | zero => intro i le e; omega
    | succ m ih =>
      intro i le e
      unfold wpX4_byNumbers_5
      rw [e4]
      refine ⟨h.1.K 38 (by omega), ifE (fun c => ?_) (fun c => ?_)⟩
      · rw [nI_leI (by omega) (by omega)] at c
        rw [show i = dc S p d (sM S) by omega]
        exact hQ
      · rw [nI_leI (by omega) (by omega)] at c
        have hlt : i < dc S p d (sM S) := by omega
        have hk := (ck_lt hlt).1
        obtain ⟨c1, c2, _⟩ := (h.2.2.2.2.1 _ hk).2
        have eb := bit_1 i (by omega) n (by omega)
        have nx := ih (i + 1) (by omega) (by omega)
        have ew : BI S p d n (i + 1) = if n.testBit i then BI S p d n i ||| 2 ^ ck S p d i else BI S p d n i := rfl
        rw [ew] at nx
        refine ⟨z + 40, h.1.R 38 3 40 (by decide), h.1.K 40 (by omega), by rw [h.1.N 40 (by omega)]; exact vp_in_nI (by show i < 10; omega) (by decide), la (ck S p d i), by rw [nI_clamp (by omega)]; exact hr i hlt, ifE (fun cb => ⟨c1, fun x1 h1 x hx => ?_⟩) (fun cb x hx => ?_)⟩
        · rw [eb.mp cb] at nx
          rw [c2, shL _ (by omega), lN_or] at h1
          rw [nI_1] at hx
          rw [h1, hx]
          exact nx
        · rw [show n.testBit i = false by cases q : n.testBit i with | false => rfl | true => exact absurd (eb.mpr q) cb] at nx
          rw [nI_1] at hx; subst hx
          exact nx
  exact ⟨dc S p d (sM S) + 1, loop _ 0 (Nat.zero_le _) (Nat.zero_add _)⟩
theorem C_cheaper {z a b : Nat} {G : Wd} {S : St} {la lb : Nat → Nat} {p d : Int32} {Q : Int32 → Wd → Prop} (h : CR z G S la lb) (hi : Inv S) (hC : dc S p d (sM S) ≤ 10) (ha : a < 2 ^ dc S p d (sM S)) (hb : b < 2 ^ dc S p d (sM S)) (e4 : gI G (z + 38) 4 = nI (dc S p d (sM S))) (hr : ∀ i, i < dc S p d (sM S) → gR G (z + 40) i = some (la (ck S p d i))) (hQ : Q (if chpr S p d a b then 1 else 0) G) : wpX4_isCheaper (z + 38) (nI a) (nI b) G Q := by
  have hle := dc_10 hC
  have wa := wtI_le hi (p := p) (d := d) a _ (Nat.le_refl (dc S p d (sM S)))
  have wb := wtI_le hi (p := p) (d := d) b _ (Nat.le_refl (dc S p d (sM S)))
  have pa := pcI_le a (dc S p d (sM S))
  have pb := pcI_le b (dc S p d (sM S))
  have ea : bc (nI a) = nI (pcI a (dc S p d (sM S))) := by
    rw [bc_pc a (by omega), show (10 : Nat) = dc S p d (sM S) + (10 - dc S p d (sM S)) by omega, pcI_cut ha]
  have eb : bc (nI b) = nI (pcI b (dc S p d (sM S))) := by
    rw [bc_pc b (by omega), show (10 : Nat) = dc S p d (sM S) + (10 - dc S p d (sM S)) by omega, pcI_cut hb]
  unfold wpX4_isCheaper wpX4_isCheaper_36
  refine ⟨h.1.K 38 (by omega), C_worth h hi hC ha e4 hr ⟨h.1.K 38 (by omega), C_worth h hi hC hb e4 hr ?_⟩⟩
  have yes : (wtI S p d a (dc S p d (sM S)) < wtI S p d b (dc S p d (sM S)) ∨ wtI S p d a (dc S p d (sM S)) = wtI S p d b (dc S p d (sM S)) ∧ pcI a (dc S p d (sM S)) < pcI b (dc S p d (sM S))) → Q 1 G := fun w => by
    rw [show chpr S p d a b = true from decide_eq_true w] at hQ; exact hQ
  have no : ¬ (wtI S p d a (dc S p d (sM S)) < wtI S p d b (dc S p d (sM S)) ∨ wtI S p d a (dc S p d (sM S)) = wtI S p d b (dc S p d (sM S)) ∧ pcI a (dc S p d (sM S)) < pcI b (dc S p d (sM S))) → Q 0 G := fun w => by
    rw [show chpr S p d a b = false from decide_eq_false w] at hQ; exact hQ
  refine ifE (fun c => yes (Or.inl ?_)) (fun c => ifE (fun c2 => J6_bc (J6_bc ?_)) (fun c2 => no ?_))
  · rw [i_lt, nI_toInt (by omega), nI_toInt (by omega)] at c
    omega
  · rw [i_lt, nI_toInt (by omega), nI_toInt (by omega)] at c
    rw [nI_eqI (by omega) (by omega)] at c2
    rw [ea, eb]
    refine ifE (fun c3 => no ?_) (fun c3 => yes (Or.inr ⟨c2, ?_⟩))
    · rw [nI_leI (by omega) (by omega)] at c3; omega
    · rw [nI_leI (by omega) (by omega)] at c3; omega
  · rw [i_lt, nI_toInt (by omega), nI_toInt (by omega)] at c
    rw [nI_eqI (by omega) (by omega)] at c2
    omega
theorem X4_cheapest {z : Nat} {G0 : Wd} {S : St} {la lb : Nat → Nat} {p d : Int32} {f : Nat → Bool} {Q : Int64 → Wd → Prop} (h0 : CR z G0 S la lb) (hi : Inv S) (hC : dc S p d (sM S) ≤ 10) (e4 : gI G0 (z + 38) 4 = nI (dc S p d (sM S))) (hr : ∀ i, i < dc S p d (sM S) → gR G0 (z + 40) i = some (la (ck S p d i))) (hf : ∀ n, n < 2 ^ dc S p d (sM S) → (gI G0 (z + 42) n = 0 ↔ f n = false)) (hs : ∀ q, f q = true → q < 2 ^ dc S p d (sM S))
    (hQ : ∀ G', chg (fun b => b = z + 42) (fun _ => False) G0 G' → Q (match chs S p d f (2 ^ dc S p d (sM S)) with | none => -9000000000000000005 | some b => lN (BI S p d b (dc S p d (sM S)))) G') : wpX4_cheapest (z + 38) G0 Q := by
  have hle := dc_10 hC
  have hpos : 0 < 2 ^ dc S p d (sM S) := Nat.pow_pos (by omega)
  unfold wpX4_cheapest
  refine ⟨h0.1.K 38 (by omega), X4_spread h0 hC e4 hf (fun G g fr hg hcl => ?_)⟩
  have h := h0.dst (fr.mono (fun b q => by omega) (fun _ q => q))
  have i4 : gI G (z + 38) 4 = nI (dc S p d (sM S)) := by rw [fr.I (by omega)]; exact e4
  have ir : ∀ i, i < dc S p d (sM S) → gR G (z + 40) i = some (la (ck S p d i)) := fun i hi' => by rw [fr.Rf (fun q => q)]; exact hr i hi'
  have fin := hQ G fr
  refine ⟨h.1.K 38 (by omega), fun x hx => ⟨2 ^ dc S p d (sM S) + 1, ?_⟩⟩
  rw [i4, sh11 _ (by omega), nIs1 hpos] at hx
  subst hx
  have loop : ∀ (m n : Nat) (v2 : Int32), n ≤ 2 ^ dc S p d (sM S) → n + m = 2 ^ dc S p d (sM S) + 1 → v2 = (match chs S p d f n with | none => -1 | some b => nI b) → wpX4_cheapest_17 Q m (z + 38) (nI (2 ^ dc S p d (sM S) - 1)) v2 (nI n) G := by
    intro m
    induction m with
    | zero => intro n v2 le e; omega
    | succ m ih =>
      intro n v2 le e e2
      unfold wpX4_cheapest_17
      refine ifE (fun c => ?_) (fun c => ⟨h.1.K 38 (by omega), z + 42, h.1.R 38 6 42 (by decide), h.1.K 42 (by omega), ?_⟩)
      · rw [i_lt, nI_toInt (by omega), nI_toInt (by omega)] at c
        have en : n = 2 ^ dc S p d (sM S) := by omega
        rw [en] at e2
        cases hb : chs S p d f (2 ^ dc S p d (sM S)) with
        | none =>
          rw [hb] at e2 fin
          exact ifN (by rw [e2]; decide) fin
        | some b =>
          rw [hb] at e2 fin
          have hbl := chs_lt _ b hb
          have e2' : v2 = nI b := e2
          rw [e2']
          exact ifP (by rw [i_le, nI_toInt (by omega), il0]; omega) ⟨h.1.K 38 (by omega), C_byNum h hi hC hbl i4 ir fin⟩
      · rw [i_lt, nI_toInt (by omega), nI_toInt (by omega)] at c
        have hlt : n < 2 ^ dc S p d (sM S) := by omega
        have hx : (2 ^ dc S p d (sM S) - 1) ^^^ n < 2 ^ dc S p d (sM S) := Nat.xor_lt_two_pow (by omega) hlt
        rw [nI_xor, nI_clamp (show (2 ^ dc S p d (sM S) - 1) ^^^ n < 2 ^ 31 by omega)]
        refine ⟨by rw [h.1.N 42 (by omega)]; exact vp_in_nI (by show _ < 1024; omega) (by decide), ?_⟩
        have ecur : gI G (z + 42) ((2 ^ dc S p d (sM S) - 1) ^^^ n) = 0 ↔ curB f n = true := by
          rw [hg _ hx, cur_clo hC hlt hs, ← hcl _ hx]
          cases g ((2 ^ dc S p d (sM S) - 1) ^^^ n) <;> simp
        have stay : chq S p d f n (chs S p d f n) = false → wpX4_cheapest_48 Q (fun y0 y1 y2 y3 y4 => wpX4_cheapest_17 Q m y0 y1 y2 y3 y4) (z + 38) (nI (2 ^ dc S p d (sM S) - 1)) v2 (nI n) G := by
          intro hq x hx
          rw [nI_1] at hx; subst hx
          have es : chs S p d f (n + 1) = chs S p d f n := by rw [chs_s, hq]; rfl
          exact ih (n + 1) v2 (by omega) (by omega) (by rw [es]; exact e2)
        have take : chq S p d f n (chs S p d f n) = true → wpX4_cheapest_46 Q (fun y0 y1 y2 y3 y4 => wpX4_cheapest_17 Q m y0 y1 y2 y3 y4) (z + 38) (nI (2 ^ dc S p d (sM S) - 1)) (nI n) G := by
          intro hq x hx
          rw [nI_1] at hx; subst hx
          have es : chs S p d f (n + 1) = some n := by rw [chs_s, hq]; rfl
          exact ih (n + 1) _ (by omega) (by omega) (by rw [es])
        refine ifE (fun c0 => ?_) (fun c0 => stay ?_)
        · have hc := ecur.mp c0
          cases hb : chs S p d f n with
          | none =>
            rw [hb] at e2
            exact ifP (by rw [e2]; decide) (take (by unfold chq; rw [hc, hb]; rfl))
          | some b =>
            rw [hb] at e2
            have e2' : v2 = nI b := e2
            have hbl := chs_lt n b hb
            have eq' : chq S p d f n (chs S p d f n) = chpr S p d n b := by unfold chq; rw [hc, hb]; rfl
            refine ifN (by rw [e2', i_lt, nI_toInt (by omega), il0]; omega) ?_
            have key := C_cheaper (Q := fun r10 G11 => if r10 = 0 then (wpX4_cheapest_48 Q (fun y0 y1 y2 y3 y4 => wpX4_cheapest_17 Q m y0 y1 y2 y3 y4) (z + 38) (nI (2 ^ dc S p d (sM S) - 1)) v2 (nI n) G11) else (wpX4_cheapest_46 Q (fun y0 y1 y2 y3 y4 => wpX4_cheapest_17 Q m y0 y1 y2 y3 y4) (z + 38) (nI (2 ^ dc S p d (sM S) - 1)) (nI n) G11)) (a := n) (b := b) h hi hC hlt (by omega) i4 ir ?_
            · rw [← e2'] at key
              exact key
            · cases cp : chpr S p d n b with
              | true => exact ifN (by decide) (take (by rw [eq']; exact cp))
              | false => exact ifP rfl (stay (by rw [eq']; exact cp))
        · have : curB f n = false := by cases q : curB f n with | false => rfl | true => exact absurd (ecur.mpr q) c0
          unfold chq
          rw [this]; rfl
  exact loop _ 0 _ (Nat.zero_le _) (Nat.zero_add _) rfl
theorem jfin_small {S : St} (hi : Inv S) {v : Int32} (hs : (jfin true S v).1 = false) : ∀ q, (jfin true S v).2.2 q = true → q < 2 ^ dc S (v / 10000) (v % 10000) (sM S) := by
  intro q hq
  have nb : ∀ r ∈ rgs S (opq S v), badB S r = false := fun r hr => by
    cases w : badB S r with
    | false => rfl
    | true =>
      have := (run_bad (K := bstep) (S := S) (bo := boQ true S v) (rgs S (opq S v)) jst0 rfl).mpr ⟨r, hr, w⟩
      have hs' : (run (gst bstep S (boQ true S v)) jstop jst0 (rgs S (opq S v))).1 = false := hs
      rw [this] at hs'; cases hs'
  have e : jfin true S v = run (gst bstep S (boQ true S v)) jstop jst0 (rgs S (opq S v)) := rfl
  rw [e, run_ok (rgs S (opq S v)) jst0 rfl nb] at hq
  have hq' : (false || ((rgs S (opq S v)).filter (qr S)).any (fun r => q == msk (boQ true S v) r)) = true := hq
  rw [Bool.false_or, List.any_eq_true] at hq'
  obtain ⟨r, _, he⟩ := hq'
  have he' : q = msk (boQ true S v) r := by simpa using he
  rw [he']
  refine msk_lt (fun k => ?_) r 0 (Nat.pow_pos (by omega))
  unfold boQ boC
  cases ec : cho true S (v / 10000) (v % 10000) k with
  | none => exact Nat.pow_pos (by omega)
  | some i =>
    obtain ⟨x1, x2, x3⟩ := cho_some ec
    have := (ck_at x1 x2).2
    show 2 ^ i < 2 ^ dc S (v / 10000) (v % 10000) (sM S)
    exact Nat.pow_lt_pow_right (by omega) (by omega)
def cur (S : St) (v : Int32) : Int64 := if decide (10 < dc S (v / 10000) (v % 10000) (sM S)) || (jfin true S v).1 then -9000000000000000004 else (match chs S (v / 10000) (v % 10000) (jfin true S v).2.2 (2 ^ dc S (v / 10000) (v % 10000) (sM S)) with | none => -9000000000000000005 | some b => lN (BI S (v / 10000) (v % 10000) b (dc S (v / 10000) (v % 10000) (sM S))))
theorem X10_findCure {z : Nat} {G : Wd} {S T : St} {la lb : Nat → Nat} {v : Int32} {Q : Int64 → Wd → Prop} (hc : CR z G S la lb) (hm : MR (z + 54) G T) (hi : Inv S) (b : rng v 0 79999) (hQ : ∀ G', CR z G' S la lb → MR (z + 54) G' T → Q (cur S v) G') : wpX10_findCure z v G Q := by
  obtain ⟨hl, h24⟩ := opl_ok hi (v / 10000) (v % 10000)
  unfold wpX10_findCure
  refine ⟨hc.K, X10_gather hc hi b (fun G1 f1 c1 o1 => ⟨c1.K, z + 38, c1.1.R 0 10 38 (by decide), c1.1.K 38 (by omega), X4_begin c1 (fun G2 f2 b1 b2 b4 bb => ?_)⟩)⟩
  have c2 := c1.dst (f2.mono (fun b q => by omega) (fun _ q => q))
  have o2 : opnd z G2 la (opq S v) := ⟨by rw [f2.I (by omega)]; exact o1.1, fun j hj => by rw [f2.Rf (fun q => q)]; exact o1.2 j hj⟩
  have fr2 : chg (fun b => z + 5 ≤ b ∧ b ≤ z + 45) (fun b => b = z + 6 ∨ b = z + 40) G G2 := (f1.mono (fun b q => by omega) (fun _ q => Or.inl q)).tr (f2.mono (fun b q => by omega) (fun _ q => absurd q id))
  have mr : ∀ G', chg (fun b => z + 5 ≤ b ∧ b ≤ z + 45) (fun b => b = z + 6 ∨ b = z + 40) G G' → MR (z + 54) G' T := fun G' f' => hm.chg f' (fun o ho => ⟨by omega, by omega⟩)
  refine ⟨c2.K, z + 38, c2.1.R 0 10 38 (by decide), z + 5, c2.1.R 0 6 5 (by decide), c2.1.K 38 (by omega), ?_⟩
  refine X4_choose (p := v / 10000) (d := v % 10000) c2 hi o2 b1 b2 b4 bb (fun hC G3 f3 => ifP rfl ?_) (fun hC G3 f3 I3 ar => ifN (fun e => n10 e) ?_)
  · have fr3 := fr2.tr (f3.mono (fun b q => by omega) (fun _ q => Or.inr q))
    have := hQ G3 (c2.cho f3) (mr G3 fr3)
    unfold cur at this
    rw [if_pos (by rw [decide_eq_true hC]; rfl)] at this
    exact this
  · have fr3 := fr2.tr (f3.mono (P' := fun b => z + 5 ≤ b ∧ b ≤ z + 45) (R' := fun b => b = z + 6 ∨ b = z + 40) (fun b q => by omega) (fun _ q => Or.inr q))
    have c3 := c2.cho f3
    have o3 : opnd z G3 la (opq S v) := ⟨by rw [f3.I (by omega)]; exact o2.1, fun j hj => by rw [f3.Rf (by omega)]; exact o2.2 j hj⟩
    refine ⟨c3.K, z + 5, c3.1.R 0 6 5 (by decide), z + 38, c3.1.R 0 10 38 (by decide), c3.1.K 5 (by omega), ?_⟩
    refine X9_seekRings c3 hi o3 hl h24 (boC_lt (cho_10 _ _ _ _)) rfl I3 (fun G4 f4 I4 => ?_)
    have fr4 := fr3.tr (f4.mono (P' := fun b => z + 5 ≤ b ∧ b ≤ z + 45) (R' := fun b => b = z + 6 ∨ b = z + 40) (fun b q => by omega) (fun _ q => absurd q id))
    have c4 := c3.dst f4
    have I4' : jI z (boQ true S v) (dc S (v / 10000) (v % 10000) (sM S)) (2 ^ dc S (v / 10000) (v % 10000) (sM S)) (jfin true S v) G4 := I4
    obtain ⟨a1, _, a3, _, a5⟩ := I4'
    refine ⟨c4.K, z + 38, c4.1.R 0 10 38 (by decide), c4.1.K 38 (by omega), ?_⟩
    rw [a1]
    cases es : (jfin true S v).1 with
    | true =>
      refine ifN (by decide) ?_
      have := hQ G4 c4 (mr G4 fr4)
      unfold cur at this
      rw [if_pos (by rw [es, Bool.or_true])] at this
      exact this
    | false =>
      refine ifP rfl ⟨z + 38, c4.1.R 0 10 38 (by decide), c4.1.K 38 (by omega), ?_⟩
      refine X4_cheapest (p := v / 10000) (d := v % 10000) (f := (jfin true S v).2.2) c4 hi hC a5 (fun i hi' => by rw [f4.Rf (fun q => q)]; exact ar i hi') a3 (jfin_small hi es) (fun G5 f5 => ?_)
      have fr5 := fr4.tr (f5.mono (P' := fun b => z + 5 ≤ b ∧ b ≤ z + 45) (R' := fun b => b = z + 6 ∨ b = z + 40) (fun b q => by omega) (fun _ q => absurd q id))
      have := hQ G5 (c4.dst (f5.mono (fun b q => by omega) (fun _ q => q))) (mr G5 fr5)
      unfold cur at this
      rw [if_neg (by rw [es, decide_eq_false (by omega)]; decide)] at this
      exact this
def oCure (S : St) (v : Int32) : Int64 := if rng v 0 79999 then cur S v else -9000000000000000001
theorem C_cure {z : Nat} {G : Wd} {S T : St} {v : Int32} {Q : Int64 → Wd → Prop} (h : mid z G S T) (hi : Inv S) (hQ : ∀ G', mid z G' S T → Q (oCure S v) G') : wpX10_cure z v G Q := by
  unfold oCure at hQ
  have hb : ¬ rng v 0 79999 → Q (-9000000000000000001) G := fun n => by have := hQ G h; rw [if_neg n] at this; exact this
  obtain ⟨⟨la, lb, hc⟩, hm⟩ := h
  unfold wpX10_cure
  refine X10_isPlaceAndDay (fun b => ifN (fun e => n10 e) ⟨hc.K, ?_⟩) (fun b => ifP rfl (hb b))
  rw [if_pos b] at hQ
  exact X10_findCure hc hm hi b (fun G' c' m' => hQ G' ⟨⟨la, lb, c'⟩, m'⟩)
theorem M_cure {z : Nat} {G : Wd} {S T : St} {v : Int32} {Q : Int64 → Wd → Prop} (h : mid z G T S) (hi : Inv S) (hQ : ∀ G', mid z G' T S → Q (oCure S v) G') : wpX11_cure (z + 54) v G Q := by
  unfold oCure at hQ
  have hb : ¬ rng v 0 79999 → Q (-9000000000000000001) G := fun n => by have := hQ G h; rw [if_neg n] at this; exact this
  unfold wpX11_cure
  refine X11_isTime (fun b => ifN (fun e => n10 e) ⟨h.K, ?_⟩) (fun b => ifP rfl (hb b))
  rw [if_pos b] at hQ
  exact X11_cureOf h hi (pd_rng b).1 (fun G' f' => hQ G' (h.fx f' (by decide) (by decide) (by decide)))
theorem ok_cure : ok1 wpX10_cure wpX11_cure := ⟨fun S v => (oCure S v, S), fun _ _ _ _ _ _ h hi hQ => C_cure h hi hQ, fun _ _ _ _ _ _ h hi hQ => M_cure h hi hQ, fun _ _ hi => hi⟩
