/-! ===== rings: the reference ===== -/
def mkeep (m : Option (List Nat)) (r : List Nat) : Option (List Nat) := match m with
  | none => some r
  | some k => if k.length = r.length then (if lexB r k then some r else some k) else some k
def mstep (S : St) (bo : Nat → Nat) (s : Jst) (r : List Nat) : Jst := if badB S r then (true, s.2.1, s.2.2) else if qr S r then (s.1, mkeep s.2.1 r, fun n => s.2.2 n || n == msk bo r) else s
def mI (z : Nat) (s : Jst) (G : Wd) : Prop := gI G (z + 54) 22 = (if s.1 then 1 else 0) ∧ (s.1 = false → (match s.2.1 with
  | none => gI G (z + 54) 41 = 0
  | some r => gI G (z + 54) 41 = 1 ∧ gI G (z + 54) 33 = nI r.length ∧ cel G (z + 54 + 23) r ∧ 0 < r.length ∧ r.length ≤ 10 ∧ ∀ x ∈ r, x < 200) ∧ ∀ n, n < 1024 → (gI G (z + 54 + 24) n = 0 ↔ s.2.2 n = false))
def chc (z : Nat) (S : St) (cho : Nat → Option Nat) (G : Wd) : Prop := ∀ k, k < sM S → gI G (z + 54 + 25) k = (match cho k with | none => -1 | some i => nI i)
def boC (cho : Nat → Option Nat) (k : Nat) : Nat := match cho k with
  | none => 0
  | some i => 2 ^ i
theorem boC_lt {cho : Nat → Option Nat} (h : ∀ k i, cho k = some i → i < 10) (k : Nat) : boC cho k < 1024 := by
  unfold boC
  cases e : cho k with
  | none => show 0 < 1024; omega
  | some i => show 2 ^ i < 2 ^ 10; exact Nat.pow_lt_pow_right (by omega) (h k i e)
theorem mI.keep {z : Nat} {s : Jst} {G G' : Wd} {SI SJ AR : List Nat} (h : mI z s G) (f : fxM (z + 54) SI SJ AR G G') (h1 : 22 ∉ SI) (h2 : 41 ∉ SI) (h3 : 33 ∉ SI) (h4 : 23 ∉ AR) (h5 : 24 ∉ AR) : mI z s G' := by
  obtain ⟨a1, a2⟩ := h
  refine ⟨by rw [f.I 22 h1]; exact a1, fun q => ?_⟩
  obtain ⟨b1, b2⟩ := a2 q
  refine ⟨?_, fun n hn => by rw [f.AI 24 n (by omega) h5]; exact b2 n hn⟩
  cases hm : s.2.1 with
  | none => rw [hm] at b1; show gI G' (z + 54) 41 = 0; rw [f.I 41 h2]; exact b1
  | some r =>
    rw [hm] at b1
    obtain ⟨c1, c2, c3, c4⟩ := b1
    exact ⟨by rw [f.I 41 h2]; exact c1, by rw [f.I 33 h3]; exact c2, c3.same (fun j => f.AI 23 j (by omega) h4), c4⟩
theorem M_ahead {z len : Nat} {G : Wd} {T S : St} {pre k : List Nat} {Q : Int32 → Wd → Prop} (h : mid z G T S) (hp : cel G (z + 54 + 22) pre) (hk : cel G (z + 54 + 23) k) (e29 : gI G (z + 54) 29 = nI len) (l1 : pre.length = len) (l2 : k.length = len) (h1 : 1 ≤ len) (h10 : len ≤ 10) (hr : ∀ x ∈ pre, x < 200) (hkr : ∀ x ∈ k, x < 200) (hQ : Q (if lexB pre k then 1 else 0) G) : wpX11_isAhead (z + 54) G Q := by
  have mod : ∀ x, x < 200 → nI x % 100 = nI (x % 100) := fun x hx => nI_mod (a := x) (d := 100) (by omega) (by omega)
  have loop : ∀ (n i : Nat), i < len → i + n = len → lexB pre k = lexB (pre.drop i) (k.drop i) → wpX11_isAhead_2 Q n (z + 54) (nI i) G := by
    intro n
    induction n with
    | zero => intro i le e; omega
    | succ n ih =>
      intro i lt e he
      have p1 : i < pre.length := by omega
      have p2 : i < k.length := by omega
      have x1 := hr _ (getD_mem p1)
      have x2 := hkr _ (getD_mem p2)
      have d1 : pre.drop i = pre.getD i 0 :: pre.drop (i + 1) := by
        rw [List.drop_eq_getElem_cons p1]; simp [List.getD, List.getElem?_eq_getElem p1]
      have d2 : k.drop i = k.getD i 0 :: k.drop (i + 1) := by
        rw [List.drop_eq_getElem_cons p2]; simp [List.getD, List.getElem?_eq_getElem p2]
      rw [d1, d2] at he
      have vi : vp_in (nI i) 25 := vp_in_nI (by omega) (by decide)
      have g1 : gI G (z + 54 + 22) (nI i).toNatClampNeg % 100 = nI (pre.getD i 0 % 100) := by rw [nI_clamp (by omega), hp i p1, mod _ x1]
      have g2 : gI G (z + 54 + 23) (nI i).toNatClampNeg % 100 = nI (k.getD i 0 % 100) := by rw [nI_clamp (by omega), hk i p2, mod _ x2]
      have fin : (pre.getD i 0 % 100 ≠ k.getD i 0 % 100 ∨ i + 1 = len) → wpX11_isAhead_39 Q (z + 54) (nI i) G := by
        intro hh
        have ev : lexB pre k = decide (pre.getD i 0 % 100 < k.getD i 0 % 100) := by
          rw [he]
          show (if _ = _ then lexB (pre.drop (i + 1)) (k.drop (i + 1)) else _) = _
          by_cases q : pre.getD i 0 % 100 = k.getD i 0 % 100
          · rw [if_pos q]
            have e1 : i + 1 = len := by rcases hh with w | w; exact absurd q w; exact w
            rw [List.drop_eq_nil_of_le (as := pre) (by omega), List.drop_eq_nil_of_le (as := k) (by omega)]
            exact (decide_eq_false (by omega)).symm
          · rw [if_neg q]
        unfold wpX11_isAhead_39
        refine ⟨h.K, h.2.at 22 28 20 25 rfl rfl rfl (by omega) (by omega) vi ?_⟩
        refine h.2.at 23 32 20 25 rfl rfl rfl (by omega) (by omega) vi ?_
        rw [ev] at hQ
        rw [g1, g2]
        refine ifE (fun c => ?_) (fun c => ?_)
        · rw [nI_leI (by omega) (by omega)] at c
          rw [decide_eq_false (by omega)] at hQ; exact hQ
        · rw [nI_leI (by omega) (by omega)] at c
          rw [decide_eq_true (by omega)] at hQ; exact hQ
      unfold wpX11_isAhead_2
      rw [e29, nIs1 (by omega)]
      refine ⟨h.K, ifE (fun c => ?_) (fun c => ?_)⟩
      · rw [nI_leI (by omega) (by omega)] at c
        exact fin (Or.inr (by omega))
      · rw [nI_leI (by omega) (by omega)] at c
        refine h.2.at 22 28 20 25 rfl rfl rfl (by omega) (by omega) vi ?_
        refine h.2.at 23 32 20 25 rfl rfl rfl (by omega) (by omega) vi ?_
        rw [g1, g2]
        refine ifE (fun c1 y hy => ?_) (fun c1 => ?_)
        · rw [nI_eqI (by omega) (by omega)] at c1
          rw [nI_1] at hy; subst hy
          refine ih (i + 1) (by omega) (by omega) ?_
          rw [he]
          show (if _ = _ then _ else _) = _
          rw [if_pos c1]
        · rw [nI_eqI (by omega) (by omega)] at c1
          exact fin (Or.inl c1)
  exact ⟨len, loop len 0 (by omega) (by omega) rfl⟩
theorem M_bits {z len : Nat} {G : Wd} {T S : St} {pre : List Nat} {cho : Nat → Option Nat} {Q : Wd → Prop} (h : mid z G T S) (hi : Inv S) (hp : cel G (z + 54 + 22) pre) (e29 : gI G (z + 54) 29 = nI len) (l1 : pre.length = len) (h10 : len ≤ 10) (hr : rok (sM S) pre) (hch : chc z S cho G) (hc10 : ∀ k i, cho k = some i → i < 10) (hQ : Q (uI G (z + 54 + 24) (msk (boC cho) pre) 1)) : wpX11_ring_120 Q (z + 54) G := by
  have hM := hi.1.1
  have hmk : msk (boC cho) pre < 1024 := msk_lt (n := 10) (boC_lt hc10) pre 0 (by decide)
  have loop : ∀ (n i : Nat), i ≤ len → i + n = len + 1 → wpX11_ring_126 Q n (z + 54) (nI (msk (boC cho) (pre.take i))) (nI i) G := by
    intro n
    induction n with
    | zero => intro i le e; omega
    | succ n ih =>
      intro i le e
      unfold wpX11_ring_126
      rw [e29]
      refine ⟨h.K, ifE (fun c => ?_) (fun c => ?_)⟩
      · rw [nI_leI (by omega) (by omega)] at c
        rw [List.take_of_length_le (by omega)]
        refine h.2.at 24 42 22 1024 rfl rfl rfl (by omega) (by omega) (vp_in_nI hmk (by decide)) (fun G8 e8 => ?_)
        rw [e8, nI_clamp (by omega)]
        exact hQ
      · rw [nI_leI (by omega) (by omega)] at c
        have hlt : i < pre.length := by omega
        obtain ⟨x1, x2⟩ := hr _ (getD_mem hlt)
        obtain ⟨k25, l25, r25⟩ := h.2.1.2 25 (by omega) (by omega)
        obtain ⟨k22, l22, r22⟩ := h.2.1.2 22 (by omega) (by omega)
        have vi : vp_in (nI i) (gN G (z + 54 + 22)) := by rw [l22]; exact vp_in_nI (by show i < 25; omega) (by decide)
        have g1 : gI G (z + 54 + 22) (nI i).toNatClampNeg % 100 = nI (pre.getD i 0 % 100) := by rw [nI_clamp (by omega), hp i hlt]; exact nI_mod (a := pre.getD i 0) (d := 100) (by omega) (by omega)
        have g2 : gI G (z + 54 + 25) (nI (pre.getD i 0 % 100)).toNatClampNeg = (match cho (pre.getD i 0 % 100) with | none => -1 | some i => nI i) := by rw [nI_clamp (by omega)]; exact hch _ x1
        have vk : vp_in (nI (pre.getD i 0 % 100)) (gN G (z + 54 + 25)) := by rw [l25]; exact vp_in_nI (by show _ < 24; omega) (by decide)
        have et : pre.take (i + 1) = pre.take i ++ [pre.getD i 0] := by
          rw [List.take_add_one]
          simp [List.getD, List.getElem?_eq_getElem hlt]
        have nx := ih (i + 1) (by omega) (by omega)
        rw [et, msk_snoc] at nx
        refine ⟨z + 54 + 25, r25, z + 54 + 22, r22, k22, vi, k25, by rw [g1]; exact vk, ?_⟩
        rw [g1, g2]
        cases ec : cho (pre.getD i 0 % 100) with
        | none =>
          refine ifP (by decide) (fun y1 hy1 y2 hy2 => ?_)
          rw [nI_1] at hy2
          have e0 : boC cho (pre.getD i 0 % 100) = 0 := by unfold boC; rw [ec]
          rw [e0] at nx
          rw [hy1, hy2, show (0 : Int32) = nI 0 from rfl, nI_or]
          exact nx
        | some q =>
          have q10 := hc10 _ _ ec
          refine ifN (by rw [i_lt, nI_toInt (by omega), il0]; omega) ⟨z + 54 + 25, r25, z + 54 + 22, r22, k22, vi, k25, by rw [g1]; exact vk, fun y1 hy1 y2 hy2 => ?_⟩
          rw [nI_1] at hy2
          have e0 : boC cho (pre.getD i 0 % 100) = 2 ^ q := by unfold boC; rw [ec]
          rw [e0] at nx
          rw [g1, g2, ec, sh10 q q10, nI_or] at hy1
          rw [hy1, hy2]
          exact nx
  exact ⟨len + 1, loop (len + 1) 0 (by omega) (by omega)⟩
abbrev rgI : List Nat := [22, 33, 41]
abbrev rgJ : List Nat := [20, 21]
theorem ring_visit {z len : Nat} {G : Wd} {T S : St} {pre : List Nat} {cho : Nat → Option Nat} {s : Jst} {Q : Wd → Prop} (h : mid z G T S) (hi : Inv S) (hp : cel G (z + 54 + 22) pre) (e29 : gI G (z + 54) 29 = nI len) (l1 : pre.length = len) (h1 : 1 ≤ len) (h10 : len ≤ 10) (hr : rok (sM S) pre) (hch : chc z S cho G) (hc10 : ∀ k i, cho k = some i → i < 10) (hI : mI z s G)
    (hQ : ∀ G', fxM (z + 54) rgI rgJ [23, 24] G G' → mI z (run (mstep S (boC cho)) jstop s [pre]) G' → Q G') : wpX11_ring (z + 54) G Q := by
  obtain ⟨a1, a2⟩ := hI
  have er : run (mstep S (boC cho)) jstop s [pre] = if s.1 then s else mstep S (boC cho) s pre := rfl
  rw [er] at hQ
  obtain ⟨k22, l22, r22⟩ := h.2.1.2 22 (by omega) (by omega)
  -- LARGE in the end
  have large : ∀ G2, fxM (z + 54) [22] rgJ [] G G2 → gI G2 (z + 54) 22 = 1 → (s.1 = true ∨ badB S pre = true) → Q G2 := by
    intro G2 f2 e2 hh
    refine hQ G2 (f2.mono (by decide) (fun _ q => q) (fun _ q => nomatch q)) ?_
    cases c : s.1 with
    | true =>
      show mI z s G2
      exact ⟨by rw [e2, c]; rfl, fun q => by rw [c] at q; cases q⟩
    | false =>
      have hb : badB S pre = true := by
        rcases hh with w | w
        · rw [c] at w; cases w
        · exact w
      have ej : mstep S (boC cho) s pre = (true, s.2.1, s.2.2) := by unfold mstep; rw [hb]; rfl
      show mI z (mstep S (boC cho) s pre) G2
      rw [ej]
      exact ⟨e2, fun q => by cases q⟩
  unfold wpX11_ring
  refine ⟨h.K, z + 54 + 22, r22, ?_⟩
  have second : ∀ G1, fxM (z + 54) [22] rgJ [] G G1 → (gI G1 (z + 54) 22 = 1 ∧ (s.1 = true ∨ badB S pre = true) ∨ gI G1 (z + 54) 22 = 0 ∧ s.1 = false ∧ ∃ u, plr S false pre = some u ∧ gJ G1 (z + 54) 20 = u.1 ∧ gJ G1 (z + 54) 21 = u.2) → (gK G1 (z + 54) = 11 ∧ ∀ x46 : Int64, x46 = gJ G1 (z + 54) 20 → ∀ x47 : Int64, x47 = gJ G1 (z + 54) 21 → ∃ b48, gR G1 (z + 54) 28 = some b48 ∧ wpX11_product (z + 54) b48 (gI G1 (z + 54) 29) 1 G1 (fun G51 => gK G51 (z + 54) = 11 ∧ if (gI G51 (z + 54) 22) = 0 then (if x47 < x46 then (if (gI G51 (z + 54) 41) = 0 then (wpX11_ring_75 Q (z + 54) G51) else (if (gI G51 (z + 54) 33) = (gI G51 (z + 54) 29) then (wpX11_isAhead (z + 54) G51 (fun r53 G54 => if r53 = 0 then (wpX11_ring_120 Q (z + 54) G54) else (wpX11_ring_75 Q (z + 54) G54))) else (wpX11_ring_120 Q (z + 54) G51))) else (Q G51)) else (Q G51))) := by
    intro G1 f1 hE
    have m1 := h.fx f1 (by decide) (by decide) (fun o q => nomatch q)
    refine ⟨m1.K, fun x hx y hy => ⟨z + 54 + 22, by rw [f1.R]; exact r22, ?_⟩⟩
    have c1 : cel G1 (z + 54 + 22) pre := hp.same (fun j => f1.AI 22 j (by omega) (fun q => nomatch q))
    have e291 : gI G1 (z + 54) 29 = nI pre.length := by rw [f1.I 29 (by decide), e29, l1]
    refine X11_productR (e := true) m1 hi (Or.inl rfl) (by omega) c1 hr e291 rfl (fun q G2 f2 => ?_) (fun q v hv G2 f2 j20 j21 => ?_) (fun q hv G2 f2 i2 => ?_) ?_
    · have f2' := f1.up f2 (fun _ q => nomatch q) (fun _ q => q) (fun _ q => nomatch q)
      have e2 : gI G2 (z + 54) 22 = 1 := by rw [f2.I 22 (fun q => nomatch q)]; exact q
      refine ⟨by rw [f2'.K]; exact h.K, ifN (by rw [e2]; decide) (large G2 f2' e2 ?_)⟩
      rcases hE with w | w
      · exact w.2
      · rw [w.1] at q; exact absurd q (by decide)
    · rcases hE with w | ⟨w1, w2, u, hu, j1, j2⟩
      · rw [w.1] at q; exact absurd q (by decide)
      · have f2' := f1.up f2 (fun _ q => nomatch q) (fun _ q => q) (fun _ q => nomatch q)
        have e2 : gI G2 (z + 54) 22 = 0 := by rw [f2.I 22 (fun q => nomatch q)]; exact q
        have m2 := h.fx f2' (by decide) (by decide) (fun o q => nomatch q)
        obtain ⟨b1, b2⟩ := a2 w2
        have nb : badB S pre = false := by unfold badB; rw [hu, hv]; rfl
        have hQ' : ∀ G', fxM (z + 54) rgI rgJ [23, 24] G G' → mI z (mstep S (boC cho) s pre) G' → Q G' := fun G' f' I' => hQ G' f' (by rw [w2]; exact I')
        have g2 : ∀ j, j ≠ 22 → gI G2 (z + 54) j = gI G (z + 54) j := fun j hj => f2'.I j (fun q => hj (List.mem_singleton.mp q))
        have ga : ∀ o j, 0 < o → gI G2 (z + 54 + o) j = gI G (z + 54 + o) j := fun o j ho => f2'.AI o j ho (fun q => nomatch q)
        rw [j1] at hx
        rw [j2] at hy
        subst hx; subst hy
        have eq' : qr S pre = decide (u.2.toInt < u.1.toInt) := by unfold qr; rw [hu]
        refine ⟨m2.K, ifP e2 (ifE (fun cq => ?_) (fun cq => ?_))⟩
        · rw [l_lt] at cq
          have hq : qr S pre = true := by rw [eq']; exact decide_eq_true cq
          have ej : mstep S (boC cho) s pre = (s.1, mkeep s.2.1 pre, fun n => s.2.2 n || n == msk (boC cho) pre) := by unfold mstep; rw [nb, hq]; rfl
          rw [ej] at hQ'
          -- the set's bit
          have s120 : ∀ G3, fxM (z + 54) [33, 41] [] [23] G2 G3 → (∀ G4, G4 = uI G3 (z + 54 + 24) (msk (boC cho) pre) 1 → (match mkeep s.2.1 pre with | none => gI G4 (z + 54) 41 = 0 | some r => gI G4 (z + 54) 41 = 1 ∧ gI G4 (z + 54) 33 = nI r.length ∧ cel G4 (z + 54 + 23) r ∧ 0 < r.length ∧ r.length ≤ 10 ∧ ∀ x ∈ r, x < 200)) → wpX11_ring_120 Q (z + 54) G3 := by
            intro G3 f3 hk
            have f3' : fxM (z + 54) rgI rgJ [23, 24] G G3 := (f2'.mono (by decide) (fun _ q => q) (fun _ q => nomatch q)).up f3 (by decide) (fun _ q => nomatch q) (by decide)
            have m3 := h.fx f3' (by decide) (by decide) (by decide)
            refine M_bits m3 hi (hp.same (fun j => f3'.AI 22 j (by omega) (by decide))) (by rw [f3'.I 29 (by decide)]; exact e29) l1 h10 hr (fun k hk' => by rw [f3'.AI 25 k (by omega) (by decide)]; exact hch k hk') hc10 ?_
            refine hQ' _ (f3'.aI 24 _ _ (by decide) (by omega)) ⟨?_, fun _ => ⟨hk _ rfl, fun n hn => ?_⟩⟩
            · rw [gI_uI, if_neg (by omega), f3.I 22 (by decide), e2, w2]; rfl
            · rw [gI_uI]
              by_cases q : n = msk (boC cho) pre
              · rw [if_pos ⟨rfl, q⟩]
                refine ⟨fun w => absurd w (by decide), fun w => ?_⟩
                rw [q] at w
                simp at w
              · rw [if_neg (fun w => q w.2), f3.AI 24 n (by omega) (by decide), ga 24 n (by omega), b2 n hn]
                have : (n == msk (boC cho) pre) = false := by simpa using q
                show _ ↔ (s.2.2 n || n == msk (boC cho) pre) = false
                rw [this, Bool.or_false]
          have s75 : mkeep s.2.1 pre = some pre → wpX11_ring_75 Q (z + 54) G2 := by
            intro ek
            unfold wpX11_ring_75
            refine ⟨m2.K, fun G3 e3 G4 e4 => ⟨len + 1, ?_⟩⟩
            have e29' : gI G3 (z + 54) 29 = nI len := by rw [e3, gI_uI, if_neg (by omega), g2 29 (by omega)]; exact e29
            rw [e29'] at e4
            have f4 : fxM (z + 54) [33, 41] [] [23] G2 G4 := by rw [e4, e3]; exact (fxM.rf.wI 41 _ (by decide)).wI 33 _ (by decide)
            have loop : ∀ (n i : Nat) (G5 : Wd), i ≤ len → i + n = len + 1 → fxM (z + 54) [] [] [23] G4 G5 → (∀ j, j < i → gI G5 (z + 54 + 23) j = nI (pre.getD j 0)) → wpX11_ring_91 Q n (z + 54) (nI i) G5 := by
              intro n
              induction n with
              | zero => intro i G5 le e; omega
              | succ n ih =>
                intro i G5 le e f5 hj
                have f5' := f4.up f5 (fun _ q => nomatch q) (fun _ q => nomatch q) (by decide)
                have m5 := m2.fx f5' (by decide) (by decide) (by decide)
                have e295 : gI G5 (z + 54) 29 = nI len := by rw [f5'.I 29 (by decide), g2 29 (by omega)]; exact e29
                unfold wpX11_ring_91
                rw [e295]
                refine ⟨m5.K, ifE (fun c => ?_) (fun c => ?_)⟩
                · rw [nI_leI (by omega) (by omega)] at c
                  refine s120 G5 f5' (fun G6 e6 => ?_)
                  rw [ek]
                  have g6 : ∀ j, gI G6 (z + 54) j = gI G4 (z + 54) j := fun j => by rw [e6, gI_uI, if_neg (by omega), f5.I j (fun q => nomatch q)]
                  refine ⟨by rw [g6, e4, gI_uI, if_neg (by omega), e3, gI_uI, if_pos ⟨rfl, rfl⟩], by rw [g6, e4, gI_uI, if_pos ⟨rfl, rfl⟩, l1], fun j hj' => ?_, by omega, by omega, fun x hx => (hr x hx).2⟩
                  rw [e6, gI_uI, if_neg (by omega)]
                  exact hj j (by omega)
                · rw [nI_leI (by omega) (by omega)] at c
                  obtain ⟨k22', l22', r22'⟩ := m5.2.1.2 22 (by omega) (by omega)
                  obtain ⟨k23', l23', r23'⟩ := m5.2.1.2 23 (by omega) (by omega)
                  refine ⟨z + 54 + 23, r23', z + 54 + 22, r22', k22', by rw [l22']; exact vp_in_nI (by show i < 25; omega) (by decide), k23', by rw [l23']; exact vp_in_nI (by show i < 25; omega) (by decide), fun G6 e6 x hx => ?_⟩
                  rw [nI_1] at hx; subst hx
                  rw [nI_clamp (by omega), f5'.AI 22 i (by omega) (by decide), ga 22 i (by omega), hp i (by omega)] at e6
                  refine ih (i + 1) G6 (by omega) (by omega) (by rw [e6]; exact f5.aI 23 _ _ (by decide) (by omega)) (fun j hj' => ?_)
                  rw [e6, gI_uI]
                  by_cases q : j = i
                  · rw [if_pos ⟨rfl, q⟩, q]
                  · rw [if_neg (fun w => q w.2)]; exact hj j (by omega)
            exact loop (len + 1) 0 G4 (by omega) (by omega) fxM.rf (fun j hj => absurd hj (Nat.not_lt_zero _))
          have stay : ∀ r, s.2.1 = some r → mkeep s.2.1 pre = some r → wpX11_ring_120 Q (z + 54) G2 := by
            intro r hm ek
            refine s120 G2 fxM.rf (fun G3 e3 => ?_)
            rw [ek]
            rw [hm] at b1
            obtain ⟨c1, c2, c3, c4⟩ := b1
            exact ⟨by rw [e3, gI_uI, if_neg (by omega), g2 41 (by omega)]; exact c1, by rw [e3, gI_uI, if_neg (by omega), g2 33 (by omega)]; exact c2, c3.same (fun j => by rw [e3, gI_uI, if_neg (by omega)]; exact ga 23 j (by omega)), c4⟩
          rw [g2 41 (by omega), g2 33 (by omega), g2 29 (by omega)]
          cases hm : s.2.1 with
          | none =>
            rw [hm] at b1
            exact ifP b1 (s75 (by rw [hm]; rfl))
          | some r =>
            have b1' := b1
            rw [hm] at b1'
            obtain ⟨c1, c2, c3, c4, c5, c6⟩ := b1'
            rw [c1, c2, e29]
            refine ifN (fun e => n10 e) (ifE (fun cl => ?_) (fun cl => ?_))
            · rw [nI_eqI (by omega) (by omega)] at cl
              refine M_ahead m2 (hp.same (fun j => ga 22 j (by omega))) (c3.same (fun j => ga 23 j (by omega))) (by rw [g2 29 (by omega)]; exact e29) l1 cl h1 h10 (fun x hx => (hr x hx).2) c6 ?_
              have ek : mkeep s.2.1 pre = if lexB pre r then some pre else some r := by rw [hm]; show (if r.length = pre.length then _ else _) = _; rw [if_pos (by omega)]
              cases cx : lexB pre r with
              | true => exact ifN (by decide) (s75 (by rw [ek, cx]; rfl))
              | false => exact ifP rfl (stay r hm (by rw [ek, cx]; rfl))
            · rw [nI_eqI (by omega) (by omega)] at cl
              exact stay r hm (by rw [hm]; show (if r.length = pre.length then _ else _) = _; rw [if_neg (by omega)])
        · rw [l_lt] at cq
          have hq : qr S pre = false := by rw [eq']; exact decide_eq_false cq
          have ej : mstep S (boC cho) s pre = s := by unfold mstep; rw [nb, hq]; rfl
          rw [ej] at hQ'
          refine hQ' G2 (f2'.mono (by decide) (fun _ q => q) (fun _ q => nomatch q)) ⟨by rw [e2, w2]; rfl, fun _ => ⟨?_, fun n hn => by rw [ga 24 n (by omega)]; exact b2 n hn⟩⟩
          cases hm : s.2.1 with
          | none => rw [hm] at b1; show gI G2 (z + 54) 41 = 0; rw [g2 41 (by omega)]; exact b1
          | some r =>
            rw [hm] at b1
            obtain ⟨c1, c2, c3, c4⟩ := b1
            exact ⟨by rw [g2 41 (by omega)]; exact c1, by rw [g2 33 (by omega)]; exact c2, c3.same (fun j => ga 23 j (by omega)), c4⟩
    · have f2' := f1.up f2 (fun _ q => q) (fun _ q => q) (fun _ q => nomatch q)
      refine ⟨by rw [f2'.K]; exact h.K, ifN (by rw [i2]; decide) (large G2 f2' i2 (Or.inr (by unfold badB; rw [hv, Bool.or_comm]; rfl)))⟩
    · rcases hE with w | w
      · exact Or.inr w.1
      · exact Or.inl w.1
  refine X11_productR (e := false) h hi (Or.inl rfl) (by omega) hp hr (by rw [e29, l1]) rfl (fun q G2 f2 => ?_) (fun q v hv G2 f2 j20 j21 => ?_) (fun q hv G2 f2 i2 => ?_) ?_
  · refine second G2 (f2.mono (fun _ q => nomatch q) (fun _ q => q) (fun _ q => q)) (Or.inl ⟨by rw [f2.I 22 (fun q => nomatch q)]; exact q, Or.inl ?_⟩)
    cases c : s.1 with
    | true => rfl
    | false => rw [a1, c] at q; exact absurd q (by decide)
  · refine second G2 (f2.mono (fun _ q => nomatch q) (fun _ q => q) (fun _ q => q)) (Or.inr ⟨by rw [f2.I 22 (fun q => nomatch q)]; exact q, ?_, v, hv, j20, j21⟩)
    cases c : s.1 with
    | false => rfl
    | true => rw [a1, c] at q; exact absurd q (by decide)
  · exact second G2 f2 (Or.inl ⟨i2, Or.inr (by unfold badB; rw [hv]; rfl)⟩)
  · rw [a1]
    cases s.1 with
    | true => exact Or.inr rfl
    | false => exact Or.inl rfl
