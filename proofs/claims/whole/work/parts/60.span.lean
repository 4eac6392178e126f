/-! ===== span ===== -/
theorem mem_wl (S : St) (b : Nat) (l : List Nat) (a j : Nat) (hj : j ≤ 10) (r : List Nat) : r ∈ wl S b l a j ↔ r ∈ alw S b l a ∧ r.length < j := by
  induction j with
  | zero => exact ⟨fun h => (nomatch h), fun h => absurd h.2 (Nat.not_lt_zero _)⟩
  | succ j ih =>
    unfold wl
    rw [List.mem_append, ih (by omega), wl_dfx S b l a j (by omega), List.mem_filter]
    have e : (r.length == j) = true ↔ r.length = j := by simp
    rw [e]
    constructor
    · intro h
      rcases h with h | h
      · exact ⟨h.1, by omega⟩
      · exact ⟨h.1, by omega⟩
    · intro h
      by_cases c : r.length = j
      · exact Or.inr ⟨h.1, c⟩
      · exact Or.inl ⟨h.1, by omega⟩
theorem mem_wl10 (S : St) (b : Nat) (l : List Nat) (a : Nat) (r : List Nat) : r ∈ wl S b l a 10 ↔ r ∈ alw S b l a := by
  rw [mem_wl S b l a 10 (Nat.le_refl _)]
  exact ⟨fun h => h.1, fun h => ⟨h, by have := dfs_len S b l 9 a [a] [] r h; have e : ([] : List Nat).length = 0 := rfl; omega⟩⟩
theorem bst_eq {f : List Nat → Fr} {h h' : List (List Nat)} {u u' : Int64 × Int64} (b1 : bst fltB f h u) (b2 : bst fltB f h' u') (hm : ∀ r, r ∈ h ↔ r ∈ h') (gd : ∀ r ∈ h, ∀ v, f r = some v → gdF v) : u = u' := by
  obtain ⟨⟨r1, m1, e1⟩, k1⟩ := b1
  obtain ⟨⟨r2, m2, e2⟩, k2⟩ := b2
  exact flt_eq (gd r1 m1 u e1) (gd r2 ((hm r2).mpr m2) u' e2) (k2 r1 ((hm r1).mp m1) u e1) (k1 r2 ((hm r2).mpr m2) u' e2)
theorem bst_eq' {f : List Nat → Fr} {h h' : List (List Nat)} {u u' : Int64 × Int64} (b1 : bst gtB f h u) (b2 : bst gtB f h' u') (hm : ∀ r, r ∈ h ↔ r ∈ h') (gd : ∀ r ∈ h, ∀ v, f r = some v → gdF v) : u = u' := by
  obtain ⟨⟨r1, m1, e1⟩, k1⟩ := b1
  obtain ⟨⟨r2, m2, e2⟩, k2⟩ := b2
  exact flt_eq (gd r1 m1 u e1) (gd r2 ((hm r2).mpr m2) u' e2) (k1 r2 ((hm r2).mpr m2) u' e2) (k2 r1 ((hm r1).mp m1) u e1)
theorem sstop_some (q : Fr × Fr) : sstop (some q) = (q.1.isNone || q.2.isNone) := rfl
/-- what spanning holds -/
def sI (z : Nat) (s : Option (Fr × Fr)) (G : Wd) : Prop := match s with
  | none => gI G (z + 35) 2 = 0
  | some q => gI G (z + 35) 2 = 1 ∧ isF G (z + 36) q.1 ∧ isF G (z + 37) q.2 ∧ (∀ u, q.1 = some u → gdF u) ∧ ∀ v, q.2 = some v → gdF v
theorem sI.keep {z : Nat} {s : Option (Fr × Fr)} {G G' : Wd} {P R : Nat → Prop} (h : sI z s G) (f : chg P R G G') (hp : ∀ b, z + 35 ≤ b → b ≤ z + 37 → ¬ P b) : sI z s G' := by
  cases s with
  | none =>
    have h : gI G (z + 35) 2 = 0 := h
    show gI G' (z + 35) 2 = 0
    rw [f.I (hp _ (by omega) (by omega))]; exact h
  | some q =>
    obtain ⟨h1, h2, h3, h4⟩ := h
    exact ⟨by rw [f.I (hp _ (by omega) (by omega))]; exact h1, h2.keep f (hp _ (by omega) (by omega)), h3.keep f (hp _ (by omega) (by omega)), h4⟩
theorem isF_lg {G : Wd} {a : Nat} {o : Fr} (h : isF G a o) : gI G a 2 = if o.isNone then 1 else 0 := by
  cases o with
  | none => exact h.2.1
  | some q => exact h.2.1
theorem span_visit {z : Nat} {S : St} {la lb : Nat → Nat} (hi : Inv S) (s : Option (Fr × Fr)) (pre : List Nat) (G : Wd) (Q : Wd → Prop) (hs : sstop s = false) (hc : CR z G S la lb) (hp : pfx z G S pre) (hr : rok (sM S) pre) (h9 : pre.length ≤ 9) (hI : sI z s G) (hQ : ∀ G', sfr z G G' → chg (fun b => b = z + 5 ∨ (z + 33 ≤ b ∧ b ≤ z + 42)) (fun _ => False) G G' → sI z (sstep S s pre) G' → ovr z G' (sstop (sstep S s pre)) → Q G') : ∀ G25, G25 = uI G (z + 5) 3 (nI pre.length) → ((gK G25 (z + 35) = 1 ∧ wpX0_arrived (z + 35) (z + 5) G25 (fun G27 => Q G27)) ∨ (gK G25 (z + 35) = 7 ∧ wpX7_arrived (z + 35) (z + 5) G25 (fun G29 => Q G29)) ∨ (gK G25 (z + 35) = 8 ∧ wpX8_arrived (z + 35) (z + 5) G25 (fun G31 => Q G31)) ∨ (gK G25 (z + 35) = 4 ∧ wpX4_arrived (z + 35) (z + 5) G25 (fun G33 => Q G33))) := by
  intro G1 e1
  have f1 : chg (fun b => b = z + 5 ∨ (z + 35 ≤ b ∧ b ≤ z + 37)) (fun _ => False) G G1 := by rw [e1]; exact chg.rf.wI _ _ _ (Or.inl rfl)
  have f1' : chg (fun b => b = z + 5) (fun _ => False) G G1 := by rw [e1]; exact chg.rf.wI _ _ _ rfl
  have hc1 := hc.dst (f1.mono (fun b q => by omega) (fun _ q => q))
  have p1 := hp.keep (by omega) f1 (fun b q => by omega)
  have I1 := hI.keep f1' (fun b q1 q2 => by omega)
  have g3 : gI G1 (z + 5) 3 = nI pre.length := by rw [e1, gI_uI, if_pos ⟨rfl, rfl⟩]
  have gj : ∀ j, j ≠ 3 → gI G1 (z + 5) j = gI G (z + 5) j := fun j hj => by rw [e1, gI_uI, if_neg (by omega)]
  have gl : ∀ u, plr S false pre = some u → gdF u := fun u hu => plr_gd hi hr hu
  have gh : ∀ v, plr S true pre = some v → gdF v := fun v hv => plr_gd hi hr hv
  -- facts at a later world
  have at_ : ∀ G2, chg (fun b => b = z + 36 ∨ b = z + 37) (fun _ => False) G1 G2 → CR z G2 S la lb ∧ pfx z G2 S pre ∧ gI G2 (z + 5) 3 = nI pre.length ∧ gI G2 (z + 35) 2 = gI G1 (z + 35) 2 := fun G2 f2 =>
    ⟨hc1.dst (f2.mono (fun b q => by omega) (fun _ q => q)), p1.keep (by omega) f2 (fun b q => by omega), by rw [f2.I (by omega)]; exact g3, f2.I (by omega) 2⟩
  have f84 : ∀ G2 (q : Fr × Fr), chg (fun b => b = z + 36 ∨ b = z + 37) (fun _ => False) G1 G2 → isF G2 (z + 36) q.1 → isF G2 (z + 37) q.2 → sstep S s pre = some q → (∀ u, q.1 = some u → gdF u) → (∀ v, q.2 = some v → gdF v) → wpX8_arrived_84 Q (z + 35) (z + 5) G2 := by
    intro G2 q f2 i1 i2 es w1 w2
    obtain ⟨c2, _, _, _⟩ := at_ G2 f2
    rw [es] at hQ
    unfold wpX8_arrived_84
    refine ⟨c2.1.K 35 (by omega), fun G3 e3 => ?_⟩
    have f3 : chg (fun b => b = z + 35) (fun _ => False) G2 G3 := by rw [e3]; exact chg.rf.wI _ _ _ rfl
    have c3 := c2.dst (f3.mono (fun b q => by omega) (fun _ q => q))
    have j1 := i1.keep f3 (by omega)
    have j2 := i2.keep f3 (by omega)
    have last : ∀ v : Int32, isB v → v = (if sstop (some q) then 1 else 0) → wpX8_arrived_115 Q (z + 5) v G3 := by
      intro v bv ev
      unfold wpX8_arrived_115
      refine ⟨c3.1.K 5 (by omega), bv, fun G4 e4 => ?_⟩
      have f4 : chg (fun b => b = z + 5) (fun _ => False) G3 G4 := by rw [e4]; exact chg.rf.wI _ _ _ rfl
      have fa : chg (fun b => b = z + 5 ∨ (z + 35 ≤ b ∧ b ≤ z + 37)) (fun _ => False) G G4 := f1.tr ((f2.mono (fun b q => by omega) (fun _ q => q)).tr ((f3.mono (fun b q => by omega) (fun _ q => q)).tr (f4.mono (fun b q => by omega) (fun _ q => q))))
      refine hQ G4 ⟨fa.mono (fun b q => by omega) (fun _ q => q), fun j a b => by rw [e4, gI_uI, if_neg (by omega), e3, gI_uI, if_neg (by omega), f2.I (by omega)]; exact gj j a⟩ (fa.mono (fun b q => by omega) (fun _ q => q)) ⟨by rw [e4, gI_uI, if_neg (by omega), e3, gI_uI, if_pos ⟨rfl, rfl⟩], j1.keep f4 (by omega), j2.keep f4 (by omega), w1, w2⟩ ?_
      unfold ovr
      rw [e4, gI_uI, if_pos ⟨rfl, rfl⟩, ev]
    refine ⟨z + 36, c3.1.R 35 0 36 (by decide), j1.1, ?_⟩
    rw [isF_lg j1]
    cases c : q.1.isNone with
    | true => exact ifN (by decide) (last 1 (Or.inr rfl) (by rw [sstop_some, c]; rfl))
    | false =>
      refine ifP rfl ⟨z + 37, c3.1.R 35 1 37 (by decide), j2.1, ?_⟩
      rw [isF_lg j2]
      cases d : q.2.isNone with
      | true => exact ifN (by decide) (last 1 (Or.inr rfl) (by rw [sstop_some, c, d]; rfl))
      | false => exact ifP rfl (last 0 (Or.inl rfl) (by rw [sstop_some, c, d]; rfl))
  have f73 : ∀ G2 (lo : Fr), chg (fun b => b = z + 36 ∨ b = z + 37) (fun _ => False) G1 G2 → isF G2 (z + 36) lo → sstep S s pre = some (lo, plr S true pre) → (∀ u, lo = some u → gdF u) → wpX8_arrived_73 Q (z + 35) (z + 5) G2 := by
    intro G2 lo f2 i1 es w1
    obtain ⟨c2, p2, g2, _⟩ := at_ G2 f2
    unfold wpX8_arrived_73
    refine ⟨c2.1.K 35 (by omega), z + 37, c2.1.R 35 1 37 (by decide), c2.1.K 5 (by omega), X9_high c2 g2 (by omega) ⟨_, rfl, c2.1.K 37 (by omega), ?_⟩⟩
    refine X2_copy (c2.1.K 37 (by omega)) p2.end.2 (by omega) ?_
    have f3 : chg (fun b => b = z + 37) (fun _ => False) G2 (wF G2 (z + 37) (plr S true pre)) := chg.rf.wF _ _ rfl
    exact f84 _ (lo, plr S true pre) (f2.tr (f3.mono (fun b q => Or.inr q) (fun _ q => q))) (i1.keep f3 (by omega)) (isF_wF (c2.1.K 37 (by omega)) _) es w1 gh
  have f42 : ∀ G2 (lo : Fr), chg (fun b => b = z + 36 ∨ b = z + 37) (fun _ => False) G1 G2 → isF G2 (z + 36) lo → (∀ q, s = some q → isF G2 (z + 37) q.2) → (s = none → lo = plr S false pre) → (∀ q, s = some q → lo = mnG fltB q.1 (plr S false pre)) → (∀ u, lo = some u → gdF u) → wpX8_arrived_42 Q (z + 35) (z + 5) G2 := by
    intro G2 lo f2 i1 i2 n1 n2 w1
    obtain ⟨c2, p2, g2, e35⟩ := at_ G2 f2
    unfold wpX8_arrived_42
    refine ⟨c2.1.K 35 (by omega), ?_⟩
    rw [e35]
    cases s with
    | none =>
      refine ifP I1 (f73 G2 lo f2 i1 ?_ w1)
      rw [n1 rfl]; rfl
    | some q =>
      obtain ⟨I11, I12, I13, I14, I15⟩ := I1
      rw [I11]
      refine ifN (by decide) ⟨c2.1.K 5 (by omega), X9_high c2 g2 (by omega) ⟨_, rfl, p2.end.2.1, ?_⟩⟩
      rw [isF_lg p2.end.2]
      have e2 := n2 q rfl
      cases d : plr S true pre with
      | none =>
        refine ifN (by decide) (f73 G2 lo f2 i1 ?_ w1)
        show some (mnG fltB q.1 (plr S false pre), mnG gtB q.2 (plr S true pre)) = _
        rw [e2, d]
        cases q.2 <;> rfl
      | some w =>
        cases v0 : q.2 with
        | none =>
          have : (q.1.isNone || q.2.isNone) = false := hs
          rw [v0, Bool.or_comm] at this
          cases this
        | some v =>
          refine ifP rfl ⟨c2.1.K 35 (by omega), z + 37, c2.1.R 35 1 37 (by decide), c2.1.K 5 (by omega), X9_high c2 g2 (by omega) ⟨_, rfl, c2.1.K 37 (by omega), ?_⟩⟩
          have j2 := i2 q rfl
          rw [v0] at j2
          have p3 := p2.end.2
          rw [d] at p3
          refine X2_less j2 p3 (I15 v v0) (gh w d) ?_
          cases c : fltB v w with
          | true =>
            refine ifN (by decide) (f73 G2 lo f2 i1 ?_ w1)
            show some (mnG fltB q.1 (plr S false pre), mnG gtB q.2 (plr S true pre)) = _
            rw [← e2, v0, d]
            show some (lo, if fltB v w then some w else some v) = _
            rw [c]; rfl
          | false =>
            refine ifP rfl (f84 G2 (lo, some v) f2 i1 j2 ?_ w1 (fun v' hv' => I15 v' (v0.trans hv')))
            show some (mnG fltB q.1 (plr S false pre), mnG gtB q.2 (plr S true pre)) = _
            rw [← e2, v0, d]
            show some (lo, if fltB v w then some w else some v) = _
            rw [c]; rfl
  have f31 : (∀ q, s = some q → plr S false pre = mnG fltB q.1 (plr S false pre)) → wpX8_arrived_31 Q (z + 35) (z + 5) G1 := by
    intro n2
    unfold wpX8_arrived_31
    refine ⟨hc1.1.K 35 (by omega), z + 36, hc1.1.R 35 0 36 (by decide), hc1.1.K 5 (by omega), X9_low hc1 g3 (by omega) ⟨_, rfl, hc1.1.K 36 (by omega), ?_⟩⟩
    refine X2_copy (hc1.1.K 36 (by omega)) p1.end.1 (by omega) ?_
    have f3 : chg (fun b => b = z + 36) (fun _ => False) G1 (wF G1 (z + 36) (plr S false pre)) := chg.rf.wF _ _ rfl
    exact f42 _ _ (f3.mono (fun b q => Or.inl q) (fun _ q => q)) (isF_wF (hc1.1.K 36 (by omega)) _) (fun q hq => by subst hq; exact I1.2.2.1.keep f3 (by omega)) (fun _ => rfl) n2 gl
  refine Or.inr (Or.inr (Or.inl ⟨hc1.1.K 35 (by omega), ?_⟩))
  unfold wpX8_arrived
  refine ⟨hc1.1.K 35 (by omega), ?_⟩
  cases s with
  | none => exact ifP I1 (f31 (fun q hq => nomatch hq))
  | some q =>
    obtain ⟨I11, I12, I13, I14, I15⟩ := I1
    rw [I11]
    refine ifN (by decide) ⟨hc1.1.K 5 (by omega), X9_low hc1 g3 (by omega) ⟨_, rfl, p1.end.1.1, ?_⟩⟩
    rw [isF_lg p1.end.1]
    cases d : plr S false pre with
    | none =>
      refine ifN (by decide) (f31 (fun q' hq => ?_))
      rw [d]
      cases q'.1 <;> rfl
    | some w =>
      cases v0 : q.1 with
      | none =>
        have : (q.1.isNone || q.2.isNone) = false := hs
        rw [v0] at this
        cases this
      | some v =>
        have p3 := p1.end.1
        rw [d] at p3
        have j2 := I12
        rw [v0] at j2
        refine ifP rfl ⟨hc1.1.K 5 (by omega), X9_low hc1 g3 (by omega) ⟨_, rfl, hc1.1.K 35 (by omega), z + 36, hc1.1.R 35 0 36 (by decide), p3.1, ?_⟩⟩
        refine X2_less p3 j2 (gl w d) (I14 v v0) ?_
        cases c : fltB w v with
        | true =>
          refine ifN (by decide) (f31 (fun q' hq => ?_))
          have : q = q' := Option.some.inj hq
          rw [← this, v0, d]
          show some w = if fltB w v then some w else some v
          rw [c]; rfl
        | false =>
          refine ifP rfl (f42 G1 (some v) chg.rf j2 (fun q' hq => ?_) (fun h => nomatch h) (fun q' hq => ?_) (fun u hu => I14 u (v0.trans hu)))
          · have : q = q' := Option.some.inj hq
            rw [← this]; exact I13
          · have : q = q' := Option.some.inj hq
            rw [← this, v0, d]
            show some v = if fltB w v then some w else some v
            rw [c]; rfl
abbrev aal (S : St) (p q : Int32) : List (List Nat) := alw S (nv p % 10) (opl S (q / 10000) (q % 10000) (sM S)) (nv p / 10)
def oSpan (S : St) (p q e t : Int32) : Int64 := if rng p 0 99 ∧ rng q 0 79999 ∧ rng e 0 1 ∧ rng t 0 1 then (match run (sstep S) sstop none (aal S p q) with | none => -9000000000000000005 | some x => eOf x.1 x.2 e t) else -9000000000000000001
theorem C_span {z : Nat} {G : Wd} {S T : St} {p q e t : Int32} {Q : Int64 → Wd → Prop} (h : mid z G S T) (hi : Inv S) (hQ : ∀ G', mid z G' S T → Q (oSpan S p q e t) G') : wpX10_span z p q e t G Q := by
  unfold oSpan at hQ
  have hb : ¬ (rng p 0 99 ∧ rng q 0 79999 ∧ rng e 0 1 ∧ rng t 0 1) → Q (-9000000000000000001) G := fun n => by have := hQ G h; rw [if_neg n] at this; exact this
  obtain ⟨⟨la, lb, hc⟩, hm⟩ := h
  unfold wpX10_span
  refine X10_isPair (fun a => ifN (fun e => n10 e) (X10_isPlaceAndDay (fun b => ifN (fun e => n10 e) (X10_isEither (fun be => ifN (fun e => n10 e) (X10_isEither (fun bt => ifN (fun e => n10 e) ⟨hc.K, ?_⟩) (fun bt => ifP rfl (hb (fun c => bt c.2.2.2))))) (fun be => ifP rfl (hb (fun c => be c.2.2.1))))) (fun b => ifP rfl (hb (fun c => b c.2.1))))) (fun a => ifP rfl (hb (fun c => a c.1)))
  rw [if_pos ⟨a, b, be, bt⟩] at hQ
  obtain ⟨ea, eb, la10, lb10⟩ := ab_nI a
  obtain ⟨hl, h24⟩ := opl_ok hi (q / 10000) (q % 10000)
  refine X10_gather hc hi b (fun G1 f1 c1 o1 => ⟨c1.K, z + 35, c1.1.R 0 9 35 (by decide), c1.1.K 35 (by omega), fun G2 e2 => ?_⟩)
  have f2 : chg (fun b => b = z + 35) (fun _ => False) G1 G2 := by rw [e2]; exact chg.rf.wI _ _ _ rfl
  have c2 := c1.dst (f2.mono (fun b q => by omega) (fun _ q => q))
  have o2 : opnd z G2 la (opl S (q / 10000) (q % 10000) (sM S)) := ⟨by rw [f2.I (by omega)]; exact o1.1, fun i hi' => by rw [f2.Rf (fun q => q)]; exact o1.2 i hi'⟩
  refine ⟨z + 5, c2.1.R 0 6 5 (by decide), z + 35, c2.1.R 0 9 35 (by decide), c2.1.K 5 (by omega), ?_⟩
  rw [ea, eb]
  refine X9_seekWays (step := sstep S) (stop := sstop) (I := sI z) c2 hi o2 hl h24 la10 lb10 (fun s G G' _ q2 q3 => q2.keep q3 (fun b q1 q2 => by omega)) (fun s pre G Q q1 q2 q3 q4 q5 q6 q7 q8 => span_visit hi s pre G Q q1 q2 q3 q4 q5 q6 q8) (s := none) rfl (by show gI G2 (z + 35) 2 = 0; rw [e2, gI_uI, if_pos ⟨rfl, rfl⟩]) (fun G3 f3 I3 => ?_)
  have c3 := c2.dst f3
  have fin := hQ G3 (mid.cls c3 hm ((f1.mono (P' := fun b => z + 5 ≤ b ∧ b ≤ z + 45) (R' := fun b => b = z + 6) (fun b q => by omega) (fun _ q => q)).tr ((f2.mono (fun b q => by omega) (fun _ q => absurd q id)).tr (f3.mono (fun b q => by omega) (fun _ q => absurd q id)))) (fun b q1 q2 => ⟨by omega, by omega⟩))
  refine ⟨c3.K, z + 35, c3.1.R 0 9 35 (by decide), c3.1.K 35 (by omega), ?_⟩
  have er : run (sstep S) sstop none (alw S (nv p % 10) (opl S (q / 10000) (q % 10000) (sM S)) (nv p / 10)) = run (sstep S) sstop none (aal S p q) := rfl
  rw [er] at I3
  cases er2 : run (sstep S) sstop none (aal S p q) with
  | none =>
    rw [er2] at I3 fin
    exact ifP I3 fin
  | some x =>
    rw [er2] at I3 fin
    obtain ⟨I31, I32, I33, _⟩ := I3
    refine ifN (by rw [I31]; decide) ⟨z + 35, c3.1.R 0 9 35 (by decide), c3.1.K 35 (by omega), z + 36, c3.1.R 35 0 36 (by decide), z + 35, c3.1.R 0 9 35 (by decide), c3.1.K 35 (by omega), z + 37, c3.1.R 35 1 37 (by decide), ?_⟩
    exact X10_endOf I32 I33 fin
