/-! ===== span: the least low, the greatest high ===== -/
def fltB (u v : Int64 × Int64) : Bool := decide (u.1.toInt * v.2.toInt < v.1.toInt * u.2.toInt)
def nnF (o : Fr) : Prop := ∀ q, o = some q → 0 ≤ q.1.toInt
theorem g1_nn {x y : Int64} (hx : nm x) (hy : nm y) : 0 ≤ (g1 x y).toInt := by
  unfold g1
  have h1 : jg x y ≤ 9223372036854775807 := by
    unfold jg
    by_cases h0 : nA x = 0
    · rw [h0]; simp; have := nA_lt hy; omega
    · have := Nat.gcd_le_left (nA y) (show 0 < nA x by omega)
      have := nA_lt hx
      omega
  rw [lT (by omega)]
  omega
theorem div_nn {x y : Int64} (hx : nm x) (h0 : 0 ≤ x.toInt) (hy : 0 ≤ y.toInt) : 0 ≤ (x / y).toInt := by
  have e : (x / y).toInt = x.toInt.tdiv y.toInt := by
    refine Int64.toInt_div_of_ne_left x y (fun h => ?_)
    unfold nm at hx
    rw [h] at hx
    exact absurd hx (by decide)
  rw [e]; exact Int.tdiv_nonneg h0 hy
theorem nnF.mul {o : Fr} {a b : Int64} (h : nnF o) (w : wfF o) (ha : nm a) (hb : nm b) (a0 : 0 ≤ a.toInt) : nnF (fmul o a b) := by
  intro r hr
  cases o with
  | none => cases hr
  | some q =>
    have ok := w.ok
    have hr' : (if T15 ≤ nA (q.1 / g1 q.1 b) * nA (a / g1 q.2 a) ∨ T15 ≤ nA (q.2 / g1 q.2 a) * nA (b / g1 q.1 b) then none
      else some (q.1 / g1 q.1 b * (a / g1 q.2 a), q.2 / g1 q.2 a * (b / g1 q.1 b))) = some r := hr
    by_cases c : T15 ≤ nA (q.1 / g1 q.1 b) * nA (a / g1 q.2 a) ∨ T15 ≤ nA (q.2 / g1 q.2 a) * nA (b / g1 q.1 b)
    · rw [if_pos c] at hr'; cases hr'
    · rw [if_neg c] at hr'
      have e := Option.some.inj hr'
      subst e
      have t15 : T15 = 1000000000000000 := rfl
      have k1 := nA_mul (x := q.1 / g1 q.1 b) (y := a / g1 q.2 a) (by omega)
      show 0 ≤ (q.1 / g1 q.1 b * (a / g1 q.2 a)).toInt
      rw [k1.2]
      exact Int.mul_nonneg (div_nn ok.1 (h q rfl) (g1_nn ok.1 hb)) (div_nn ha a0 (g1_nn ok.2 ha))
theorem stx_nn {S : St} (hi : Inv S) {e : Bool} {o : Fr} {x : Nat} (hk : x % 100 < sM S) (w : wfF o) (h : nnF o) : nnF (stx S e o x) := by
  obtain ⟨⟨wl, pl⟩, wh, ph⟩ := ends_wf hi hk
  have okl := wl.ok
  have okh := wh.ok
  have dl := (wl _ rfl).2.2.1
  have dh := (wh _ rfl).2.2.1
  have key : ∀ (t : Bool) (q : Int64 × Int64), nm q.1 → nm q.2 → 0 ≤ q.1.toInt → 0 ≤ q.2.toInt → nnF (fby o t q) := by
    intro t q q1 q2 q3 q4
    unfold fby
    cases t with
    | false => exact h.mul w q1 q2 q3
    | true => exact h.mul w q2 q1 q4
  unfold stx lowX highX
  split
  · split
    · exact key _ _ okl.1 okl.2 (by omega) (by omega)
    · exact key _ _ okh.1 okh.2 (by omega) (by omega)
  · split
    · exact key _ _ okh.1 okh.2 (by omega) (by omega)
    · exact key _ _ okl.1 okl.2 (by omega) (by omega)
theorem plr_nn {S : St} (hi : Inv S) {e : Bool} (xs : List Nat) : ∀ o : Fr, wfF o → nnF o → rok (sM S) xs → nnF (xs.foldl (stx S e) o) := by
  induction xs with
  | nil => intro o _ h _; exact h
  | cons x xs ih =>
    intro o w h hr
    have hx := (hr x (List.mem_cons_self ..)).1
    exact ih _ (stx_wf hi hx w) (stx_nn hi hx w h) (fun y hy => hr y (List.mem_cons_of_mem _ hy))
theorem plr_nn' {S : St} (hi : Inv S) {e : Bool} {xs : List Nat} (h : rok (sM S) xs) : nnF (plr S e xs) := plr_nn hi xs _ wfF_1 (fun q hq => by have := Option.some.inj hq; subst this; decide) h
abbrev gdF (u : Int64 × Int64) : Prop := wfF (some u) ∧ 0 ≤ u.1.toInt
theorem gdF.nat {u : Int64 × Int64} (h : gdF u) : u = (lN (nA u.1), lN (nA u.2)) ∧ 0 < nA u.2 ∧ nA u.1 < T15 ∧ nA u.2 < T15 ∧ Nat.gcd (nA u.1) (nA u.2) = 1 ∧ u.1.toInt = nA u.1 ∧ u.2.toInt = nA u.2 := by
  obtain ⟨w, n⟩ := h
  obtain ⟨w1, w2, w3, w4⟩ := w u rfl
  have e1 := jabs_pos (x := u.1) (by rw [l_lt, ll0]; omega)
  have e2 := jabs_pos (x := u.2) (by rw [l_lt, ll0]; omega)
  have t1 : u.1.toInt = nA u.1 := by unfold nA; omega
  have t2 : u.2.toInt = nA u.2 := by unfold nA; omega
  refine ⟨?_, by unfold nA; omega, w1, w2, w4, t1, t2⟩
  rw [← e1, ← e2]
theorem flt_nat {u v : Int64 × Int64} (hu : gdF u) (hv : gdF v) : fltB u v = decide (nA u.1 * nA v.2 < nA v.1 * nA u.2) := by
  obtain ⟨_, _, _, _, _, u1, u2⟩ := hu.nat
  obtain ⟨_, _, _, _, _, v1, v2⟩ := hv.nat
  unfold fltB
  rw [u1, u2, v1, v2]
  refine decide_eq_decide.mpr ⟨fun h => ?_, fun h => ?_⟩
  · rw [← Int.natCast_mul, ← Int.natCast_mul] at h; exact Int.ofNat_lt.mp h
  · rw [← Int.natCast_mul, ← Int.natCast_mul]; exact Int.ofNat_lt.mpr h
theorem flt_tr {u v w : Int64 × Int64} (hu : gdF u) (hv : gdF v) (hw : gdF w) (h1 : fltB u v = true) (h2 : fltB v w = true) : fltB u w = true := by
  rw [flt_nat hu hv] at h1
  rw [flt_nat hv hw] at h2
  rw [flt_nat hu hw]
  have h1 := of_decide_eq_true h1
  have h2 := of_decide_eq_true h2
  obtain ⟨_, pu, _⟩ := hu.nat
  obtain ⟨_, pv, _⟩ := hv.nat
  obtain ⟨_, pw, _⟩ := hw.nat
  refine decide_eq_true ?_
  generalize nA u.1 = a at *
  generalize nA u.2 = b at *
  generalize nA v.1 = c at *
  generalize nA v.2 = d at *
  generalize nA w.1 = e at *
  generalize nA w.2 = f at *
  -- a d < c b, c f < e d
  have k1 : a * d * f < c * b * f := Nat.mul_lt_mul_of_pos_right h1 pw
  have k2 : c * f * b < e * d * b := Nat.mul_lt_mul_of_pos_right h2 pu
  have k3 : (a * f) * d < (e * b) * d := by
    have e1 : (a * f) * d = a * d * f := Nat.mul_right_comm a f d
    have e2 : (e * b) * d = e * d * b := Nat.mul_right_comm e b d
    have e3 : c * b * f = c * f * b := Nat.mul_right_comm c b f
    omega
  exact Nat.lt_of_mul_lt_mul_right k3
theorem flt_eq {u v : Int64 × Int64} (hu : gdF u) (hv : gdF v) (h1 : fltB u v = false) (h2 : fltB v u = false) : u = v := by
  rw [flt_nat hu hv] at h1
  rw [flt_nat hv hu] at h2
  have h1 := of_decide_eq_false h1
  have h2 := of_decide_eq_false h2
  obtain ⟨eu, pu, _, _, gu, _⟩ := hu.nat
  obtain ⟨ev, pv, _, _, gv, _⟩ := hv.nat
  have e : nA u.1 * nA v.2 = nA v.1 * nA u.2 := by omega
  have d1 : nA u.2 ∣ nA v.2 := by
    have : nA u.2 ∣ nA u.1 * nA v.2 := by rw [e]; exact Nat.dvd_mul_left _ _
    exact Nat.Coprime.dvd_of_dvd_mul_left (Nat.Coprime.symm gu) this
  have d2 : nA v.2 ∣ nA u.2 := by
    have : nA v.2 ∣ nA v.1 * nA u.2 := by rw [← e]; exact Nat.dvd_mul_left _ _
    exact Nat.Coprime.dvd_of_dvd_mul_left (Nat.Coprime.symm gv) this
  have e2 : nA u.2 = nA v.2 := Nat.dvd_antisymm d1 d2
  rw [e2] at e
  have e1 : nA u.1 = nA v.1 := Nat.eq_of_mul_eq_mul_right pv e
  rw [eu, ev, e1, e2]
theorem X2_less {G : Wd} {x y : Nat} {u v : Int64 × Int64} {Q : Int32 → Wd → Prop} (h1 : isF G x (some u)) (h2 : isF G y (some v)) (hu : gdF u) (hv : gdF v) (h : Q (if fltB u v then 1 else 0) G) : wpX2_isLess x y G Q := by
  obtain ⟨eu, pu, bu1, bu2, _⟩ := hu.nat
  obtain ⟨ev, pv, bv1, bv2, _⟩ := hv.nat
  have t15 : T15 = 1000000000000000 := rfl
  rw [flt_nat hu hv] at h
  rw [eu] at h1
  rw [ev] at h2
  refine X2_isLess h1 h2 pu pv (by omega) (by omega) (by omega) (by omega) ?_
  by_cases c : nA u.1 * nA v.2 < nA v.1 * nA u.2
  · rw [if_pos c]; rw [decide_eq_true c] at h; exact h
  · rw [if_neg c]; rw [decide_eq_false c] at h; exact h
theorem X11_less {G : Wd} {m : Nat} {u v : Int64 × Int64} {Q : Int32 → Wd → Prop} (hk : gK G m = 11) (hu : gdF u) (hv : gdF v) (h : ∀ G', fxM m [] [23, 24] [] G G' → Q (if fltB u v then 1 else 0) G') : wpX11_isLess m u.1 u.2 v.1 v.2 G Q := by
  obtain ⟨eu, pu, bu1, bu2, _, u1, u2⟩ := hu.nat
  obtain ⟨ev, pv, bv1, bv2, _, v1, v2⟩ := hv.nat
  have e2 : u.2 = lN (nA u.2) := by rw [eu]; rw [nA_lN (by have t15 : T15 = 1000000000000000 := rfl; omega)]
  have e4 : v.2 = lN (nA v.2) := by rw [ev]; rw [nA_lN (by have t15 : T15 = 1000000000000000 := rfl; omega)]
  rw [e2, e4]
  refine X11_isLess hk bu1 bv1 bu2 bv2 pu pv (fun G' f' => ?_)
  have := h G' f'
  unfold fltB at this
  rw [u2, v2] at this
  by_cases c : u.1.toInt * (nA v.2 : Int) < v.1.toInt * (nA u.2 : Int)
  · rw [if_pos c]; rw [decide_eq_true c] at this; exact this
  · rw [if_neg c]; rw [decide_eq_false c] at this; exact this
theorem X11_multA {G : Wd} {m : Nat} {x y : Int64} {Q : Wd → Prop} (hk : gK G m = 11) (h : ∀ G', fxM m [] [23, 24] [] G G' → Q G') : wpX11_multiply m x y G Q := by
  unfold wpX11_multiply
  intro x1 _ x2 _ x3 _ x4 _ x5 _ x6 _
  refine ⟨hk, fun G1 e1 G2 e2 => ?_⟩
  have f2 : fxM m [] [23, 24] [] G G2 := by rw [e2, e1]; exact (fxM.rf.wJ 23 _ (by decide)).wJ 24 _ (by decide)
  refine ifE (fun _ => h G2 f2) (fun _ G3 e3 G4 e4 => h G4 ?_)
  rw [e4, e3]; exact (f2.wJ 24 _ (by decide)).wJ 23 _ (by decide)
theorem X11_lessA {G : Wd} {m : Nat} {a b c d : Int64} {Q : Int32 → Wd → Prop} (hk : gK G m = 11) (h : ∀ (r : Int32) (G' : Wd), fxM m [] [23, 24] [] G G' → Q r G') : wpX11_isLess m a b c d G Q := by
  have f170 : ∀ (v9 v14 s0 : Int32) (G' : Wd), isB v14 → isB s0 → fxM m [] [23, 24] [] G G' → wpX11_isLess_170 Q v9 v14 s0 G' := by
    intro v9 v14 s0 G' b1 b2 f'
    unfold wpX11_isLess_170
    exact ifE (fun _ => ⟨b1, h _ G' f'⟩) (fun _ => ⟨b2, h _ G' f'⟩)
  have f133 : ∀ (v9 : Int32) (v10 v12 : Int64) (s0 : Int32) (G' : Wd), isB s0 → fxM m [] [23, 24] [] G G' → wpX11_isLess_133 Q m v9 v10 v12 s0 G' := by
    intro v9 v10 v12 s0 G' b f'
    unfold wpX11_isLess_133 wpX11_isLess_165 wpX11_isLess_169
    exact ⟨by rw [f'.K]; exact hk, ifE (fun _ => f170 _ _ _ _ b (Or.inr rfl) f') (fun _ => ifE (fun _ => ifE (fun _ => f170 _ _ _ _ b (Or.inr rfl) f') (fun _ => f170 _ _ _ _ b (Or.inl rfl) f')) (fun _ => f170 _ _ _ _ b (Or.inl rfl) f'))⟩
  have f94 : ∀ (v3 : Int64) (v9 : Int32) (v10 v12 s1 : Int64) (G' : Wd), fxM m [] [23, 24] [] G G' → wpX11_isLess_94 Q m v3 v9 v10 v12 m s1 G' := by
    intro v3 v9 v10 v12 s1 G' f'
    unfold wpX11_isLess_94 wpX11_isLess_128 wpX11_isLess_132
    refine ⟨by rw [f'.K]; exact hk, X11_multA (by rw [f'.K]; exact hk) (fun G2 f2 => ?_)⟩
    have f2' := f'.tr f2
    exact ⟨by rw [f2'.K]; exact hk, ifE (fun _ => f133 _ _ _ _ _ (Or.inr rfl) f2') (fun _ => ifE (fun _ => ifE (fun _ => f133 _ _ _ _ _ (Or.inr rfl) f2') (fun _ => f133 _ _ _ _ _ (Or.inl rfl) f2')) (fun _ => f133 _ _ _ _ _ (Or.inl rfl) f2'))⟩
  have f63 : ∀ (v9 : Int32) (s1 : Int64), wpX11_isLess_63 Q m b c d v9 m s1 G := by
    intro v9 s1
    unfold wpX11_isLess_63
    refine ⟨hk, X11_multA hk (fun G2 f2 => ⟨by rw [f2.K]; exact hk, fun x1 _ x2 _ => ifE (fun _ => f94 _ _ _ _ _ _ f2) (fun _ => f94 _ _ _ _ _ _ f2)⟩)⟩
  have f49 : ∀ s0 : Int32, wpX11_isLess_49 Q m a b c d s0 G := by
    intro s0
    unfold wpX11_isLess_49
    exact ifE (fun _ => f63 _ _) (fun _ => f63 _ _)
  have f23 : ∀ s0 s1 : Int32, wpX11_isLess_23 Q m a b c d s0 s1 G := by
    intro s0 s1
    unfold wpX11_isLess_23
    exact ifE (fun _ => ifE (fun _ => f49 _) (fun _ => f49 _)) (fun _ => ifE (fun _ => h _ G fxM.rf) (fun _ => h _ G fxM.rf))
  unfold wpX11_isLess wpX11_isLess_11
  exact ifE (fun _ => ifE (fun _ => f23 _ _) (fun _ => f23 _ _)) (fun _ => ifE (fun _ => f23 _ _) (fun _ => f23 _ _))
/-! the best of rows -/
def mnG (lt : Int64 × Int64 → Int64 × Int64 → Bool) (lo x : Fr) : Fr := match x, lo with
  | some u, some v => if lt u v then some u else some v
  | _, _ => none
def bst (lt : Int64 × Int64 → Int64 × Int64 → Bool) (f : List Nat → Fr) (h : List (List Nat)) (u : Int64 × Int64) : Prop := (∃ r ∈ h, f r = some u) ∧ ∀ r ∈ h, ∀ v, f r = some v → lt v u = false
abbrev gtB (u v : Int64 × Int64) : Bool := fltB v u
theorem bst_snoc {lt : Int64 × Int64 → Int64 × Int64 → Bool} {f : List Nat → Fr} {h : List (List Nat)} {u w : Int64 × Int64} {r : List Nat} (ltr : ∀ a b c, gdF a → gdF b → gdF c → lt a b = true → lt b c = true → lt a c = true) (irr : ∀ a, lt a a = false) (gd : ∀ r ∈ h, ∀ v, f r = some v → gdF v) (gw : gdF w) (hb : bst lt f h u) (hr : f r = some w) : bst lt f (h ++ [r]) (if lt w u then w else u) := by
  obtain ⟨⟨r0, m0, e0⟩, hmin⟩ := hb
  have gu := gd r0 m0 u e0
  by_cases c : lt w u = true
  · rw [if_pos c]
    refine ⟨⟨r, List.mem_append.mpr (Or.inr (List.mem_singleton.mpr rfl)), hr⟩, fun r' m' v e' => ?_⟩
    rcases List.mem_append.mp m' with q | q
    · cases q2 : lt v w with
      | false => rfl
      | true =>
        have := ltr v w u (gd r' q v e') gw gu q2 c
        rw [hmin r' q v e'] at this
        cases this
    · rw [List.mem_singleton.mp q, hr] at e'
      have := Option.some.inj e'
      rw [← this]; exact irr w
  · rw [if_neg c]
    refine ⟨⟨r0, List.mem_append.mpr (Or.inl m0), e0⟩, fun r' m' v e' => ?_⟩
    rcases List.mem_append.mp m' with q | q
    · exact hmin r' q v e'
    · rw [List.mem_singleton.mp q, hr] at e'
      have := Option.some.inj e'
      rw [← this]
      cases q2 : lt w u with
      | false => rfl
      | true => exact absurd q2 c
theorem bst_one {lt : Int64 × Int64 → Int64 × Int64 → Bool} {f : List Nat → Fr} {w : Int64 × Int64} {r : List Nat} (irr : ∀ a, lt a a = false) (hr : f r = some w) : bst lt f ([] ++ [r]) w := by
  refine ⟨⟨r, List.mem_singleton.mpr rfl, hr⟩, fun r' m' v e' => ?_⟩
  rw [List.mem_singleton.mp m', hr] at e'
  have := Option.some.inj e'
  rw [← this]; exact irr w
theorem flt_irr (a : Int64 × Int64) : fltB a a = false := decide_eq_false (by omega)
def bad (S : St) (r : List Nat) : Prop := plr S false r = none ∨ plr S true r = none
/-- what is known after rows h were gone through -/
def spn (S : St) (h : List (List Nat)) (s : Option (Fr × Fr)) : Prop := match s with
  | none => h = []
  | some q => ((q.1 = none ∨ q.2 = none) ∧ ∃ r ∈ h, bad S r) ∨ ∃ u v, q = (some u, some v) ∧ bst fltB (plr S false) h u ∧ bst gtB (plr S true) h v ∧ ∀ r ∈ h, ¬ bad S r
def sstep (S : St) (s : Option (Fr × Fr)) (r : List Nat) : Option (Fr × Fr) := match s with
  | none => some (plr S false r, plr S true r)
  | some q => some (mnG fltB q.1 (plr S false r), mnG gtB q.2 (plr S true r))
def sstop (s : Option (Fr × Fr)) : Bool := match s with
  | none => false
  | some q => q.1.isNone || q.2.isNone
theorem plr_gd {S : St} (hi : Inv S) {e : Bool} {r : List Nat} (hr : rok (sM S) r) {v : Int64 × Int64} (hv : plr S e r = some v) : gdF v := ⟨by rw [← hv]; exact plr_wf' hi hr, plr_nn' hi hr v hv⟩
theorem spn_step {S : St} (hi : Inv S) {h : List (List Nat)} {s : Option (Fr × Fr)} {r : List Nat} (hh : ∀ x ∈ h, rok (sM S) x) (hr : rok (sM S) r) (hs : sstop s = false) (hp : spn S h s) : spn S (h ++ [r]) (sstep S s r) := by
  have mr : r ∈ h ++ [r] := List.mem_append.mpr (Or.inr (List.mem_singleton.mpr rfl))
  cases s with
  | none =>
    have hp : h = [] := hp
    subst hp
    show spn S ([] ++ [r]) (some (plr S false r, plr S true r))
    cases e1 : plr S false r with
    | none => exact Or.inl ⟨Or.inl rfl, r, mr, Or.inl e1⟩
    | some u =>
      cases e2 : plr S true r with
      | none => exact Or.inl ⟨Or.inr rfl, r, mr, Or.inr e2⟩
      | some v =>
        refine Or.inr ⟨u, v, rfl, bst_one flt_irr e1, bst_one flt_irr e2, fun x hx => ?_⟩
        rw [List.mem_singleton.mp hx]
        intro q
        rcases q with q | q
        · rw [e1] at q; cases q
        · rw [e2] at q; cases q
  | some q =>
    rcases hp with ⟨a, _⟩ | ⟨u, v, eq, b1, b2, b3⟩
    · have : (q.1.isNone || q.2.isNone) = false := hs
      rcases a with a | a
      · rw [a] at this; cases this
      · rw [a, Bool.or_comm] at this; cases this
    · subst eq
      show spn S (h ++ [r]) (some (mnG fltB (some u) (plr S false r), mnG gtB (some v) (plr S true r)))
      cases e1 : plr S false r with
      | none => exact Or.inl ⟨Or.inl rfl, r, mr, Or.inl e1⟩
      | some w =>
        cases e2 : plr S true r with
        | none => exact Or.inl ⟨Or.inr rfl, r, mr, Or.inr e2⟩
        | some x =>
          have g1 := plr_gd hi hr e1
          have g2 := plr_gd hi hr e2
          have c1 := bst_snoc (lt := fltB) (f := plr S false) (u := u) (w := w) (fun a b c ha hb hc q1 q2 => flt_tr ha hb hc q1 q2) flt_irr (fun r' m' v' e' => plr_gd (e := false) hi (hh r' m') e') g1 b1 e1
          have c2 := bst_snoc (lt := gtB) (f := plr S true) (u := v) (w := x) (fun a b c ha hb hc q1 q2 => flt_tr hc hb ha q2 q1) flt_irr (fun r' m' v' e' => plr_gd (e := true) hi (hh r' m') e') g2 b2 e2
          refine Or.inr ⟨_, _, ?_, c1, c2, fun y hy => ?_⟩
          · show (if fltB w u then some w else some u, if gtB x v then some x else some v) = _
            congr 1
            · split <;> rfl
            · split <;> rfl
          · rcases List.mem_append.mp hy with hy | hy
            · exact b3 y hy
            · rw [List.mem_singleton.mp hy]
              intro q
              rcases q with q | q
              · rw [e1] at q; cases q
              · rw [e2] at q; cases q
theorem spn_run {S : St} (hi : Inv S) (D : List (List Nat)) : ∀ (h : List (List Nat)) (s : Option (Fr × Fr)), (∀ x ∈ h, rok (sM S) x) → (∀ x ∈ D, rok (sM S) x) → spn S h s → spn S (h ++ D) (run (sstep S) sstop s D) := by
  induction D with
  | nil => intro h s _ _ hp; rw [List.append_nil]; exact hp
  | cons r D ih =>
    intro h s hh hD hp
    show spn S (h ++ r :: D) (if sstop s then s else run (sstep S) sstop (sstep S s r) D)
    have e : h ++ r :: D = (h ++ [r]) ++ D := by rw [List.append_assoc]; rfl
    by_cases c : sstop s = true
    · rw [if_pos c]
      cases s with
      | none => cases c
      | some q =>
        rcases hp with ⟨a, r0, m0, b0⟩ | ⟨u, v, eq, _⟩
        · exact Or.inl ⟨a, r0, List.mem_append.mpr (Or.inl m0), b0⟩
        · subst eq; cases c
    · rw [if_neg c, e]
      have c' : sstop s = false := by cases q : sstop s with | false => rfl | true => exact absurd q c
      refine ih (h ++ [r]) _ (fun x hx => ?_) (fun x hx => hD x (List.mem_cons_of_mem _ hx)) (spn_step hi hh (hD r (List.mem_cons_self ..)) c' hp)
      rcases List.mem_append.mp hx with q | q
      · exact hh x q
      · rw [List.mem_singleton.mp q]; exact hD r (List.mem_cons_self ..)
