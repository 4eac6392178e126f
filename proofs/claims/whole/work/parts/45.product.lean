/-! ===== the reference's product along a row ===== -/
def stx (S : St) (e : Bool) (o : Fr) (x : Nat) : Fr := if e then highX S o (x % 100) (decide (100 ≤ x)) else lowX S o (x % 100) (decide (100 ≤ x))
/-- the low (false) or high (true) end of the first n of a row -/
def prd (S : St) (e : Bool) (x : Nat → Nat) : Nat → Fr
  | 0 => some (1, 1)
  | i + 1 => stx S e (prd S e x i) (x i)
theorem lowX_wf {S : St} (hi : Inv S) {o : Fr} {k : Nat} (hk : k < sM S) (t : Bool) (h : wfF o) : wfF (lowX S o k t) ∧ wfF (highX S o k t) := by
  obtain ⟨⟨wl, pl⟩, wh, ph⟩ := ends_wf hi hk
  unfold lowX highX
  cases t with
  | false => exact ⟨h.by false wl pl, h.by false wh ph⟩
  | true => exact ⟨h.by true wh ph, h.by true wl pl⟩
theorem stx_wf {S : St} (hi : Inv S) {e : Bool} {o : Fr} {x : Nat} (hk : x % 100 < sM S) (h : wfF o) : wfF (stx S e o x) := by
  unfold stx
  split
  · exact (lowX_wf hi hk _ h).2
  · exact (lowX_wf hi hk _ h).1
theorem prd_wf {S : St} (hi : Inv S) {e : Bool} {x : Nat → Nat} {n : Nat} (hx : ∀ i, i < n → x i % 100 < sM S) : wfF (prd S e x n) := by
  induction n with
  | zero => exact wfF_1
  | succ n ih => exact stx_wf hi (hx n (by omega)) (ih (fun i h => hx i (by omega)))
theorem stx_none (S : St) (e : Bool) (x : Nat) : stx S e none x = none := by
  unfold stx lowX highX fby
  cases e <;> cases decide (100 ≤ x) <;> rfl
theorem prd_none {S : St} {e : Bool} {x : Nat → Nat} {i : Nat} (h : prd S e x i = none) : ∀ n, i ≤ n → prd S e x n = none := by
  intro n
  induction n with
  | zero => intro le; rw [show i = 0 by omega] at h; exact h
  | succ n ih =>
    intro le
    by_cases c : i = n + 1
    · rw [← c]; exact h
    · show stx S e (prd S e x n) (x n) = none
      rw [ih (by omega)]; exact stx_none S e (x n)
def eI (e : Bool) : Int32 := if e then 1 else 0
theorem M_prod_loop {z o n : Nat} {G0 : Wd} {T S : St} {e : Bool} {x : Nat → Nat} {Q : Wd → Prop} (h0 : mid z G0 T S) (hi : Inv S) (ho : o = 22 ∨ o = 23) (hn : n ≤ 25) (hx : ∀ i, i < n → gI G0 (z + 54 + o) i = nI (x i) ∧ x i % 100 < sM S ∧ x i < 200)
    (hs : ∀ q, prd S e x n = some q → ∀ G', fxM (z + 54) [] [20, 21] [] G0 G' → gJ G' (z + 54) 20 = q.1 → gJ G' (z + 54) 21 = q.2 → Q G') (hl : prd S e x n = none → ∀ G', fxM (z + 54) [22] [20, 21] [] G0 G' → gI G' (z + 54) 22 = 1 → Q G') (hz : gI G0 (z + 54) 22 = 0) (f : Nat) : ∀ (i : Nat) (u d : Int64) (G : Wd), i ≤ n → i + f = n + 1 → prd S e x i = some (u, d) → fxM (z + 54) [] [20, 21] [] G0 G → gJ G (z + 54) 20 = u → gJ G (z + 54) 21 = d → wpX11_product_15 Q f (z + 54) (z + 54 + o) (nI n) (eI e) u d (nI i) G := by
  have hM := hi.1.1
  induction f with
  | zero => intro i u d G le e; omega
  | succ f ih =>
    intro i u d G le ef pe fx ju jd
    have h := h0.fx fx (fun q => nomatch q) (fun q => nomatch q) (fun o q => nomatch q)
    unfold wpX11_product_15
    refine ifE (fun a => ?_) (fun a => ⟨h.K, ifP (by rw [fx.I 22 (fun q => nomatch q)]; exact hz) ?_⟩)
    · rw [nI_leI (by omega) (by omega)] at a
      have ei : i = n := by omega
      rw [ei] at pe
      exact hs _ pe G fx ju jd
    · rw [nI_leI (by omega) (by omega)] at a
      obtain ⟨x1, x2, x3⟩ := hx i (by omega)
      have xI : gI G (z + 54 + o) (nI i).toNatClampNeg = nI (x i) := by rw [nI_clamp (by omega), fx.AI o i (by omega) (fun q => nomatch q)]; exact x1
      have kk : gK G (z + 54 + o) = 20 := by rcases ho with q | q <;> subst q <;> exact (h.2.1.2 _ (by omega) (by omega)).1
      have nn : gN G (z + 54 + o) = 25 := by rcases ho with q | q <;> subst q <;> exact (h.2.1.2 _ (by omega) (by omega)).2.1
      have hv : vp_in (nI i) (gN G (z + 54 + o)) := by rw [nn]; exact vp_in_nI (by omega) (by decide)
      rw [xI]
      -- one step with the end that is asked
      have step : ∀ t : Bool, t = decide (100 ≤ x i) → wpX11_product_42 Q (fun y0 y1 y2 y3 y4 y5 y6 y7 => wpX11_product_15 Q f y0 y1 y2 y3 y4 y5 y6 y7) (z + 54) (z + 54 + o) (nI n) (eI e) u d (nI i) (eI t) G := by
        intro t et
        have hkr : rng (nI (x i % 100)) 0 23 := ⟨by rw [nI_toInt (by omega)]; omega, by rw [nI_toInt (by omega)]; omega⟩
        have fin : ∀ (w : Bool), (w = if t then !e else e) → wpX11_product_64 Q (fun y0 y1 y2 y3 y4 y5 y6 y7 => wpX11_product_15 Q f y0 y1 y2 y3 y4 y5 y6 y7) (z + 54) (z + 54 + o) (nI n) (eI e) u d (nI i) (eI t) (z + 54) (nI (x i % 100)) (eI w) G := by
          intro w hw
          unfold wpX11_product_64
          have wr : rng (eI w) 0 1 := by cases w <;> exact ⟨by decide, by decide⟩
          refine ⟨h.K, X11_endOf h hi hkr (by rw [nv_nI (by omega)]; exact x2) wr (fun G1 f1 h1 j1 j2 => ?_)⟩
          rw [nv_nI (by omega)] at j1 j2
          have last : ∀ (a b : Int64), nm a → nm b → b.toInt ≠ 0 → prd S e x (i + 1) = fmul (some (u, d)) a b → wpX11_product_101 Q (fun y0 y1 y2 y3 y4 y5 y6 y7 => wpX11_product_15 Q f y0 y1 y2 y3 y4 y5 y6 y7) (z + 54) (z + 54 + o) (nI n) (eI e) u d (nI i) a b G1 := by
            intro a' b' na nb nb0 ep
            unfold wpX11_product_101
            refine ⟨h1.K, fun G2 e2 G3 e3 => ?_⟩
            have f3 : fxM (z + 54) [] [20, 21] [] G0 G3 := by rw [e3, e2]; exact ((fx.tr f1).wJ 20 _ (by decide)).wJ 21 _ (by decide)
            have h3 := h0.fx f3 (fun q => nomatch q) (fun q => nomatch q) (fun o q => nomatch q)
            have w0 := prd_wf (e := e) (n := i) hi (fun j hj => (hx j (by omega)).2.1)
            rw [pe] at w0
            have ok := w0.ok
            have pd := (w0 _ rfl).2.2.1
            have ju3 : gJ G3 (z + 54) 20 = u := by rw [e3, gJ_uJ, if_neg (by omega), e2, gJ_uJ, if_pos ⟨rfl, rfl⟩]
            have jd3 : gJ G3 (z + 54) 21 = d := by rw [e3, gJ_uJ, if_pos ⟨rfl, rfl⟩]
            refine X11_times h3.K na nb ok.1 ok.2 nb0 (by have : 0 < d.toInt := pd; omega) ju3 jd3 (fun q eq G4 f4 j4 j4' => ?_) (fun eq G4 f4 j4 => ?_)
            · have f5 := f3.tr f4
              refine ⟨by rw [f5.K]; exact h0.K, fun y1 hy1 y2 hy2 y3 hy3 => ?_⟩
              rw [nI_1] at hy3
              rw [hy1, hy2, hy3, j4, j4']
              exact ih (i + 1) q.1 q.2 G4 (by omega) (by omega) (by rw [ep, eq]) f5 j4 j4'
            · have f5 : fxM (z + 54) [22] [20, 21] [] G0 G4 := (f3.mono (fun _ q => nomatch q) (fun _ q => q) (fun _ q => q)).tr f4
              refine ⟨by rw [f5.K]; exact h0.K, fun y1 hy1 y2 hy2 y3 hy3 => ?_⟩
              have pn := prd_none (S := S) (e := e) (x := x) (i := i + 1) (by rw [ep, eq]) n (by omega)
              cases f with
              | zero => omega
              | succ f =>
                unfold wpX11_product_15
                exact ifE (fun _ => hl pn G4 f5 j4) (fun _ => ⟨by rw [f5.K]; exact h0.K, ifN (by rw [j4]; decide) (hl pn G4 f5 j4)⟩)
          obtain ⟨⟨wl, pl⟩, wh, ph⟩ := ends_wf hi x2
          have okl := wl.ok
          have okh := wh.ok
          have dl := (wl _ rfl).2.2.1
          have dh := (wh _ rfl).2.2.1
          unfold wpX11_product_83
          have es : prd S e x (i + 1) = stx S e (some (u, d)) (x i) := by show stx S e (prd S e x i) (x i) = _; rw [pe]
          unfold stx lowX highX fby at es
          rw [← et] at es
          cases t with
          | false =>
            refine ifP rfl ⟨h1.K, ifP rfl ⟨h1.K, ?_⟩⟩
            rw [j1, j2]
            cases e with
            | false => subst hw; exact last _ _ okl.1 okl.2 (by have : 0 < (endL S (x i % 100)).2.toInt := dl; show (endL S (x i % 100)).2.toInt ≠ 0; omega) es
            | true => subst hw; exact last _ _ okh.1 okh.2 (by have : 0 < (endH S (x i % 100)).2.toInt := dh; show (endH S (x i % 100)).2.toInt ≠ 0; omega) es
          | true =>
            refine ifN (fun e => n10 e) ⟨h1.K, ifN (fun e => n10 e) ⟨h1.K, ?_⟩⟩
            rw [j1, j2]
            cases e with
            | false => subst hw; exact last _ _ okh.2 okh.1 (by show (endH S (x i % 100)).1.toInt ≠ 0; omega) es
            | true => subst hw; exact last _ _ okl.2 okl.1 (by show (endL S (x i % 100)).1.toInt ≠ 0; omega) es
        unfold wpX11_product_42
        rw [xI, show nI (x i) % 100 = nI (x i % 100) from nI_mod (a := x i) (d := 100) (by omega) (by omega)]
        refine ⟨kk, hv, ?_⟩
        cases t with
        | false => exact ifP rfl (fin e rfl)
        | true =>
          refine ifN (fun e => n10 e) ?_
          have := fin (!e) rfl
          rw [show (1 : Int32) - eI e = eI (!e) by cases e <;> decide]
          exact this
      refine ⟨kk, hv, ifE (fun c => ?_) (fun c => ?_)⟩
      · rw [i_lt, nI_toInt (by omega), il100] at c
        exact step false (by rw [decide_eq_false (by omega)])
      · rw [i_lt, nI_toInt (by omega), il100] at c
        exact step true (by rw [decide_eq_true (by omega)])
theorem X11_product {z o n : Nat} {G : Wd} {T S : St} {e : Bool} {x : Nat → Nat} {Q : Wd → Prop} (h : mid z G T S) (hi : Inv S) (ho : o = 22 ∨ o = 23) (hn : n ≤ 25) (hx : ∀ i, i < n → gI G (z + 54 + o) i = nI (x i) ∧ x i % 100 < sM S ∧ x i < 200) (hz : gI G (z + 54) 22 = 0)
    (hs : ∀ q, prd S e x n = some q → ∀ G', fxM (z + 54) [] [20, 21] [] G G' → gJ G' (z + 54) 20 = q.1 → gJ G' (z + 54) 21 = q.2 → Q G') (hl : prd S e x n = none → ∀ G', fxM (z + 54) [22] [20, 21] [] G G' → gI G' (z + 54) 22 = 1 → Q G') : wpX11_product (z + 54) (z + 54 + o) (nI n) (eI e) G Q := by
  unfold wpX11_product
  refine ⟨h.K, X11_set h.K (by unfold nm; decide) (by unfold nm; decide) (by decide) (fun G1 f1 j1 j2 => ⟨n + 1, ?_⟩)⟩
  exact M_prod_loop h hi ho hn hx hs hl hz (n + 1) 0 1 1 G1 (by omega) (by omega) rfl f1 (by rw [j1]; decide) (by rw [j2]; decide)
