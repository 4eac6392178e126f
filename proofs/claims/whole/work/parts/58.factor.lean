/-! ===== factor ===== -/
theorem prd_plr (S : St) (e : Bool) (row : List Nat) (n : Nat) (hn : n ≤ row.length) : prd S e (fun i => row.getD i 0) n = plr S e (row.take n) := by
  induction n with
  | zero => rfl
  | succ n ih =>
    have e1 : row.take (n + 1) = row.take n ++ [row.getD n 0] := by
      rw [List.take_add_one]
      simp [List.getD, List.getElem?_eq_getElem (show n < row.length by omega)]
    rw [e1, plr_snoc, ← ih (by omega)]
    rfl
theorem prd_all (S : St) (e : Bool) (row : List Nat) : prd S e (fun i => row.getD i 0) row.length = plr S e row := by
  rw [prd_plr S e row row.length (Nat.le_refl _), List.take_length]
/-- the product when something was LARGE already -/
theorem X11_productL {G : Wd} {m b : Nat} {n e : Int32} {Q : Wd → Prop} (hk : gK G m = 11) (hl : gI G m 22 = 1) (hQ : ∀ G', fxM m [] [20, 21] [] G G' → Q G') : wpX11_product m b n e G Q := by
  unfold wpX11_product
  refine ⟨hk, X11_set hk (by unfold nm; decide) (by unfold nm; decide) (by decide) (fun G1 f1 j1 j2 => ⟨1, ?_⟩)⟩
  unfold wpX11_product_15
  exact ifE (fun _ => hQ G1 f1) (fun _ => ⟨by rw [f1.K]; exact hk, ifN (by rw [f1.I 22 (fun q => nomatch q), hl]; decide) (hQ G1 f1)⟩)
/-- the product of a row that lies in a row of cells -/
theorem X11_productR {z o : Nat} {G : Wd} {T S : St} {e : Bool} {row : List Nat} {ne ee : Int32} {Q : Wd → Prop} (h : mid z G T S) (hi : Inv S) (ho : o = 22 ∨ o = 23) (hn : row.length ≤ 25) (hc : cel G (z + 54 + o) row) (hr : rok (sM S) row) (en : ne = nI row.length) (eE : ee = eI e)
    (hl : gI G (z + 54) 22 = 1 → ∀ G', fxM (z + 54) [] [20, 21] [] G G' → Q G')
    (hs : gI G (z + 54) 22 = 0 → ∀ q, plr S e row = some q → ∀ G', fxM (z + 54) [] [20, 21] [] G G' → gJ G' (z + 54) 20 = q.1 → gJ G' (z + 54) 21 = q.2 → Q G') (hN : gI G (z + 54) 22 = 0 → plr S e row = none → ∀ G', fxM (z + 54) [22] [20, 21] [] G G' → gI G' (z + 54) 22 = 1 → Q G') (h01 : gI G (z + 54) 22 = 0 ∨ gI G (z + 54) 22 = 1) : wpX11_product (z + 54) (z + 54 + o) ne ee G Q := by
  subst en; subst eE
  rcases h01 with e0 | e1
  · refine X11_product (x := fun i => row.getD i 0) h hi ho hn (fun i hi' => ⟨hc i hi', hr _ (getD_mem hi')⟩) e0 (fun q hq => hs e0 q (by rw [← prd_all]; exact hq)) (fun hq => hN e0 (by rw [← prd_all]; exact hq))
  · exact X11_productL h.K e1 (hl e1)
theorem X9_low {z n : Nat} {G : Wd} {S : St} {la lb : Nat → Nat} {Q : Option Nat → Wd → Prop} (h : CR z G S la lb) (e3 : gI G (z + 5) 3 = nI n) (hn : n < 11) (hQ : Q (some (z + (11 + 2 * n))) G) : wpX9_low (z + 5) G Q := by
  unfold wpX9_low
  rw [e3, nI_clamp (by omega)]
  exact ⟨h.1.K 5 (by omega), z + 8, h.1.R 5 5 8 (by decide), h.1.K 8 (by omega), by rw [h.1.N 8 (by omega)]; exact vp_in_nI hn (by decide), _, (h.1.T hn).1, hQ⟩
theorem X9_high {z n : Nat} {G : Wd} {S : St} {la lb : Nat → Nat} {Q : Option Nat → Wd → Prop} (h : CR z G S la lb) (e3 : gI G (z + 5) 3 = nI n) (hn : n < 11) (hQ : Q (some (z + (12 + 2 * n))) G) : wpX9_high (z + 5) G Q := by
  unfold wpX9_high
  rw [e3, nI_clamp (by omega)]
  exact ⟨h.1.K 5 (by omega), z + 9, h.1.R 5 6 9 (by decide), h.1.K 9 (by omega), by rw [h.1.N 9 (by omega)]; exact vp_in_nI hn (by decide), _, (h.1.T hn).2.1, hQ⟩
/-- the way from a to b: 0 and its ends, NONE or LARGE -/
theorem X11_theWay {z a b : Nat} {G : Wd} {T S : St} {p d : Int32} {Q : Int64 → Wd → Prop} (h : mid z G T S) (hi : Inv S) (ha : a < 10) (hb : b < 10) (hp : rng p 0 7)
    (h1 : (wl S b (opl S p d (sM S)) a 10)[0]? = none → ∀ G', fxM (z + 54) skSI goSJ [19, 20, 21, 22, 23] G G' → Q (-9000000000000000005) G')
    (h2 : ∀ row u v, (wl S b (opl S p d (sM S)) a 10)[0]? = some row → plr S false row = some u → plr S true row = some v → ∀ G', fxM (z + 54) skSI goSJ [19, 20, 21, 22, 23] G G' → gJ G' (z + 54) 37 = u.1 → gJ G' (z + 54) 38 = u.2 → gJ G' (z + 54) 39 = v.1 → gJ G' (z + 54) 40 = v.2 → gI G' (z + 54) 22 = 0 → Q 0 G')
    (h3 : ∀ row, (wl S b (opl S p d (sM S)) a 10)[0]? = some row → (plr S false row = none ∨ plr S true row = none) → ∀ G', fxM (z + 54) skSI goSJ [19, 20, 21, 22, 23] G G' → Q (-9000000000000000004) G') : wpX11_theWay (z + 54) (nI a) (nI b) p d G Q := by
  unfold wpX11_theWay
  obtain ⟨hl, h24⟩ := opl_ok hi p d
  refine ⟨h.K, X11_findCounted h hi hp (fun G1 f1 m1 c1 => ⟨m1.K, ?_⟩)⟩
  refine X11_seekK m1 hi ha hb c1 (fun G2 f2 e22 _ hn hs => ?_)
  have f2' : fxM (z + 54) skSI goSJ [19, 20, 21, 22, 23] G G2 := (f1.mono (fun _ q => nomatch q) (fun _ q => nomatch q) (by decide)).tr (f2.mono (fun _ q => q) (fun _ q => q) (by decide))
  have m2 := m1.fx f2 (by decide) (by decide) (by decide)
  refine ⟨m2.K, ?_⟩
  cases e : (wl S b (opl S p d (sM S)) a 10)[0]? with
  | none => exact ifP (hn (by decide) e) (h1 e G2 f2')
  | some row =>
    obtain ⟨b1, b2, b3⟩ := hs row (by decide) e
    have hrow := wl_row (S := S) (b := b) (a := a) (j := 10) hi.1.1 hl (by omega) row (List.mem_of_getElem? e)
    rw [b1]
    obtain ⟨k23, l23, r23⟩ := m2.2.1.2 23 (by omega) (by omega)
    refine ifN (fun e => n10 e) ⟨z + 54 + 23, r23, ?_⟩
    -- the second product
    have second : ∀ G3, fxM (z + 54) [22] [20, 21] [] G2 G3 → (gI G3 (z + 54) 22 = 1 ∧ plr S false row = none ∨ gI G3 (z + 54) 22 = 0 ∧ ∃ u, plr S false row = some u ∧ gJ G3 (z + 54) 20 = u.1 ∧ gJ G3 (z + 54) 21 = u.2) → (gK G3 (z + 54) = 11 ∧ ∀ G13 : Wd, G13 = uJ G3 (z + 54) 37 (gJ G3 (z + 54) 20) → ∀ G15 : Wd, G15 = uJ G13 (z + 54) 38 (gJ G13 (z + 54) 21) → ∃ b17, gR G15 (z + 54) 32 = some b17 ∧ wpX11_product (z + 54) b17 (gI G15 (z + 54) 33) 1 G15 (fun G20 => gK G20 (z + 54) = 11 ∧ ∀ G22 : Wd, G22 = uJ G20 (z + 54) 39 (gJ G20 (z + 54) 20) → ∀ G24 : Wd, G24 = uJ G22 (z + 54) 40 (gJ G22 (z + 54) 21) → if (gI G24 (z + 54) 22) = 0 then (Q 0 G24) else (Q (-9000000000000000004) G24))) := by
      intro G3 f3 hc
      have f3' := f2'.up f3 (by decide) (by decide) (fun _ q => nomatch q)
      refine ⟨by rw [f3.K]; exact m2.K, fun G4 e4 G5 e5 => ?_⟩
      have f5 : fxM (z + 54) [] [37, 38] [] G3 G5 := by rw [e5, e4]; exact (fxM.rf.wJ 37 _ (by decide)).wJ 38 _ (by decide)
      have f5' := f3'.up f5 (fun _ q => nomatch q) (by decide) (fun _ q => nomatch q)
      have m5 := h.fx f5' (by decide) (by decide) (by decide)
      have cel5 : cel G5 (z + 54 + 23) row := b3.same (fun j => by rw [f5.AI 23 j (by omega) (by decide), f3.AI 23 j (by omega) (by decide)])
      have e33 : gI G5 (z + 54) 33 = nI row.length := by rw [f5.I 33 (by decide), f3.I 33 (by decide)]; exact b2
      have i22 : gI G5 (z + 54) 22 = gI G3 (z + 54) 22 := f5.I 22 (by decide)
      have j37 : gJ G5 (z + 54) 37 = gJ G3 (z + 54) 20 := by rw [e5, gJ_uJ, if_neg (by omega), e4, gJ_uJ, if_pos ⟨rfl, rfl⟩]
      have j38 : gJ G5 (z + 54) 38 = gJ G3 (z + 54) 21 := by rw [e5, gJ_uJ, if_pos ⟨rfl, rfl⟩, e4, gJ_uJ, if_neg (by omega)]
      refine ⟨z + 54 + 23, by rw [f5'.R]; exact (h.2.1.2 23 (by omega) (by omega)).2.2, ?_⟩
      have tail : ∀ G6, fxM (z + 54) [22] [20, 21] [] G5 G6 → ∀ (c : Int32), gI G6 (z + 54) 22 = c → (c = 1 → plr S false row = none ∨ plr S true row = none) → (c = 0 → ∃ u v, plr S false row = some u ∧ plr S true row = some v ∧ gJ G6 (z + 54) 37 = u.1 ∧ gJ G6 (z + 54) 38 = u.2 ∧ gJ G6 (z + 54) 20 = v.1 ∧ gJ G6 (z + 54) 21 = v.2) → (c = 0 ∨ c = 1) → (gK G6 (z + 54) = 11 ∧ ∀ G22 : Wd, G22 = uJ G6 (z + 54) 39 (gJ G6 (z + 54) 20) → ∀ G24 : Wd, G24 = uJ G22 (z + 54) 40 (gJ G22 (z + 54) 21) → if (gI G24 (z + 54) 22) = 0 then (Q 0 G24) else (Q (-9000000000000000004) G24)) := by
        intro G6 f6 c ec hc1 hc0 h01
        have f6' := f5'.up f6 (by decide) (by decide) (fun _ q => nomatch q)
        refine ⟨by rw [f6'.K]; exact h.K, fun G7 e7 G8 e8 => ?_⟩
        have f8 : fxM (z + 54) [] [39, 40] [] G6 G8 := by rw [e8, e7]; exact (fxM.rf.wJ 39 _ (by decide)).wJ 40 _ (by decide)
        have f8' := f6'.up f8 (fun _ q => nomatch q) (by decide) (fun _ q => nomatch q)
        rw [f8.I 22 (by decide), ec]
        rcases h01 with c0 | c1
        · obtain ⟨u, v, q1, q2, q3, q4, q5, q6⟩ := hc0 c0
          refine ifP c0 (h2 row u v e q1 q2 G8 f8' (by rw [f8.J 37 (by decide)]; exact q3) (by rw [f8.J 38 (by decide)]; exact q4) (by rw [e8, gJ_uJ, if_neg (by omega), e7, gJ_uJ, if_pos ⟨rfl, rfl⟩]; exact q5) (by rw [e8, gJ_uJ, if_pos ⟨rfl, rfl⟩, e7, gJ_uJ, if_neg (by omega)]; exact q6) (by rw [f8.I 22 (by decide), ec]; exact c0))
        · exact ifN (by rw [c1]; decide) (h3 row e (hc1 c1) G8 f8')
      refine X11_productR (e := true) m5 hi (Or.inr rfl) (by omega) cel5 hrow.1 e33 rfl (fun q G6 f6 => ?_) (fun q v hv G6 f6 j20 j21 => ?_) (fun q hv G6 f6 i6 => ?_) ?_
      · refine tail G6 (f6.mono (fun _ q => nomatch q) (fun _ q => q) (fun _ q => q)) 1 (by rw [f6.I 22 (fun q => nomatch q)]; exact q) (fun _ => ?_) (fun q => absurd q (by decide)) (Or.inr rfl)
        rcases hc with w | w
        · exact Or.inl w.2
        · rw [i22, w.1] at q; exact absurd q (by decide)
      · refine tail G6 (f6.mono (fun _ q => nomatch q) (fun _ q => q) (fun _ q => q)) 0 (by rw [f6.I 22 (fun q => nomatch q)]; exact q) (fun q => absurd q (by decide)) (fun _ => ?_) (Or.inl rfl)
        rcases hc with w | ⟨_, u, w1, w2, w3⟩
        · rw [i22, w.1] at q; exact absurd q (by decide)
        · exact ⟨u, v, w1, hv, by rw [f6.J 37 (by decide), j37]; exact w2, by rw [f6.J 38 (by decide), j38]; exact w3, j20, j21⟩
      · exact tail G6 f6 1 i6 (fun _ => Or.inr hv) (fun q => absurd q (by decide)) (Or.inr rfl)
      · rw [i22]
        rcases hc with w | w
        · exact Or.inr w.1
        · exact Or.inl w.1
    refine X11_productR (e := false) m2 hi (Or.inr rfl) (by omega) b3 hrow.1 b2 rfl (fun q => by rw [e22] at q; exact absurd q (by decide)) (fun _ u hu G3 f3 j20 j21 => ?_) (fun _ hu G3 f3 i3 => ?_) (Or.inl e22)
    · exact second G3 (f3.mono (fun _ q => nomatch q) (fun _ q => q) (fun _ q => q)) (Or.inr ⟨by rw [f3.I 22 (fun q => nomatch q)]; exact e22, u, hu, j20, j21⟩)
    · exact second G3 f3 (Or.inl ⟨i3, hu⟩)
theorem X11_endTold {m : Nat} {G : Wd} {u v : Int64 × Int64} {e p : Int32} {Q : Int64 → Wd → Prop} (hk : gK G m = 11) (e1 : gJ G m 37 = u.1) (e2 : gJ G m 38 = u.2) (e3 : gJ G m 39 = v.1) (e4 : gJ G m 40 = v.2) (hQ : Q (eOf (some u) (some v) e p) G) : wpX11_endTold m e p G Q := by
  have hQ : Q (if p = 0 then (if e = 0 then u else v).1 else (if e = 0 then u else v).2) G := hQ
  unfold wpX11_endTold
  rw [e1, e2, e3, e4]
  refine ifE (fun c => ifE (fun d => ⟨hk, ?_⟩) (fun d => ⟨hk, ?_⟩)) (fun c => ifE (fun d => ⟨hk, ?_⟩) (fun d => ⟨hk, ?_⟩))
  · rw [if_pos d, if_pos c] at hQ; exact hQ
  · rw [if_neg d, if_pos c] at hQ; exact hQ
  · rw [if_pos d, if_neg c] at hQ; exact hQ
  · rw [if_neg d, if_neg c] at hQ; exact hQ
theorem eOf_none {x y : Fr} (h : x = none ∨ y = none) (e p : Int32) : eOf x y e p = -9000000000000000004 := by
  rcases h with h | h
  · subst h; rfl
  · subst h; cases x <;> rfl
def oFactor (S : St) (p q e t : Int32) : Int64 := if rng p 0 99 ∧ rng q 0 79999 ∧ rng e 0 1 ∧ rng t 0 1 then (match (awl S p q)[0]? with | none => -9000000000000000005 | some row => eOf (plr S false row) (plr S true row) e t) else -9000000000000000001
theorem C_factor {z : Nat} {G : Wd} {S T : St} {p q e t : Int32} {Q : Int64 → Wd → Prop} (h : mid z G S T) (hi : Inv S) (hQ : ∀ G', mid z G' S T → Q (oFactor S p q e t) G') : wpX10_factor z p q e t G Q := by
  unfold oFactor at hQ
  have hb : ¬ (rng p 0 99 ∧ rng q 0 79999 ∧ rng e 0 1 ∧ rng t 0 1) → Q (-9000000000000000001) G := fun n => by have := hQ G h; rw [if_neg n] at this; exact this
  obtain ⟨⟨la, lb, hc⟩, hm⟩ := h
  unfold wpX10_factor
  refine X10_isPair (fun a => ifN (fun e => n10 e) (X10_isPlaceAndDay (fun b => ifN (fun e => n10 e) (X10_isEither (fun be => ifN (fun e => n10 e) (X10_isEither (fun bt => ifN (fun e => n10 e) ⟨hc.K, ?_⟩) (fun bt => ifP rfl (hb (fun c => bt c.2.2.2))))) (fun be => ifP rfl (hb (fun c => be c.2.2.1))))) (fun b => ifP rfl (hb (fun c => b c.2.1))))) (fun a => ifP rfl (hb (fun c => a c.1)))
  rw [if_pos ⟨a, b, be, bt⟩] at hQ
  obtain ⟨ea, eb, la10, lb10⟩ := ab_nI a
  obtain ⟨hl, h24⟩ := opl_ok hi (q / 10000) (q % 10000)
  refine X10_gather hc hi b (fun G1 f1 c1 o1 => ⟨c1.K, z + 5, c1.1.R 0 6 5 (by decide), z + 34, c1.1.R 0 8 34 (by decide), c1.1.K 5 (by omega), ?_⟩)
  rw [ea, eb]
  have fin : ∀ G2, chg (aP z) (fun _ => False) G1 G2 → mid z G2 S T := fun G2 f2 => mid.cls (c1.dst f2) hm ((f1.mono (P' := fun b => z + 5 ≤ b ∧ b ≤ z + 45) (R' := fun b => b = z + 6) (fun b q => by omega) (fun _ q => q)).tr (f2.mono (fun b q => by omega) (fun _ q => absurd q id))) (fun b q1 q2 => ⟨by omega, by omega⟩)
  refine X9_pickWay (k := 0) c1 hi o1 hl h24 la10 lb10 (by omega) rfl (fun hn G2 f2 => ifP rfl ?_) (fun row hr G2 f2 p2 e3 => ifN (fun e => n10 e) ?_)
  · have := hQ G2 (fin G2 f2)
    have hn' : (awl S p q)[0]? = none := hn
    rw [hn'] at this
    exact this
  · have := hQ G2 (fin G2 f2)
    have hr' : (awl S p q)[0]? = some row := hr
    have hrow := wl_row (S := S) (b := nv p % 10) (a := nv p / 10) (j := 10) hi.1.1 hl (by omega) row (List.mem_of_getElem? hr')
    rw [hr'] at this
    have c2 := c1.dst f2
    refine ⟨c2.K, z + 5, c2.1.R 0 6 5 (by decide), c2.1.K 5 (by omega), X9_low c2 e3 (by omega) ⟨_, rfl, c2.K, z + 5, c2.1.R 0 6 5 (by decide), c2.1.K 5 (by omega), X9_high c2 e3 (by omega) ⟨_, rfl, ?_⟩⟩⟩
    exact X10_endOf p2.end.1 p2.end.2 this
theorem M_factor {z : Nat} {G : Wd} {S T : St} {p q e t : Int32} {Q : Int64 → Wd → Prop} (h : mid z G T S) (hi : Inv S) (hQ : ∀ G', mid z G' T S → Q (oFactor S p q e t) G') : wpX11_factor (z + 54) p q e t G Q := by
  unfold oFactor at hQ
  have hb : ¬ (rng p 0 99 ∧ rng q 0 79999 ∧ rng e 0 1 ∧ rng t 0 1) → Q (-9000000000000000001) G := fun n => by have := hQ G h; rw [if_neg n] at this; exact this
  unfold wpX11_factor
  refine X11_isPair (fun a => ifN (fun e => n10 e) (X11_isTime (fun b => ifN (fun e => n10 e) (X11_isEnd (fun be => ifN (fun e => n10 e) ⟨h.K, ?_⟩) (fun be => ifP rfl (hb (fun c => be c.2.2))))) (fun b => ifP rfl (hb (fun c => b c.2.1))))) (fun a => ifP rfl (hb (fun c => a c.1)))
  rw [if_pos ⟨a, b, be⟩] at hQ
  obtain ⟨ea, eb, la10, lb10⟩ := ab_nI a
  rw [ea, eb]
  have fin : ∀ G', fxM (z + 54) skSI goSJ [19, 20, 21, 22, 23] G G' → mid z G' T S := fun G' f' => h.fx f' (by decide) (by decide) (by decide)
  refine X11_theWay h hi la10 lb10 (pd_rng b).1 (fun hn G' f' => ifN (by decide) ?_) (fun row u v hr hu hv G' f' j1 j2 j3 j4 _ => ifP rfl ⟨(fin G' f').K, ?_⟩) (fun row hr hx G' f' => ifN (by decide) ?_)
  · have := hQ G' (fin G' f')
    rw [show (awl S p q)[0]? = none from hn] at this
    exact this
  · have := hQ G' (fin G' f')
    rw [show (awl S p q)[0]? = some row from hr] at this
    dsimp only at this
    rw [hu, hv] at this
    exact X11_endTold (fin G' f').K j1 j2 j3 j4 this
  · have := hQ G' (fin G' f')
    rw [show (awl S p q)[0]? = some row from hr] at this
    dsimp only at this
    rw [eOf_none hx] at this
    exact this
theorem ok_factor : ok4 wpX10_factor wpX11_factor := ⟨fun S p q e t => (oFactor S p q e t, S), fun _ _ _ _ _ _ _ _ _ h hi hQ => C_factor h hi hQ, fun _ _ _ _ _ _ _ _ _ h hi hQ => M_factor h hi hQ, fun _ _ _ _ _ hi => hi⟩
