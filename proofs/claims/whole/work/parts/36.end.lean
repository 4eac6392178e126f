/-! ===== end ===== -/
/-- the reference's fraction is n / d in lowest terms -/
def rd (G : Wd) (m n d : Nat) : Prop := ∃ n1 d1 g, gJ G m 20 = lN n1 ∧ gJ G m 21 = lN d1 ∧ n = g * n1 ∧ d = g * d1 ∧ 0 < g ∧ Nat.gcd n1 d1 = 1
theorem rd.is {G : Wd} {m n d : Nat} (h : rd G m n d) : gJ G m 20 = (red n d).1 ∧ gJ G m 21 = (red n d).2 := by
  obtain ⟨n1, d1, g, h1, h2, h3, h4, h5, h6⟩ := h
  have e : Nat.gcd n d = g := by rw [h3, h4, Nat.gcd_mul_left, h6, Nat.mul_one]
  have q : red n d = (lN n1, lN d1) := by
    show (lN (n / Nat.gcd n d), lN (d / Nat.gcd n d)) = _
    rw [e, h3, h4, Nat.mul_div_cancel_left _ h5, Nat.mul_div_cancel_left _ h5]
  rw [q]
  exact ⟨h1, h2⟩
theorem rd.mul {G : Wd} {m n d n1 d1 g x y : Nat} (h : rd G m (n1 * x) (d1 * y)) (hn : n = g * n1) (hd : d = g * d1) (hg : 0 < g) : rd G m (n * x) (d * y) := by
  obtain ⟨a, b, c, h1, h2, h3, h4, h5, h6⟩ := h
  refine ⟨a, b, g * c, h1, h2, ?_, ?_, Nat.mul_pos hg h5, h6⟩
  · rw [hn, Nat.mul_assoc, h3, Nat.mul_assoc]
  · rw [hd, Nat.mul_assoc, h4, Nat.mul_assoc]
theorem rd.scale {G : Wd} {m n d x : Nat} (h : rd G m n d) (hx : 0 < x) : rd G m (n * x) (d * x) := by
  obtain ⟨a, b, c, h1, h2, h3, h4, h5, h6⟩ := h
  refine ⟨a, b, c * x, h1, h2, ?_, ?_, Nat.mul_pos h5 hx, h6⟩
  · rw [h3]; ac_rfl
  · rw [h4]; ac_rfl
theorem X11_setN {G : Wd} {m n d : Nat} {Q : Wd → Prop} (hk : gK G m = 11) (hn : n < 9223372036854775808) (hd : d < 9223372036854775808) (h0 : 0 < d) (h : ∀ G', fxM m [] [20, 21] [] G G' → rd G' m n d → Q G') : wpX11_set m (lN n) (lN d) G Q := by
  have h1 := Nat.gcd_le_right n h0
  have h2 := Nat.gcd_pos_of_pos_right n h0
  refine X11_set hk (nmL hn) (nmL hd) (by rw [lT hd]; omega) (fun G' f e1 e2 => h G' f ⟨n / Nat.gcd n d, d / Nat.gcd n d, Nat.gcd n d, ?_, ?_, ?_, ?_, h2, ?_⟩)
  · rw [e1]; unfold g1; rw [jg_lN hn hd, show max (Nat.gcd n d) 1 = Nat.gcd n d by omega, lN_div hn (by omega)]
  · rw [e2]; unfold g1; rw [jg_lN hn hd, show max (Nat.gcd n d) 1 = Nat.gcd n d by omega, lN_div hd (by omega)]
  · exact (Nat.mul_div_cancel' (Nat.gcd_dvd_left n d)).symm
  · exact (Nat.mul_div_cancel' (Nat.gcd_dvd_right n d)).symm
  · have a1 := Nat.mul_div_cancel' (Nat.gcd_dvd_left n d)
    have a2 := Nat.mul_div_cancel' (Nat.gcd_dvd_right n d)
    have a3 := Nat.gcd_mul_left (Nat.gcd n d) (n / Nat.gcd n d) (d / Nat.gcd n d)
    rw [a1, a2] at a3
    exact Nat.eq_of_mul_eq_mul_left h2 (by rw [← a3, Nat.mul_one])
theorem mid.fx {z : Nat} {G G' : Wd} {T S : St} {SI SJ AR : List Nat} (h : mid z G T S) (f : fxM (z + 54) SI SJ AR G G') (h1 : 1 ∉ SI) (h2 : 15 ∉ SI) (h3 : ∀ o ∈ AR, 18 < o ∧ o ≤ 26) : mid z G' T S := by
  obtain ⟨⟨la, lb, hc⟩, hm⟩ := h
  exact ⟨⟨la, lb, hc.fx f (fun o q => (h3 o q).2)⟩, hm.fx f h1 h2 (fun o q => (h3 o q).1)⟩
theorem rd.le {G : Wd} {m n d : Nat} (h : rd G m n d) (hd : 0 < d) : ∃ n1 d1 g, gJ G m 20 = lN n1 ∧ gJ G m 21 = lN d1 ∧ n = g * n1 ∧ d = g * d1 ∧ 0 < g ∧ n1 ≤ n ∧ d1 ≤ d ∧ 0 < d1 := by
  obtain ⟨a, b, c, h1, h2, h3, h4, h5, h6⟩ := h
  refine ⟨a, b, c, h1, h2, h3, h4, h5, ?_, ?_, ?_⟩
  · rw [h3]; exact Nat.le_mul_of_pos_left a h5
  · rw [h4]; exact Nat.le_mul_of_pos_left b h5
  · rcases Nat.eq_zero_or_pos b with e | e
    · rw [e, Nat.mul_zero] at h4; omega
    · exact e
/-- one more step: times x / y -/
theorem X11_by {z : Nat} {G : Wd} {T S : St} {n d x y : Nat} {u v : Int64} {Q : Wd → Prop} (h : mid z G T S) (hr : rd G (z + 54) n d) (hn : n ≤ 10000000) (hd : d ≤ 10000000) (h0 : 0 < d) (hx : x ≤ 10000) (hy : y ≤ 10000) (hy0 : 0 < y) (eu : ∀ a : Nat, gJ G (z + 54) 20 = lN a → u = lN (a * x)) (ev : ∀ a : Nat, gJ G (z + 54) 21 = lN a → v = lN (a * y)) (hQ : ∀ G', fxM (z + 54) [] [20, 21] [] G G' → mid z G' T S → rd G' (z + 54) (n * x) (d * y) → Q G') : wpX11_set (z + 54) u v G Q := by
  obtain ⟨a, b, g, h1, h2, h3, h4, h5, h6, h7, h8⟩ := hr.le h0
  rw [eu a h1, ev b h2]
  have m1 : a * x ≤ 10000000 * 10000 := Nat.mul_le_mul (by omega) hx
  have m2 : b * y ≤ 10000000 * 10000 := Nat.mul_le_mul (by omega) hy
  exact X11_setN h.K (by omega) (by omega) (Nat.mul_pos h8 hy0) (fun G' f r => hQ G' f (h.fx f (fun q => nomatch q) (fun q => nomatch q) (fun o q => nomatch q)) (r.mul h3 h4 h5))
set_option maxRecDepth 100000 in
theorem X11_endOf {z : Nat} {G : Wd} {T S : St} {k e : Int32} {Q : Wd → Prop} (h : mid z G T S) (hi : Inv S) (hk : rng k 0 23) (ak : nv k < sM S) (he : rng e 0 1) (hQ : ∀ G', fxM (z + 54) [] [20, 21] [] G G' → mid z G' T S → gJ G' (z + 54) 20 = (if e = 0 then endL S (nv k) else endH S (nv k)).1 → gJ G' (z + 54) 21 = (if e = 0 then endL S (nv k) else endH S (nv k)).2 → Q G') : wpX11_endOf (z + 54) k e G Q := by
  have hr := hi.2.2.1 (nv k) ak
  have hM := hi.1.1
  have g2 := hr.1
  have g5 := hr.2.2.2.1
  have g6 := hr.2.2.2.2.1
  have g11 := hr.2.2.2.2.2.2.2.2.2.1
  have e5 : sA S 5 (nv k) = nI (nv (sA S 5 (nv k))) := nI_nv (by have := g5.1; omega)
  have e6 : sA S 6 (nv k) = nI (nv (sA S 6 (nv k))) := nI_nv (by have := g6.1; omega)
  have e11 : sA S 11 (nv k) = nI (nv (sA S 11 (nv k))) := nI_nv g11.1
  have v5 := nv_i (x := sA S 5 (nv k)) (by have := g5.1; omega)
  have v6 := nv_i (x := sA S 6 (nv k)) (by have := g6.1; omega)
  have v11 := nv_i g11.1
  have b5 := g5.2
  have b5' := g5.1
  have b6 := g6.1
  have b6' := g6.2
  have b11 := g11.2
  have hv : vp_in k 24 := vpn hk.1 (by have := hk.2; show k.toInt < 24; omega)
  have hI : ∀ {G : Wd}, mid z G T S → ∀ o, 2 ≤ o → o ≤ 12 → mNs o = 24 → gI G (z + 54 + o) (k).toNatClampNeg = sA S o (nv k) := fun h o o1 o2 e => h.I o (nv k) (by omega) (by omega) (by rw [e]; omega)
  generalize eP : nv (sA S 5 (nv k)) = P at *
  generalize eq : nv (sA S 6 (nv k)) = q at *
  generalize es : nv (sA S 11 (nv k)) = s at *
  have ml : ∀ a x : Nat, a ≤ 1000 → x ≤ 1500 → a * x ≤ 1500000 := fun a x h1 h2 => Nat.mul_le_mul h1 h2
  -- the last step
  have R111 : ∀ {G1 : Wd} (n d : Nat), fxM (z + 54) [] [20, 21] [] G G1 → mid z G1 T S → rd G1 (z + 54) n d → n ≤ 1500000 → d ≤ 1000000 → 0 < d → (sA S 2 (nv k) = 4 → e = 0 → red n (d * 2) = endL S (nv k)) → (sA S 2 (nv k) = 4 → ¬ e = 0 → red (n * 2) d = endH S (nv k)) → (¬ sA S 2 (nv k) = 4 → red n d = (if e = 0 then endL S (nv k) else endH S (nv k))) → wpX11_endOf_111 Q (z + 54) k e G1 := by
    intro G1 n d f1 h1 r1 bn bd bd0 q1 q2 q3
    unfold wpX11_endOf_111 wpX11_endOf_141 wpX11_endOf_160
    refine ⟨h1.K, h1.2.at 2 2 20 24 rfl rfl rfl (by omega) (by omega) hv ?_⟩
    rw [hI h1 2 (by omega) (by omega) rfl]
    refine ifE (fun c => ifE (fun c0 => ifP c0 ⟨h1.K, h1.K, ?_⟩) (fun c0 => ifN c0 ⟨h1.K, h1.K, ?_⟩)) (fun c => ?_)
    · refine X11_by (x := 1) (y := 2) h1 r1 (by omega) (by omega) bd0 (by omega) (by omega) (by omega) (fun a e => by rw [e, Nat.mul_one]) (fun a e => by rw [e, show (2 : Int64) = lN 2 from rfl, lN_mulI, Nat.mul_comm]) (fun G2 f2 h2 r2 => ?_)
      rw [Nat.mul_one] at r2
      obtain ⟨w1, w2⟩ := r2.is
      rw [q1 c c0] at w1 w2
      rw [if_pos c0] at hQ
      exact hQ G2 (f1.tr f2) h2 w1 w2
    · refine X11_by (x := 2) (y := 1) h1 r1 (by omega) (by omega) bd0 (by omega) (by omega) (by omega) (fun a e => by rw [e, show (2 : Int64) = lN 2 from rfl, lN_mulI, Nat.mul_comm]) (fun a e => by rw [e, Nat.mul_one]) (fun G2 f2 h2 r2 => ?_)
      rw [Nat.mul_one] at r2
      obtain ⟨w1, w2⟩ := r2.is
      rw [q2 c c0] at w1 w2
      rw [if_neg c0] at hQ
      exact hQ G2 (f1.tr f2) h2 w1 w2
    · obtain ⟨w1, w2⟩ := r1.is
      rw [q3 c] at w1 w2
      exact hQ G1 f1 h1 w1 w2
  unfold wpX11_endOf
  refine ⟨h.K, h.2.at 5 5 20 24 rfl rfl rfl (by omega) (by omega) hv (h.2.at 6 6 20 24 rfl rfl rfl (by omega) (by omega) hv ?_)⟩
  rw [hI h 5 (by omega) (by omega) rfl, hI h 6 (by omega) (by omega) rfl, e5, e6, nI_l (by omega), nI_l (by omega)]
  refine X11_setN h.K (by omega) (by omega) (by omega) (fun G1 f1 r1 => ?_)
  have h1 := h.fx f1 (fun q => nomatch q) (fun q => nomatch q) (fun o q => nomatch q)
  refine ⟨h1.K, X11_isHeaped h1 hk (fun c => ifN (fun e => n10 e) ⟨h1.K, h1.2.at 11 11 20 24 rfl rfl rfl (by omega) (by omega) hv ?_⟩) (fun c => ifP rfl ⟨h1.K, X11_isDoubtful h1 hk (fun d => ifN (fun e => n10 e) ⟨h1.K, ?_⟩) (fun d => ifP rfl ?_)⟩)⟩
  · -- heaped
    rw [hI h1 11 (by omega) (by omega) rfl, e11, nI_l (by omega)]
    refine X11_by (x := 1000 + s) (y := 1000) h1 r1 (by omega) (by omega) (by omega) (by omega) (by omega) (by omega) (fun a e => by rw [e, show (1000 : Int64) = lN 1000 from rfl, lN_addI, lN_mulI]) (fun a e => by rw [e, show (1000 : Int64) = lN 1000 from rfl, lN_mulI]) (fun G2 f2 h2 r2 => ?_)
    have hp : isHp (nv (sA S 2 (nv k))) = true := (hpK g2).mp ((isK1 g2).mpr c)
    have hd : isDb (nv (sA S 2 (nv k))) = false := by
      rcases c with c | c <;> rw [c] <;> decide
    have hw : ¬ nv (sA S 2 (nv k)) = 4 := by
      rcases c with c | c <;> rw [c] <;> decide
    have m1 := ml P (1000 + s) (by omega) (by omega)
    refine R111 (P * (1000 + s)) (q * 1000) (f1.tr f2) h2 r2 m1 (by omega) (by omega) (fun x => absurd ((wdK g2).mp x) hw) (fun x => absurd ((wdK g2).mp x) hw) (fun _ => ?_)
    by_cases c0 : e = 0
    · rw [if_pos c0]; unfold endL lsh wid; rw [hd, hp, if_neg hw, eP, eq, es, Nat.mul_one]; rfl
    · rw [if_neg c0]; unfold endH hsh wid; rw [hd, hp, if_neg hw, eP, eq, es, Nat.mul_one]; rfl
  · -- doubtful
    have hd : isDb (nv (sA S 2 (nv k))) = true := (dbK g2).mp ((isK2 g2).mpr d)
    unfold wpX11_endOf_99
    refine ifE (fun c0 => h1.2.at 11 11 20 24 rfl rfl rfl (by omega) (by omega) hv ⟨h1.K, h1.K, ?_⟩) (fun c0 => h1.2.at 11 11 20 24 rfl rfl rfl (by omega) (by omega) hv ⟨h1.K, h1.K, ?_⟩)
    · rw [hI h1 11 (by omega) (by omega) rfl, e11, nI_l (by omega)]
      obtain ⟨t, ht⟩ : ∃ t, t = 1000 - s := ⟨_, rfl⟩
      refine X11_by (x := t) (y := 1000) h1 r1 (by omega) (by omega) (by omega) (by omega) (by omega) (by omega) (fun a e => by rw [e, show (1000 : Int64) = lN 1000 from rfl, lN_subI (by omega), lN_mulI, ht]) (fun a e => by rw [e, show (1000 : Int64) = lN 1000 from rfl, lN_mulI]) (fun G2 f2 h2 r2 => ?_)
      have m1 := ml P t (by omega) (by omega)
      refine R111 (P * t) (q * 1000) (f1.tr f2) h2 r2 m1 (by omega) (by omega) (fun x _ => ?_) (fun x y => absurd c0 y) (fun x => ?_)
      · unfold endL lsh wid; rw [hd, if_pos ((wdK g2).mp x), eP, eq, es, ht]; rfl
      · rw [if_pos c0]; unfold endL lsh wid; rw [hd, if_neg (fun y => x ((wdK g2).mpr y)), eP, eq, es, Nat.mul_one, ht]; rfl
    · rw [hI h1 11 (by omega) (by omega) rfl, e11, nI_l (by omega)]
      refine X11_by (x := 1000 + s) (y := 1000) h1 r1 (by omega) (by omega) (by omega) (by omega) (by omega) (by omega) (fun a e => by rw [e, show (1000 : Int64) = lN 1000 from rfl, lN_addI, lN_mulI]) (fun a e => by rw [e, show (1000 : Int64) = lN 1000 from rfl, lN_mulI]) (fun G2 f2 h2 r2 => ?_)
      have m1 := ml P (1000 + s) (by omega) (by omega)
      refine R111 (P * (1000 + s)) (q * 1000) (f1.tr f2) h2 r2 m1 (by omega) (by omega) (fun x y => absurd y c0) (fun x _ => ?_) (fun x => ?_)
      · unfold endH hsh wid; rw [hd, if_pos ((wdK g2).mp x), eP, eq, es]; rfl
      · rw [if_neg c0]; unfold endH hsh wid; rw [hd, if_neg (fun y => x ((wdK g2).mpr y)), eP, eq, es, Nat.mul_one]; rfl
  · -- plain
    have k0 : sA S 2 (nv k) = 0 := by
      rcases kd5 g2 with x | x | x | x | x
      · exact x
      · exact absurd (.inl x) c
      · exact absurd (.inl x) d
      · exact absurd (.inr x) c
      · exact absurd (.inr x) d
    have r2 := r1.scale (x := 1000) (by omega)
    refine R111 (P * 1000) (q * 1000) f1 h1 r2 (by omega) (by omega) (by omega) (fun x => absurd (k0.symm.trans x) (by decide)) (fun x => absurd (k0.symm.trans x) (by decide)) (fun _ => ?_)
    have hd : isDb (nv (sA S 2 (nv k))) = false := by rw [k0]; decide
    have hp : isHp (nv (sA S 2 (nv k))) = false := by rw [k0]; decide
    have hw : ¬ nv (sA S 2 (nv k)) = 4 := by rw [k0]; decide
    by_cases c0 : e = 0
    · rw [if_pos c0]; unfold endL lsh wid; rw [hd, hp, if_neg hw, eP, eq, Nat.mul_one]; rfl
    · rw [if_neg c0]; unfold endH hsh wid; rw [hd, hp, if_neg hw, eP, eq, Nat.mul_one]; rfl
def oEnd (S : St) (k e p : Int32) : Int64 := if rng k 0 ((sM S : Int) - 1) ∧ rng e 0 1 ∧ rng p 0 1 then (if p = 0 then (if e = 0 then endL S (nv k) else endH S (nv k)).1 else (if e = 0 then endL S (nv k) else endH S (nv k)).2) else -9000000000000000001
theorem M_end {z : Nat} {G : Wd} {S T : St} {k e p : Int32} {Q : Int64 → Wd → Prop} (h : mid z G T S) (hi : Inv S) (hQ : ∀ G', mid z G' T S → Q (oEnd S k e p) G') : wpX11_end (z + 54) k e p G Q := by
  unfold oEnd at hQ
  have hb : ¬ (rng k 0 ((sM S : Int) - 1) ∧ rng e 0 1 ∧ rng p 0 1) → Q (-9000000000000000001) G := fun n => by rw [if_neg n] at hQ; exact hQ G h
  unfold wpX11_end
  refine ⟨h.K, X11_isOne h hi.1.1 (fun a ak => ifN (fun e => n10 e) ?_) (fun a => ifP rfl (hb (fun c => a c.1)))⟩
  refine X11_in 0 1 rfl rfl (fun b => ifN (fun e => n10 e) (X11_in 0 1 rfl rfl (fun d => ifN (fun e => n10 e) ⟨h.K, ?_⟩) (fun d => ifP rfl (hb (fun c => d c.2.2))))) (fun b => ifP rfl (hb (fun c => b c.2.1)))
  rw [if_pos ⟨a, b, d⟩] at hQ
  refine X11_endOf h hi (rng24 a hi.1.1) ak b (fun G' f h' w1 w2 => ?_)
  refine ifE (fun c => ⟨h'.K, ?_⟩) (fun c => ⟨h'.K, ?_⟩)
  · rw [w1]; rw [if_pos c] at hQ; exact hQ G' h'
  · rw [w2]; rw [if_neg c] at hQ; exact hQ G' h'
/-- the class's endOf, of two fractions that are not LARGE -/
def eOf (x y : Fr) (e p : Int32) : Int64 := match x, y with
  | some l, some h => if p = 0 then (if e = 0 then l else h).1 else (if e = 0 then l else h).2
  | _, _ => -9000000000000000004
theorem X10_endOf {G : Wd} {a b : Nat} {x y : Fr} {e p : Int32} {Q : Int64 → Wd → Prop} (ha : isF G a x) (hb : isF G b y) (hQ : Q (eOf x y e p) G) : wpX10_endOf a b e p G Q := by
  unfold wpX10_endOf wpX10_endOf_27
  refine ⟨ha.1, ?_⟩
  cases x with
  | none =>
    have hQ : Q (-9000000000000000004) G := hQ
    refine ifN ?_ hQ
    rw [ha.2.1]; decide
  | some l =>
    refine ifP ha.2.1 ⟨hb.1, ?_⟩
    cases y with
    | none =>
      have hQ : Q (-9000000000000000004) G := hQ
      refine ifN ?_ hQ
      rw [hb.2.1]; decide
    | some r =>
      have hQ : Q (if p = 0 then (if e = 0 then l else r).1 else (if e = 0 then l else r).2) G := hQ
      refine ifP hb.2.1 (ifE (fun c => ifE (fun d => ⟨ha.1, ?_⟩) (fun d => ⟨ha.1, ?_⟩)) (fun c => ifE (fun d => ⟨hb.1, ?_⟩) (fun d => ⟨hb.1, ?_⟩)))
      · rw [ha.2.2.1]; rw [if_pos d, if_pos c] at hQ; exact hQ
      · rw [ha.2.2.2]; rw [if_neg d, if_pos c] at hQ; exact hQ
      · rw [hb.2.2.1]; rw [if_pos d, if_neg c] at hQ; exact hQ
      · rw [hb.2.2.2]; rw [if_neg d, if_neg c] at hQ; exact hQ
theorem C_end {z : Nat} {G : Wd} {S T : St} {k e p : Int32} {Q : Int64 → Wd → Prop} (h : mid z G S T) (hi : Inv S) (hQ : Q (oEnd S k e p) G) : wpX10_end z k e p G Q := by
  unfold oEnd at hQ
  have hb : ¬ (rng k 0 ((sM S : Int) - 1) ∧ rng e 0 1 ∧ rng p 0 1) → Q (-9000000000000000001) G := fun n => by rw [if_neg n] at hQ; exact hQ
  obtain ⟨⟨la, lb, hc⟩, hm⟩ := h
  unfold wpX10_end
  refine ⟨hc.K, X10_find hc hi.1.1 (fun a ak => ?_) (fun a => hb (fun c => a c.1))⟩
  refine X10_isEither (fun b => ifN (fun e => n10 e) (X10_isEither (fun d => ifN (fun e => n10 e) ?_) (fun d => ifP rfl (hb (fun c => d c.2.2))))) (fun b => ifP rfl (hb (fun c => b c.2.1)))
  rw [if_pos ⟨a, b, d⟩] at hQ
  obtain ⟨b1, b2, b3, b4, b5, b6, b7, b8⟩ := (hc.2.2.2.2.1 (nv k) ak).2
  exact ⟨b1, _, b5, _, b6, X10_endOf b7 b8 hQ⟩
