/-! ===== customs: copy, part, whole ===== -/
def cpy (S : St) (c d : Nat) : Nat → St
  | 0 => S
  | i + 1 => sSet (cpy S c d i) 14 (5 * d + i) (sA (cpy S c d i) 14 (5 * c + i))
theorem cpy_A (S : St) (c d n : Nat) : ∀ o j, o ≠ 14 → sA (cpy S c d n) o j = sA S o j := by
  induction n with
  | zero => intro o j _; rfl
  | succ n ih =>
    intro o j h
    show sA (sSet (cpy S c d n) 14 (5 * d + n) _) o j = _
    rw [sA_set, if_neg (fun q => h q.1), ih o j h]
def oCopy (S : St) (c d n : Int32) : Int64 × St := if rng c 0 3 ∧ rng d 0 3 then (if sA S 13 (nv c) < 0 ∨ sA S 13 (nv d) < 0 then (-9000000000000000011, S) else (if 0 ≤ n.toInt ∧ n.toInt ≤ (sA S 13 (nv c)).toInt ∧ n.toInt ≤ (sA S 13 (nv d)).toInt then (n.toInt64, cpy S (nv c) (nv d) (nv n)) else (-9000000000000000013, S))) else (-9000000000000000001, S)
theorem C_copy_loop {z c d N : Nat} {S T : St} {Q : Int64 → Wd → Prop} (hc : c < 4) (hd : d < 4) (hN : N ≤ 5) (sc : ¬ sA S 13 c < 0) (sd : ¬ sA S 13 d < 0) (hQ : ∀ G', mid z G' (cpy S c d N) T → Q (nI N).toInt64 G') (n : Nat) : ∀ (i : Nat) (G : Wd), i ≤ N → i + n = N + 1 → mid z G (cpy S c d i) T → wpX10_copy_77 Q n (nI N) (z + (46 + 2 * c)) (z + (46 + 2 * d)) (nI i) G := by
  induction n with
  | zero => intro i G le e; omega
  | succ n ih =>
    intro i G le e h
    unfold wpX10_copy_77
    refine ifE (fun a => ?_) (fun a => ?_)
    · rw [nI_leI (by omega) (by omega)] at a
      have : i = N := by omega
      subst this
      exact hQ G h
    · rw [nI_leI (by omega) (by omega)] at a
      obtain ⟨⟨la, lb, hr⟩, hm⟩ := h
      obtain ⟨p1, p2, p3, p4, p5⟩ := hr.1.C hc
      obtain ⟨q1, q2, q3, q4, q5⟩ := hr.1.C hd
      refine ⟨q3, z + (47 + 2 * d), q2, p3, z + (47 + 2 * c), p2, p4, by rw [p5]; exact vp_in_nI (by omega) (by decide), q4, by rw [q5]; exact vp_in_nI (by omega) (by decide), fun G1 e1 x hx => ?_⟩
      have sc' : ¬ sA (cpy S c d i) 13 c < 0 := by rw [cpy_A _ _ _ _ _ _ (by omega)]; exact sc
      have sd' : ¬ sA (cpy S c d i) 13 d < 0 := by rw [cpy_A _ _ _ _ _ _ (by omega)]; exact sd
      rw [nI_clamp (by omega), ((hr.2.2.2.2.2.2.2 c hc).2 sc').2 i (by omega)] at e1
      rw [nI_1] at hx
      subst e1; subst hx
      exact ih (i + 1) _ (by omega) (by omega) ⟨⟨la, lb, hr.setStep hd (by omega) sd' _⟩, cuMR hm hd (chg.rf.wI _ _ _ (.inr rfl))⟩
theorem C_copy {z : Nat} {G : Wd} {S T : St} {c d n : Int32} {Q : Int64 → Wd → Prop} (h : mid z G S T) (hi : Inv S) (hQ : ∀ G', mid z G' (oCopy S c d n).2 T → Q (oCopy S c d n).1 G') : wpX10_copy z c d n G Q := by
  unfold oCopy at hQ
  have h0 := h
  obtain ⟨⟨la, lb, hc⟩, hm⟩ := h
  unfold wpX10_copy
  refine ⟨hc.K, X10_findCustom hc (fun a ak => ⟨hc.K, X10_findCustom hc (fun b bk => ?_) (fun b => by rw [if_neg (fun q => b q.2)] at hQ; exact hQ G h0)⟩) (fun a => ⟨hc.K, X10_findCustom hc (fun b bk => by rw [if_neg (fun q => a q.1)] at hQ; exact hQ G h0) (fun b => by rw [if_neg (fun q => a q.1)] at hQ; exact hQ G h0)⟩)⟩
  rw [if_pos ⟨a, b⟩] at hQ
  obtain ⟨p1, p2, p3, p4, p5⟩ := hc.1.C ak
  obtain ⟨q1, q2, q3, q4, q5⟩ := hc.1.C bk
  have h8 := hc.2.2.2.2.2.2.2 (nv c) ak
  have h9 := hc.2.2.2.2.2.2.2 (nv d) bk
  refine ⟨p3, ?_⟩
  rw [h8.1]
  by_cases sc : sA S 13 (nv c) < 0
  · rw [if_pos (.inl sc)] at hQ
    rw [if_pos sc]
    exact ifN (fun e => n10 e) (hQ G h0)
  rw [if_neg sc]
  refine ifP rfl ⟨q3, ?_⟩
  rw [h9.1]
  by_cases sd : sA S 13 (nv d) < 0
  · rw [if_pos (.inr sd)] at hQ
    rw [if_pos sd]
    exact ifN (fun e => n10 e) (hQ G h0)
  rw [if_neg sd]
  rw [if_neg (fun q => q.elim sc sd)] at hQ
  refine ifP rfl ?_
  rw [(h8.2 sc).1, (h9.2 sd).1]
  have r13 := (hi.2.2.2.1 (nv c) ak).2
  have hb : ¬ (0 ≤ n.toInt ∧ n.toInt ≤ (sA S 13 (nv c)).toInt ∧ n.toInt ≤ (sA S 13 (nv d)).toInt) → Q (-9000000000000000013) G := fun n => by rw [if_neg n] at hQ; exact hQ G h0
  refine ifE (fun x => hb (fun y => ?_)) (fun x => ifE (fun x2 => hb (fun y => ?_)) (fun x2 => ifE (fun x3 => ?_) (fun x3 => hb (fun y => ?_))))
  · rw [i_lt, il0] at x; omega
  · rw [i_lt] at x2; omega
  · rw [i_lt, il0] at x; rw [i_lt] at x2; rw [i_le] at x3
    rw [if_pos ⟨by omega, by omega, by omega⟩] at hQ
    have eN := nI_nv (x := n) (by omega)
    have en := nv_i (x := n) (by omega)
    refine ⟨nv n + 1, ?_⟩
    have := C_copy_loop (z := z) (S := S) (T := T) (Q := Q) (N := nv n) ak bk (by omega) sc sd (fun G' h' => by rw [← eN]; exact hQ G' h') (nv n + 1) 0 G (by omega) (by omega) h0
    rw [← eN] at this
    exact this
  · rw [i_le] at x3; omega
theorem M_copy_loop {z c d N : Nat} {S T : St} {Q : Int64 → Wd → Prop} (hc : c < 4) (hd : d < 4) (hN : N ≤ 5) (hQ : ∀ G', mid z G' T (cpy S c d N) → Q (nI N).toInt64 G') (n : Nat) : ∀ (i : Nat) (G : Wd), i ≤ N → i + n = N + 1 → mid z G T (cpy S c d i) → wpX11_copy_71 Q n (z + 54) (nI c) (nI d) (nI N) (nI i) G := by
  induction n with
  | zero => intro i G le e; omega
  | succ n ih =>
    intro i G le e h
    unfold wpX11_copy_71
    rw [c5i, c5i]
    refine ifE (fun a => ?_) (fun a => ?_)
    · rw [nI_leI (by omega) (by omega)] at a
      have : i = N := by omega
      subst this
      exact hQ G h
    · rw [nI_leI (by omega) (by omega)] at a
      obtain ⟨q1, q2, q3⟩ := h.2.1.2 14 (by omega) (by omega)
      refine ⟨h.K, z + 54 + 14, q3, z + 54 + 14, q3, q1, by rw [q2]; exact vp_in_nI (by show 5 * c + i < 20; omega) (by decide), q1, by rw [q2]; exact vp_in_nI (by show 5 * d + i < 20; omega) (by decide), fun G1 e1 x hx => ?_⟩
      rw [nI_clamp (by omega), nI_clamp (by omega), h.I 14 _ (by omega) (by omega) (by show 5 * c + i < 20; omega)] at e1
      rw [nI_1] at hx
      subst e1; subst hx
      exact ih (i + 1) _ (by omega) (by omega) (h.setM 14 _ _ (by omega) (by omega))
theorem M_copy {z : Nat} {G : Wd} {S T : St} {c d n : Int32} {Q : Int64 → Wd → Prop} (h : mid z G T S) (hi : Inv S) (hQ : ∀ G', mid z G' T (oCopy S c d n).2 → Q (oCopy S c d n).1 G') : wpX11_copy (z + 54) c d n G Q := by
  unfold oCopy at hQ
  unfold wpX11_copy
  refine X11_isCustom (fun a => ifN (fun e => n10 e) (X11_isCustom (fun b => ifN (fun e => n10 e) ?_) (fun b => ifP rfl (by rw [if_neg (fun q => b q.2)] at hQ; exact hQ G h)))) (fun a => ifP rfl (by rw [if_neg (fun q => a q.1)] at hQ; exact hQ G h))
  rw [if_pos ⟨a, b⟩] at hQ
  have a1 := a.1
  have a2 := a.2
  have b1 := b.1
  have b2 := b.2
  have ec := nv_i a1
  have ed := nv_i b1
  have r13 := (hi.2.2.2.1 (nv c) (by omega)).2
  have hv : vp_in c 4 := vpn a1 (by show c.toInt < 4; omega)
  have hw : vp_in d 4 := vpn b1 (by show d.toInt < 4; omega)
  have e13 : gI G (z + 54 + 13) (c).toNatClampNeg = sA S 13 (nv c) := h.I 13 (nv c) (by omega) (by omega) (by show nv c < 4; omega)
  have f13 : gI G (z + 54 + 13) (d).toNatClampNeg = sA S 13 (nv d) := h.I 13 (nv d) (by omega) (by omega) (by show nv d < 4; omega)
  refine ⟨h.K, h.2.at 13 13 20 4 rfl rfl rfl (by omega) (by omega) hv ?_⟩
  rw [e13]
  refine ifE (fun sc => ?_) (fun sc => h.2.at 13 13 20 4 rfl rfl rfl (by omega) (by omega) hw ?_)
  · rw [if_pos (.inl sc)] at hQ; exact hQ G h
  rw [f13]
  refine ifE (fun sd => ?_) (fun sd => ?_)
  · have sd' : ¬ sA S 13 (nv d) < 0 := by rw [i_le, il0] at sd; rw [i_lt, il0]; omega
    rw [if_neg (fun q => q.elim sc sd')] at hQ
    have hb : ¬ (0 ≤ n.toInt ∧ n.toInt ≤ (sA S 13 (nv c)).toInt ∧ n.toInt ≤ (sA S 13 (nv d)).toInt) → Q (-9000000000000000013) G := fun n => by rw [if_neg n] at hQ; exact hQ G h
    refine ifE (fun x => hb (fun y => ?_)) (fun x => h.2.at 13 13 20 4 rfl rfl rfl (by omega) (by omega) hv ?_)
    · rw [i_lt, il0] at x; omega
    rw [e13]
    refine ifE (fun x2 => hb (fun y => ?_)) (fun x2 => h.2.at 13 13 20 4 rfl rfl rfl (by omega) (by omega) hw ?_)
    · rw [i_lt] at x2; omega
    rw [f13]
    refine ifE (fun x3 => ?_) (fun x3 => hb (fun y => ?_))
    · rw [i_lt, il0] at x; rw [i_lt] at x2; rw [i_le] at x3
      rw [if_pos ⟨by omega, by omega, by omega⟩] at hQ
      have eN := nI_nv (x := n) (by omega)
      have en := nv_i (x := n) (by omega)
      refine ⟨nv n + 1, ?_⟩
      have := M_copy_loop (z := z) (S := S) (T := T) (Q := Q) (N := nv n) (c := nv c) (d := nv d) (by omega) (by omega) (by omega) (fun G' h' => by rw [← eN]; exact hQ G' h') (nv n + 1) 0 G (by omega) (by omega) h
      rw [← eN, ← nI_nv a1, ← nI_nv b1] at this
      exact this
    · rw [i_le] at x3; omega
  · rw [if_pos (.inr (by rw [i_le, il0] at sd; rw [i_lt, il0]; omega))] at hQ; exact hQ G h
/-! part -/
def pdv (f : Nat → Int64) (i : Nat) : Nat → Int64 → Int64
  | 0, x => x
  | k + 1, x => pdv f i k (x / f (i + k))
def stp (S : St) (c i : Nat) : Int64 := (sA S 14 (5 * c + i)).toInt64
def prt (S : St) (c i n : Nat) (x : Int64) : Int64 := if i = 0 then pdv (stp S c) i (n - i) x else pdv (stp S c) i (n - i) x % stp S c (i - 1)
theorem stp_ne {S : St} (hi : Inv S) {c i : Nat} (hc : c < 4) (hi5 : i < 5) (hs : ¬ sA S 13 c < 0) : ¬ stp S c i = 0 := by
  have := (hi.2.2.2.2.1 c i hc hi5 hs).1
  unfold stp
  intro q
  rw [l_eq, i64, ll0] at q
  omega
/-- a step, as the class reads it: never below 2 -/
theorem X1_stepAt {z c j : Nat} {G : Wd} {S : St} {la lb : Nat → Nat} {Q : Int32 → Wd → Prop} (hr : CR z G S la lb) (hi : Inv S) (hc : c < 4) (hs : ¬ sA S 13 c < 0) (hj : j < 5) (hQ : Q (sA S 14 (5 * c + j)) G) : wpX1_stepAt (z + (46 + 2 * c)) (nI j) G Q := by
  obtain ⟨p1, p2, p3, p4, p5⟩ := hr.1.C hc
  have e := ((hr.2.2.2.2.2.2.2 c hc).2 hs).2 j hj
  have r := (hi.2.2.2.2.1 c j hc hj hs).1
  unfold wpX1_stepAt wpJ9_max_7cf53
  rw [nI_clamp (by omega)]
  refine ifN (fun q => ?_) (ifN (fun q => ?_) ⟨p3, z + (47 + 2 * c), p2, p4, by rw [p5]; exact vp_in_nI (by omega) (by decide), ?_⟩)
  · rw [i_lt, nI_toInt (by omega), il0] at q; omega
  · rw [i_le, nI_toInt (by omega), show (5 : Int32).toInt = 5 from rfl] at q; omega
  · rw [e]
    refine ifN (fun q => ?_) hQ
    rw [i_lt, show (2 : Int32).toInt = 2 from rfl] at q; omega
theorem C_part_loop {z c i : Nat} {G : Wd} {S : St} {la lb : Nat → Nat} {Q : Int64 → Wd → Prop} (hr : CR z G S la lb) (hi : Inv S) (hc : c < 4) (hs : ¬ sA S 13 c < 0) (n : Nat) : ∀ (x : Int64) (s : Int32), i + n ≤ 5 → s.toInt = (i : Int) + n - 1 → Q (if i = 0 then pdv (stp S c) i n x else pdv (stp S c) i n x % stp S c (i - 1)) G → wpX1_partOf_11 Q (n + 1) (z + (46 + 2 * c)) (nI i) x s G := by
  obtain ⟨p1, p2, p3, p4, p5⟩ := hr.1.C hc
  induction n with
  | zero =>
    intro x s le es hQ
    unfold wpX1_partOf_11
    refine ifP (by rw [i_lt, nI_toInt (by omega)]; omega) (ifE (fun a => ?_) (fun a => ?_))
    · have : i = 0 := by rw [i_eq, nI_toInt (by omega), il0] at a; omega
      rw [if_pos this] at hQ
      exact hQ
    · have hz : ¬ i = 0 := fun e => a (by rw [e]; rfl)
      rw [if_neg hz] at hQ
      rw [nIs1 (by omega)]
      exact ⟨p3, X1_stepAt hr hi hc hs (by omega) ⟨stp_ne hi hc (by omega) hs, hQ⟩⟩
  | succ n ih =>
    intro x s le es hQ
    unfold wpX1_partOf_11
    have e2 : s = nI (i + n) := by rw [i_eq, nI_toInt (by omega)]; omega
    refine ifN (by rw [i_lt, nI_toInt (by omega)]; omega) ?_
    rw [e2]
    refine ⟨p3, X1_stepAt hr hi hc hs (by omega) ⟨stp_ne hi hc (by omega) hs, fun y hy s' hs' => ?_⟩⟩
    have hy' : y = x / stp S c (i + n) := hy
    subst hy'
    refine ih _ s' (by omega) ?_ hQ
    rw [hs']
    have := pk_sub_toInt (a := i + n) (b := 1) (by omega) (by omega)
    have e3 : nI (i + n) + (-1) = nI (i + n) - nI 1 := by rw [Int32.sub_eq_add_neg]; rfl
    rw [e3, this]
    omega
theorem xm1 {x : Int32} (h0 : 0 ≤ x.toInt) (h : x.toInt < 1000) : (x - 1).toInt = x.toInt - 1 := by
  obtain ⟨j, hj, e⟩ := nI_of (x := x) (by rw [i_lt, il0]; omega)
  subst e
  rw [nI_toInt hj] at h ⊢
  exact nIm1 (by omega)
def oPart (S : St) (c : Int32) (v : Int64) (i : Int32) : Int64 := if rng c 0 3 ∧ -1000000000000000 ≤ v.toInt ∧ v.toInt ≤ 1000000000000000 then (if sA S 13 (nv c) < 0 then -9000000000000000011 else (if rng i 0 ((sA S 13 (nv c)).toInt) then (if v < 0 then - prt S (nv c) (nv i) (nv (sA S 13 (nv c))) (-v) else prt S (nv c) (nv i) (nv (sA S 13 (nv c))) v) else -9000000000000000013)) else -9000000000000000001
theorem C_part {z : Nat} {G : Wd} {S T : St} {c i : Int32} {v : Int64} {Q : Int64 → Wd → Prop} (h : mid z G S T) (hi : Inv S) (hQ : Q (oPart S c v i) G) : wpX10_part z c v i G Q := by
  unfold oPart at hQ
  obtain ⟨⟨la, lb, hc⟩, hm⟩ := h
  have hb : ¬ (rng c 0 3 ∧ -1000000000000000 ≤ v.toInt ∧ v.toInt ≤ 1000000000000000) → Q (-9000000000000000001) G := fun n => by rw [if_neg n] at hQ; exact hQ
  unfold wpX10_part
  refine ⟨hc.K, X10_findCustom hc (fun a ak => ?_) (fun a => hb (fun c => a c.1))⟩
  obtain ⟨p1, p2, p3, p4, p5⟩ := hc.1.C ak
  refine ifE (fun b => hb (fun c => ?_)) (fun b => ifE (fun d => hb (fun c => ?_)) (fun d => ⟨p3, ?_⟩))
  · rw [l_lt, show (-1000000000000000 : Int64).toInt = -1000000000000000 from rfl] at b; omega
  · rw [l_lt, show (1000000000000000 : Int64).toInt = 1000000000000000 from rfl] at d; omega
  rw [l_lt, show (-1000000000000000 : Int64).toInt = -1000000000000000 from rfl] at b
  rw [l_lt, show (1000000000000000 : Int64).toInt = 1000000000000000 from rfl] at d
  rw [if_pos ⟨a, by omega, by omega⟩] at hQ
  have h8 := hc.2.2.2.2.2.2.2 (nv c) ak
  rw [h8.1]
  by_cases sc : sA S 13 (nv c) < 0
  · rw [if_pos sc] at hQ
    rw [if_pos sc]
    exact ifN (fun e => n10 e) hQ
  rw [if_neg sc] at hQ ⊢
  refine ifP rfl ?_
  have g1 := (h8.2 sc).1
  rw [g1]
  have r13 := (hi.2.2.2.1 (nv c) ak).2
  have sc' := sc
  rw [i_lt, il0] at sc'
  have e13 := nv_i (x := sA S 13 (nv c)) (by omega)
  refine ifE (fun e => ?_) (fun e => ifE (fun f => ?_) (fun f => ?_))
  · rw [i_lt, il0] at e
    rw [if_neg (fun q => by have := q.1; omega)] at hQ
    exact hQ
  · rw [i_lt, il0] at e; rw [i_le] at f
    rw [if_pos ⟨by omega, by omega⟩] at hQ
    have ei := nv_i (x := i) (by omega)
    have eI := nI_nv (x := i) (by omega)
    have run : ∀ (x : Int64) (Q' : Int64 → Wd → Prop), Q' (prt S (nv c) (nv i) (nv (sA S 13 (nv c))) x) G → wpX1_partOf (z + (46 + 2 * nv c)) x i G Q' := by
      intro x Q' hQ'
      unfold wpX1_partOf
      refine ⟨p3, fun s hs => ⟨nv (sA S 13 (nv c)) - nv i + 1, ?_⟩⟩
      rw [g1] at hs
      have := C_part_loop (i := nv i) (Q := Q') hc hi ak sc (nv (sA S 13 (nv c)) - nv i) x s (by omega) (by rw [hs, xm1 (by omega) (by omega)]; omega) hQ'
      rw [← eI] at this
      exact this
    refine ifE (fun k => ?_) (fun k => ?_)
    · rw [if_pos k] at hQ; exact run _ _ hQ
    · rw [if_neg k] at hQ; exact run _ _ hQ
  · rw [i_le] at f
    rw [if_neg (fun q => by have := q.2; omega)] at hQ
    exact hQ
