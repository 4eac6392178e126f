/-! ===== drop, forget, isOf, counts ===== -/
theorem kd5 {x : Int32} (h : rng x 0 4) : x = 0 ∨ x = 1 ∨ x = 2 ∨ x = 3 ∨ x = 4 := by
  have := h.1; have := h.2
  simp only [i_eq, il0, il1, il2, il3, il4]
  omega
abbrev isK (k o : Int32) : Prop := o = 0 ∨ o = k ∨ o = wider (nv k)
theorem isK2 {x : Int32} (h : rng x 0 4) : isK x 2 ↔ x = 2 ∨ x = 4 := by
  rcases kd5 h with e | e | e | e | e <;> subst e <;> decide
theorem isK1 {x : Int32} (h : rng x 0 4) : isK x 1 ↔ x = 1 ∨ x = 3 := by
  rcases kd5 h with e | e | e | e | e <;> subst e <;> decide
theorem isK_of {x o : Int32} (h : rng x 0 4) (q : isK x o) : o = 0 ∨ x = o ∨ (o = 1 ∧ (x = 1 ∨ x = 3)) ∨ (o = 2 ∧ (x = 2 ∨ x = 4)) := by
  rcases q with q | q | q
  · exact .inl q
  · exact .inr (.inl q.symm)
  · rcases kd5 h with e | e | e | e | e <;> subst e
    · exact .inl q
    · exact .inl q
    · exact .inl q
    · exact .inr (.inr (.inl ⟨q, .inr rfl⟩))
    · exact .inr (.inr (.inr ⟨q, .inr rfl⟩))
theorem X5_is {a : Nat} {G : Wd} {kd o : Int32} {Q : Int32 → Wd → Prop} (hK : gK G a = 5) (e : gI G a 1 = kd) (hr : rng kd 0 4) (h1 : isK kd o → Q 1 G) (h2 : ¬ isK kd o → Q 0 G) : wpX5_is a o G Q := by
  unfold wpX5_is wpX5_is_24
  refine ifE (fun a => h1 (.inl a)) (fun a => ⟨hK, ?_⟩)
  rw [e]
  refine ifE (fun b => h1 (.inr (.inl b))) (fun b => ⟨vpn hr.1 (by have := hr.2; show kd.toInt < 5; omega), ifE (fun c => h1 (.inr (.inr c))) (fun c => h2 (fun q => ?_))⟩)
  rcases q with q | q | q
  · exact a q
  · exact b q
  · exact c q
theorem X11_isDoubtful {z : Nat} {G : Wd} {T S : St} {k : Int32} {Q : Int32 → Wd → Prop} (h : mid z G T S) (hk : rng k 0 23) (h1 : sA S 2 (nv k) = 2 ∨ sA S 2 (nv k) = 4 → Q 1 G) (h2 : ¬ (sA S 2 (nv k) = 2 ∨ sA S 2 (nv k) = 4) → Q 0 G) : wpX11_isDoubtful (z + 54) k G Q := by
  unfold wpX11_isDoubtful wpX11_isDoubtful_20
  have hv : vp_in k 24 := vpn hk.1 (by have := hk.2; show k.toInt < 24; omega)
  have e : gI G (z + 54 + 2) (k).toNatClampNeg = sA S 2 (nv k) := h.I 2 (nv k) (by omega) (by omega) (by have := nv_i hk.1; have := hk.2; show nv k < 24; omega)
  refine ⟨h.K, h.2.at 2 2 20 24 rfl rfl rfl (by omega) (by omega) hv ?_⟩
  rw [e]
  refine ifE (fun a => h1 (.inl a)) (fun a => h.2.at 2 2 20 24 rfl rfl rfl (by omega) (by omega) hv ?_)
  rw [e]
  refine ifE (fun b => h1 (.inr b)) (fun b => h2 (fun q => ?_))
  rcases q with q | q
  · exact a q
  · exact b q
theorem X11_isHeaped {z : Nat} {G : Wd} {T S : St} {k : Int32} {Q : Int32 → Wd → Prop} (h : mid z G T S) (hk : rng k 0 23) (h1 : sA S 2 (nv k) = 1 ∨ sA S 2 (nv k) = 3 → Q 1 G) (h2 : ¬ (sA S 2 (nv k) = 1 ∨ sA S 2 (nv k) = 3) → Q 0 G) : wpX11_isHeaped (z + 54) k G Q := by
  unfold wpX11_isHeaped wpX11_isHeaped_20
  have hv : vp_in k 24 := vpn hk.1 (by have := hk.2; show k.toInt < 24; omega)
  have e : gI G (z + 54 + 2) (k).toNatClampNeg = sA S 2 (nv k) := h.I 2 (nv k) (by omega) (by omega) (by have := nv_i hk.1; have := hk.2; show nv k < 24; omega)
  refine ⟨h.K, h.2.at 2 2 20 24 rfl rfl rfl (by omega) (by omega) hv ?_⟩
  rw [e]
  refine ifE (fun a => h1 (.inl a)) (fun a => h.2.at 2 2 20 24 rfl rfl rfl (by omega) (by omega) hv ?_)
  rw [e]
  refine ifE (fun b => h1 (.inr b)) (fun b => h2 (fun q => ?_))
  rcases q with q | q
  · exact a q
  · exact b q
theorem rng24 {S : St} {k : Int32} (h : rng k 0 ((sM S : Int) - 1)) (hM : sM S ≤ 24) : rng k 0 23 := ⟨h.1, by have := h.2; omega⟩
def oDrop (S : St) (k o : Int32) : Int64 × St := if rng k 0 ((sM S : Int) - 1) ∧ rng o 0 1 then (if sA S 2 (nv k) = 2 ∨ sA S 2 (nv k) = 4 then ((if sA S 12 (nv k) = 0 then 0 else 1), sSet S 12 (nv k) (if o = 1 then 1 else 0)) else (-9000000000000000002, S)) else (-9000000000000000001, S)
theorem C_drop {z : Nat} {G : Wd} {S T : St} {k o : Int32} {Q : Int64 → Wd → Prop} (h : mid z G S T) (hi : Inv S) (hQ : ∀ G', mid z G' (oDrop S k o).2 T → Q (oDrop S k o).1 G') : wpX10_drop z k o G Q := by
  unfold oDrop at hQ
  have hb : ¬ (rng k 0 ((sM S : Int) - 1) ∧ rng o 0 1) → Q (-9000000000000000001) G := fun n => by rw [if_neg n] at hQ; exact hQ G h
  obtain ⟨⟨la, lb, hc⟩, hm⟩ := h
  unfold wpX10_drop
  refine ⟨hc.K, X10_find hc hi.1.1 (fun a ak => ?_) (fun a => hb (fun c => a c.1))⟩
  refine ifE (fun b => hb (fun c => ?_)) (fun b => ifE (fun d => ?_) (fun d => hb (fun c => ?_)))
  · rw [i_lt, il0] at b; have := c.2.1; omega
  · rw [i_lt, il0] at b; rw [i_le, il1] at d
    rw [if_pos ⟨a, by omega, by omega⟩] at hQ
    obtain ⟨hK, _, b3, b4, _⟩ := (hc.2.2.2.2.1 (nv k) ak).2
    have hr := (hi.2.2.1 (nv k) ak).1
    refine ⟨hK, X5_is hK (b3 1 (by omega) (by omega)) hr (fun e => ifN (fun e => n10 e) ⟨hK, ?_⟩) (fun e => ifP rfl ?_)⟩
    · rw [if_pos ((isK2 hr).mp e)] at hQ
      have c1 := fun v => hc.fld ak 13 12 (by omega) (by omega) (by omega) rfl v
      have m1 := fun v => hm.cell hc ak 13 v
      rw [b4 13 (by omega) (by omega)]
      unfold wpX10_drop_47 wpX10_drop_60
      refine ifE (fun f => ifE (fun g => ⟨hK, .inr rfl, fun G1 e1 => ?_⟩) (fun g => ⟨hK, .inl rfl, fun G1 e1 => ?_⟩)) (fun f => ifE (fun g => ⟨hK, .inr rfl, fun G1 e1 => ?_⟩) (fun g => ⟨hK, .inl rfl, fun G1 e1 => ?_⟩))
      · subst e1; rw [if_pos f, if_pos g] at hQ; exact hQ _ ⟨⟨la, lb, c1 1⟩, m1 1⟩
      · subst e1; rw [if_pos f, if_neg g] at hQ; exact hQ _ ⟨⟨la, lb, c1 0⟩, m1 0⟩
      · subst e1; rw [if_neg f, if_pos g] at hQ; exact hQ _ ⟨⟨la, lb, c1 1⟩, m1 1⟩
      · subst e1; rw [if_neg f, if_neg g] at hQ; exact hQ _ ⟨⟨la, lb, c1 0⟩, m1 0⟩
    · rw [if_neg (fun q => e ((isK2 hr).mpr q))] at hQ; exact hQ G ⟨⟨la, lb, hc⟩, hm⟩
  · rw [i_le, il1] at d; have := c.2.2; omega
theorem M_drop {z : Nat} {G : Wd} {S T : St} {k o : Int32} {Q : Int64 → Wd → Prop} (h : mid z G T S) (hi : Inv S) (hQ : ∀ G', mid z G' T (oDrop S k o).2 → Q (oDrop S k o).1 G') : wpX11_drop (z + 54) k o G Q := by
  unfold oDrop at hQ
  have hb : ¬ (rng k 0 ((sM S : Int) - 1) ∧ rng o 0 1) → Q (-9000000000000000001) G := fun n => by rw [if_neg n] at hQ; exact hQ G h
  unfold wpX11_drop
  refine ⟨h.K, X11_isOne h hi.1.1 (fun a ak => ifN (fun e => n10 e) ?_) (fun a => ifP rfl (hb (fun c => a c.1)))⟩
  refine X11_in 0 1 rfl rfl (fun b => ifN (fun e => n10 e) ⟨h.K, ?_⟩) (fun b => ifP rfl (hb (fun c => b c.2)))
  rw [if_pos ⟨a, b⟩] at hQ
  have hM := hi.1.1
  have hv : vp_in k 24 := vpn a.1 (by have := a.2; show k.toInt < 24; omega)
  refine X11_isDoubtful h (rng24 a hM) (fun c => ifN (fun e => n10 e) ?_) (fun c => ifP rfl ?_)
  · rw [if_pos c] at hQ
    refine ⟨h.K, h.2.at 12 12 22 24 rfl rfl rfl (by omega) (by omega) hv (fun x hx => ?_)⟩
    rw [nv_c, h.I 12 (nv k) (by omega) (by omega) (by show nv k < 24; omega)] at hx
    subst hx
    have m1 := fun v => h.setM 12 (nv k) v (by omega) (by omega)
    obtain ⟨q1, q2, q3⟩ := h.2.1.2 12 (by omega) (by omega)
    have hvv : vp_in k (gN G (z + 54 + 12)) := by rw [q2]; exact hv
    unfold wpX11_drop_56
    refine ⟨z + 54 + 12, q3, ifE (fun g => ⟨q1, hvv, .inr rfl, fun G1 e1 => ?_⟩) (fun g => ⟨q1, hvv, .inl rfl, fun G1 e1 => ?_⟩)⟩
    · subst e1; rw [if_pos g] at hQ
      refine ifE (fun f => ?_) (fun f => ?_)
      · rw [if_pos f] at hQ; exact hQ _ (m1 1)
      · rw [if_neg f] at hQ; exact hQ _ (m1 1)
    · subst e1; rw [if_neg g] at hQ
      refine ifE (fun f => ?_) (fun f => ?_)
      · rw [if_pos f] at hQ; exact hQ _ (m1 0)
      · rw [if_neg f] at hQ; exact hQ _ (m1 0)
  · rw [if_neg c] at hQ; exact hQ G h
/-! forget -/
def oForget (S : St) : Int64 × St := if sM S = 0 then (-9000000000000000002, S) else ((nI (sM S - 1)).toInt64, (S.1, sM S - 1, S.2.2))
theorem nIs1 {n : Nat} (h : 0 < n) : nI n - 1 = nI (n - 1) := by
  have := nI_pred (n - 1)
  rw [show n - 1 + 1 = n by omega] at this
  exact this
theorem CR.forget {z : Nat} {G : Wd} {S : St} {la lb : Nat → Nat} (h : CR z G S la lb) (hM : 0 < sM S) (n : Nat) (hn : n = sM S - 1) : CR z (uR (uI G z 2 (nI n)) (z + 2) n none) (S.1, n, S.2.2) la lb := by
  have hap := h.A
  obtain ⟨h1, ⟨h2a, h2b⟩, h3, ⟨h4a, h4b⟩, h5, h6, h7, h8⟩ := h
  have fr : chg (fun b => b = z) (fun b => b = z + 2) G (uR (uI G z 2 (nI n)) (z + 2) n none) := (chg.rf.wI (P := fun b => b = z) (R := fun b => b = z + 2) _ _ _ rfl).wR _ _ _ rfl
  refine ⟨⟨fun o ho => ⟨by rw [fr.K]; exact (h1.1 o ho).1, by rw [fr.N]; exact (h1.1 o ho).2⟩, fun q hq => ?_⟩, ⟨h2a.keep fr (by omega), h2b.keep fr (by omega)⟩, fun i' hi => by rw [fr.I (by omega)]; exact h3 i' hi, ⟨?_, ?_⟩, fun k' hk' => ?_, fun j hj => ?_, ?_, fun c hc => ?_⟩
  · rw [fr.Rf]; exact h1.2 q hq
    have : ∀ q ∈ cRf, q.1 ≠ 2 := by decide
    have := this q hq
    omega
  · rw [gI_uR, gI_uI, if_pos ⟨rfl, rfl⟩]; rfl
  · rw [gI_uR, gI_uI, if_neg (by omega)]; exact h4b
  · have hk2 : k' < n := hk'
    obtain ⟨a1, b1, b2, b3, b4, b5, b6, b7, b8⟩ := h5 k' (by omega)
    have hl' := (hap.1 k' (by omega)).1
    refine ⟨?_, b1, by rw [fr.I (by omega)]; exact b2, fun g g1 g2 => ?_, fun g g1 g2 => ?_, by rw [fr.Rf (by omega)]; exact b5, by rw [fr.Rf (by omega)]; exact b6, b7.keep fr (by omega), b8.keep fr (by omega)⟩
    · rw [gR_uR, if_neg (by omega)]; exact a1
    · rw [fr.I (by omega)]; exact b3 g g1 g2
    · rw [fr.I (by omega)]; exact b4 g g1 g2
  · obtain ⟨a1, b1, b2, b3, b4, b5, b6, b7, b8, b9⟩ := h6 j hj
    have := (hap.2.1 j hj).1
    exact ⟨by rw [fr.Rf (by omega)]; exact a1, b1, by rw [fr.I (by omega)]; exact b2, by rw [fr.I (by omega)]; exact b3, by rw [fr.I (by omega)]; exact b4, by rw [fr.I (by omega)]; exact b5, by rw [fr.Rf (by omega)]; exact b6, by rw [fr.Rf (by omega)]; exact b7, b8, b9⟩
  · obtain ⟨p1, p2, p3, p4, p5, p6⟩ := hap
    exact ⟨fun k hk => p1 k (by have : k < n := hk; omega), p2, fun k k' q q' => p3 k k' q (by have : k' < n := q'; omega), p4, fun k j q q' => p5 k j (by have : k < n := q; omega) q', p6⟩
  · have := h8 c hc
    rw [fr.I (by omega), fr.I (by omega)]
    refine ⟨this.1, fun q => ⟨(this.2 q).1, fun i hi => ?_⟩⟩
    rw [fr.I (by omega)]
    exact (this.2 q).2 i hi
theorem C_forget {z : Nat} {G : Wd} {S T : St} {Q : Int64 → Wd → Prop} (h : mid z G S T) (hi : Inv S) (hQ : ∀ G', mid z G' (oForget S).2 T → Q (oForget S).1 G') : wpX10_forget z G Q := by
  unfold oForget at hQ
  obtain ⟨⟨la, lb, hc⟩, hm⟩ := h
  have hM := hi.1.1
  unfold wpX10_forget
  refine ⟨hc.K, ?_⟩
  rw [hc.2.2.2.1.1]
  refine ifE (fun a => ?_) (fun a => ?_)
  · have : sM S = 0 := by rw [i_eq, nI_toInt (by omega), il0] at a; omega
    rw [if_pos this] at hQ
    exact hQ G ⟨⟨la, lb, hc⟩, hm⟩
  · have hz : ¬ sM S = 0 := fun e => a (by rw [e]; rfl)
    rw [if_neg hz] at hQ
    intro G1 e1
    rw [nIs1 (by omega)] at e1
    have e2 : gI G1 z 2 = nI (sM S - 1) := by rw [e1, gI_uI, if_pos ⟨rfl, rfl⟩]
    have e3 : gR G1 = gR G := by rw [e1]; rfl
    have e4 : gK G1 = gK G := by rw [e1]; rfl
    have e5 : gN G1 = gN G := by rw [e1]; rfl
    refine ⟨z + 2, by rw [e3]; exact hc.1.R 0 1 2 (by decide), by rw [e4]; exact hc.1.K 2 (by omega), by rw [e5, e2, hc.1.N 2 (by omega)]; exact vp_in_nI (by show sM S - 1 < 24; omega) (by decide), fun G2 e6 => ?_⟩
    rw [e2, nI_clamp (by omega)] at e6
    have e7 : gI G2 z 2 = nI (sM S - 1) := by rw [e6, gI_uR]; exact e2
    rw [e7]
    subst e6; subst e1
    exact hQ _ ⟨⟨la, lb, hc.forget (by omega) (sM S - 1) rfl⟩, hm.chg ((chg.rf.wI (P := fun b => b = z) (R := fun b => b = z + 2) _ _ _ rfl).wR _ _ _ rfl) (fun o ho => ⟨by omega, by omega⟩)⟩
theorem M_forget {z : Nat} {G : Wd} {S T : St} {Q : Int64 → Wd → Prop} (h : mid z G T S) (hi : Inv S) (hQ : ∀ G', mid z G' T (oForget S).2 → Q (oForget S).1 G') : wpX11_forget (z + 54) G Q := by
  unfold oForget at hQ
  have hM := hi.1.1
  unfold wpX11_forget
  refine ⟨h.K, ?_⟩
  rw [h.M]
  refine ifE (fun a => ?_) (fun a => ?_)
  · have : sM S = 0 := by rw [i_eq, nI_toInt (by omega), il0] at a; omega
    rw [if_pos this] at hQ
    exact hQ G h
  · have hz : ¬ sM S = 0 := fun e => a (by rw [e]; rfl)
    rw [if_neg hz] at hQ
    intro G1 e1
    rw [nIs1 (by omega)] at e1
    have e2 : gI G1 (z + 54) 1 = nI (sM S - 1) := by rw [e1, gI_uI, if_pos ⟨rfl, rfl⟩]
    rw [e2]
    subst e1
    exact hQ _ (h.setN (sM S - 1))
/-! isOf -/
def oIsOf (S : St) (k o : Int32) : Int64 := if rng k 0 ((sM S : Int) - 1) ∧ rng o 0 4 then (if isK (sA S 2 (nv k)) o then 1 else 0) else -9000000000000000001
theorem C_isOf {z : Nat} {G : Wd} {S T : St} {k o : Int32} {Q : Int64 → Wd → Prop} (h : mid z G S T) (hi : Inv S) (hQ : Q (oIsOf S k o) G) : wpX10_isOf z k o G Q := by
  unfold oIsOf at hQ
  have hb : ¬ (rng k 0 ((sM S : Int) - 1) ∧ rng o 0 4) → Q (-9000000000000000001) G := fun n => by rw [if_neg n] at hQ; exact hQ
  obtain ⟨⟨la, lb, hc⟩, hm⟩ := h
  unfold wpX10_isOf
  refine ⟨hc.K, X10_find hc hi.1.1 (fun a ak => ?_) (fun a => hb (fun c => a c.1))⟩
  refine X10_isKind (fun b => ifN (fun e => n10 e) ?_) (fun b => ifP rfl (hb (fun c => b c.2)))
  rw [if_pos ⟨a, b⟩] at hQ
  obtain ⟨hK, _, b3, b4, _⟩ := (hc.2.2.2.2.1 (nv k) ak).2
  have hr := (hi.2.2.1 (nv k) ak).1
  refine ⟨hK, X5_is hK (b3 1 (by omega) (by omega)) hr (fun e => ifN (fun e => n10 e) ?_) (fun e => ifP rfl ?_)⟩
  · rw [if_pos e] at hQ; exact hQ
  · rw [if_neg e] at hQ; exact hQ
theorem M_isOf {z : Nat} {G : Wd} {S T : St} {k o : Int32} {Q : Int64 → Wd → Prop} (h : mid z G T S) (hi : Inv S) (hQ : Q (oIsOf S k o) G) : wpX11_isOf (z + 54) k o G Q := by
  unfold oIsOf at hQ
  have hb : ¬ (rng k 0 ((sM S : Int) - 1) ∧ rng o 0 4) → Q (-9000000000000000001) G := fun n => by rw [if_neg n] at hQ; exact hQ
  unfold wpX11_isOf
  refine ⟨h.K, X11_isOne h hi.1.1 (fun a ak => ifN (fun e => n10 e) ?_) (fun a => ifP rfl (hb (fun c => a c.1)))⟩
  refine X11_in 0 4 rfl rfl (fun b => ifN (fun e => n10 e) ?_) (fun b => ifP rfl (hb (fun c => b c.2)))
  rw [if_pos ⟨a, b⟩] at hQ
  have hM := hi.1.1
  have hr := (hi.2.2.1 (nv k) ak).1
  have y1 : isK (sA S 2 (nv k)) o → Q 1 G := fun e => by rw [if_pos e] at hQ; exact hQ
  have y0 : ¬ isK (sA S 2 (nv k)) o → Q 0 G := fun e => by rw [if_neg e] at hQ; exact hQ
  have hv : vp_in k 24 := vpn a.1 (by have := a.2; show k.toInt < 24; omega)
  unfold wpX11_isOf_64
  refine ifE (fun c => y1 (.inl c)) (fun c => ⟨h.K, h.2.at 2 2 20 24 rfl rfl rfl (by omega) (by omega) hv ?_⟩)
  rw [nv_c, h.I 2 (nv k) (by omega) (by omega) (by show nv k < 24; omega)]
  refine ifE (fun d => y1 (.inr (.inl d.symm))) (fun d => ?_)
  have g51 : ¬ (o = 1 ∧ (sA S 2 (nv k) = 1 ∨ sA S 2 (nv k) = 3)) → wpX11_isOf_51 Q (z + 54) k o G := fun n => by
    unfold wpX11_isOf_51 wpX11_isOf_64
    refine ifE (fun f => ⟨h.K, X11_isDoubtful h (rng24 a hM) (fun g => ifN (fun e => n10 e) (y1 ?_)) (fun g => ifP rfl (y0 (fun q => ?_)))⟩) (fun f => y0 (fun q => ?_))
    · rw [f]; exact (isK2 hr).mpr g
    · rcases isK_of hr q with q | q | q | q
      · exact c q
      · exact d q
      · exact n q
      · exact g q.2
    · rcases isK_of hr q with q | q | q | q
      · exact c q
      · exact d q
      · exact n q
      · exact f q.1
  refine ifE (fun e => X11_isHeaped h (rng24 a hM) (fun g => ifN (fun e => n10 e) (y1 ?_)) (fun g => ifP rfl (g51 (fun q => g q.2)))) (fun e => g51 (fun q => e q.1))
  rw [e]; exact (isK1 hr).mpr g
/-! counts -/
def cnt (S : St) (k : Nat) (p d : Int32) : Int32 := if sA S 12 k = 0 then (if d < sA S 8 k then 0 else (if d ≤ sA S 9 k then (if sA S 2 k = 3 then (if p = sA S 7 k then 1 else 0) else wi S 8 p (sA S 7 k)) else 0)) else 0
theorem cnt_B (S : St) (k : Nat) (p d : Int32) : isB (cnt S k p d) := by
  unfold cnt
  by_cases a : sA S 12 k = 0
  · rw [if_pos a]
    by_cases b : d < sA S 8 k
    · rw [if_pos b]; exact .inl rfl
    · rw [if_neg b]
      by_cases c : d ≤ sA S 9 k
      · rw [if_pos c]
        by_cases e : sA S 2 k = 3
        · rw [if_pos e]
          by_cases f : p = sA S 7 k
          · rw [if_pos f]; exact .inr rfl
          · rw [if_neg f]; exact .inl rfl
        · rw [if_neg e]; exact wi_B _ _ _ _
      · rw [if_neg c]; exact .inl rfl
  · rw [if_neg a]; exact .inl rfl
theorem X10_countsAt {z : Nat} {G : Wd} {S : St} {la lb : Nat → Nat} {k : Nat} {p d : Int32} {Q : Int32 → Wd → Prop} (h : CR z G S la lb) (hi : Inv S) (hk : k < sM S) (hp : rng p 0 7) (hQ : Q (cnt S k p d) G) : wpX10_countsAt z (la k) p d G Q := by
  obtain ⟨hK, _, b3, b4, _⟩ := (h.2.2.2.2.1 k hk).2
  have hr := hi.2.2.1 k hk
  unfold cnt at hQ
  unfold wpX10_countsAt
  rw [b4 13 (by omega) (by omega), b4 9 (by omega) (by omega), b4 10 (by omega) (by omega), b4 8 (by omega) (by omega), b3 1 (by omega) (by omega)]
  refine ⟨hK, ifE (fun a => ?_) (fun a => ?_)⟩
  · rw [if_pos a] at hQ
    refine ifE (fun b => ?_) (fun b => ?_)
    · rw [if_pos b] at hQ; exact hQ
    · rw [if_neg b] at hQ
      refine ifE (fun c => ?_) (fun c => ?_)
      · rw [if_pos c] at hQ
        refine ifE (fun e => ?_) (fun e => ?_)
        · rw [if_pos e] at hQ
          refine ifE (fun f => ?_) (fun f => ?_)
          · rw [if_pos f] at hQ; exact hQ
          · rw [if_neg f] at hQ; exact hQ
        · rw [if_neg e] at hQ
          exact ⟨h.K, X10_isWithin h hi hp hr.2.2.2.2.2.1.1 ⟨wi_B _ _ _ _, hQ⟩⟩
      · rw [if_neg c] at hQ; exact hQ
  · rw [if_neg a] at hQ; exact hQ
theorem X11_doesCount {z : Nat} {G : Wd} {T S : St} {k p d : Int32} {Q : Int32 → Wd → Prop} (h : mid z G T S) (hi : Inv S) (hk0 : 0 ≤ k.toInt) (hk : nv k < sM S) (hp : rng p 0 7) (hQ : Q (cnt S (nv k) p d) G) : wpX11_doesCount (z + 54) k p d G Q := by
  have hr := hi.2.2.1 (nv k) hk
  have hM := hi.1.1
  have hv : vp_in k 24 := vpn hk0 (by have := nv_i hk0; show k.toInt < 24; omega)
  have hI : ∀ o, 2 ≤ o → o ≤ 12 → mNs o = 24 → gI G (z + 54 + o) (k).toNatClampNeg = sA S o (nv k) := fun o o1 o2 e => h.I o (nv k) (by omega) (by omega) (by rw [e]; omega)
  unfold cnt at hQ
  unfold wpX11_doesCount
  refine ⟨h.K, h.2.at 12 12 22 24 rfl rfl rfl (by omega) (by omega) hv ?_⟩
  rw [hI 12 (by omega) (by omega) rfl]
  refine ifE (fun a => ?_) (fun a => ?_)
  · rw [if_pos a] at hQ
    refine h.2.at 8 8 20 24 rfl rfl rfl (by omega) (by omega) hv ?_
    rw [hI 8 (by omega) (by omega) rfl]
    refine ifE (fun b => ?_) (fun b => ?_)
    · rw [if_pos b] at hQ; exact hQ
    · rw [if_neg b] at hQ
      refine h.2.at 9 9 20 24 rfl rfl rfl (by omega) (by omega) hv ?_
      rw [hI 9 (by omega) (by omega) rfl]
      refine ifE (fun c => ?_) (fun c => ?_)
      · rw [if_pos c] at hQ
        refine h.2.at 2 2 20 24 rfl rfl rfl (by omega) (by omega) hv ?_
        rw [hI 2 (by omega) (by omega) rfl]
        refine ifE (fun e => ?_) (fun e => ?_)
        · rw [if_pos e] at hQ
          refine h.2.at 7 7 20 24 rfl rfl rfl (by omega) (by omega) hv ?_
          rw [hI 7 (by omega) (by omega) rfl]
          refine ifE (fun f => ?_) (fun f => ?_)
          · rw [if_pos f] at hQ; exact hQ
          · rw [if_neg f] at hQ; exact hQ
        · rw [if_neg e] at hQ
          refine h.2.at 7 7 20 24 rfl rfl rfl (by omega) (by omega) hv ?_
          rw [hI 7 (by omega) (by omega) rfl]
          exact X11_isWithin h hi hp hr.2.2.2.2.2.1.1 ⟨wi_B _ _ _ _, hQ⟩
      · rw [if_neg c] at hQ; exact hQ
  · rw [if_neg a] at hQ; exact hQ
def oCounts (S : St) (k p d : Int32) : Int64 := if rng k 0 ((sM S : Int) - 1) ∧ rng p 0 7 ∧ rng d 0 9999 then (cnt S (nv k) p d).toInt64 else -9000000000000000001
theorem C_counts {z : Nat} {G : Wd} {S T : St} {k p d : Int32} {Q : Int64 → Wd → Prop} (h : mid z G S T) (hi : Inv S) (hQ : Q (oCounts S k p d) G) : wpX10_counts z k p d G Q := by
  unfold oCounts at hQ
  have hb : ¬ (rng k 0 ((sM S : Int) - 1) ∧ rng p 0 7 ∧ rng d 0 9999) → Q (-9000000000000000001) G := fun n => by rw [if_neg n] at hQ; exact hQ
  obtain ⟨⟨la, lb, hc⟩, hm⟩ := h
  unfold wpX10_counts
  refine ⟨hc.K, X10_find hc hi.1.1 (fun a ak => ?_) (fun a => hb (fun c => a c.1))⟩
  refine X10_isPlace (fun b => ifN (fun e => n10 e) (X10_isDay (fun e => ifN (fun e => n10 e) ⟨hc.K, ?_⟩) (fun e => ifP rfl (hb (fun c => e c.2.2))))) (fun b => ifP rfl (hb (fun c => b c.2.1)))
  rw [if_pos ⟨a, b, e⟩] at hQ
  exact X10_countsAt hc hi ak b (b01 (cnt_B S _ p d) hQ)
theorem X11_isDay {x : Int32} {G : Wd} {Q : Int32 → Wd → Prop} (h1 : rng x 0 9999 → Q 1 G) (h2 : ¬ rng x 0 9999 → Q 0 G) : wpX11_isDay x G Q :=
  X11_in 0 9999 rfl rfl (fun c => ⟨.inr rfl, h1 c⟩) (fun c => ⟨.inl rfl, h2 c⟩)
theorem M_counts {z : Nat} {G : Wd} {S T : St} {k p d : Int32} {Q : Int64 → Wd → Prop} (h : mid z G T S) (hi : Inv S) (hQ : Q (oCounts S k p d) G) : wpX11_counts (z + 54) k p d G Q := by
  unfold oCounts at hQ
  have hb : ¬ (rng k 0 ((sM S : Int) - 1) ∧ rng p 0 7 ∧ rng d 0 9999) → Q (-9000000000000000001) G := fun n => by rw [if_neg n] at hQ; exact hQ
  unfold wpX11_counts
  refine ⟨h.K, X11_isOne h hi.1.1 (fun a ak => ifN (fun e => n10 e) ?_) (fun a => ifP rfl (hb (fun c => a c.1)))⟩
  refine X11_isPlace (fun b => ifN (fun e => n10 e) (X11_isDay (fun e => ifN (fun e => n10 e) ⟨h.K, ?_⟩) (fun e => ifP rfl (hb (fun c => e c.2.2))))) (fun b => ifP rfl (hb (fun c => b c.2.1)))
  rw [if_pos ⟨a, b, e⟩] at hQ
  exact X11_doesCount h hi a.1 ak b (b01 (cnt_B S _ p d) hQ)
