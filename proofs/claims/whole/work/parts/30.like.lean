/-! ===== likenesses: find, holds, told, drop, forget, isOf, counts ===== -/
theorem il_6 : (6 : Int32).toInt = 6 := rfl
theorem il_9 : (9 : Int32).toInt = 9 := rfl
theorem il_20 : (20 : Int32).toInt = 20 := rfl
theorem nIm1 {n : Nat} (h : n < 1000) : (nI n - 1).toInt = (n : Int) - 1 := by
  have := pk_sub_toInt (a := n) (b := 1) (by omega) (by omega)
  exact this
theorem CR.A {z : Nat} {G : Wd} {S : St} {la lb : Nat → Nat} (h : CR z G S la lb) : apart z (gZ G) (sM S) (sL S) la lb := h.2.2.2.2.2.2.1
theorem apart.ne {z Z M N : Nat} {la lb : Nat → Nat} (h : apart z Z M N la lb) {k k' : Nat} (hk : k < M) (hk' : k' < M) (ne : k' ≠ k) : la k + 3 ≤ la k' ∨ la k' + 3 ≤ la k := by
  rcases Nat.lt_or_gt_of_ne ne with e | e
  · right; exact h.2.2.1 k' k e hk
  · left; exact h.2.2.1 k k' e hk'
theorem X10_find {z : Nat} {G : Wd} {S : St} {la lb : Nat → Nat} {p : Int32} {Q : Option Nat → Wd → Prop} (h : CR z G S la lb) (hM : sM S ≤ 24) (h1 : rng p 0 ((sM S : Int) - 1) → nv p < sM S → Q (some (la (nv p))) G) (h2 : ¬ rng p 0 ((sM S : Int) - 1) → Q none G) : wpX10_find z p G Q := by
  unfold wpX10_find
  refine ifE (fun a => h2 (fun c => ?_)) (fun a => ⟨h.K, ?_⟩)
  · rw [i_lt, il0] at a; have := c.1; omega
  rw [h.2.2.2.1.1]
  rw [i_lt, il0] at a
  refine ifE (fun b => h2 (fun c => ?_)) (fun b => ?_)
  · rw [i_le, nI_toInt (by omega)] at b; have := c.2; omega
  rw [i_le, nI_toInt (by omega)] at b
  have e := nv_i (x := p) (by omega)
  refine ⟨z + 2, h.1.R 0 1 2 (by decide), h.1.K 2 (by omega), by rw [h.1.N 2 (by omega)]; exact vpn (by omega) (by show p.toInt < 24; omega), fun r hr => ?_⟩
  rw [nv_c, (h.2.2.2.2.1 (nv p) (by omega)).1] at hr
  subst hr
  exact h1 ⟨by omega, by omega⟩ (by omega)
theorem X11_isOne {z : Nat} {G : Wd} {T S : St} {p : Int32} {Q : Int32 → Wd → Prop} (h : mid z G T S) (hM : sM S ≤ 24) (h1 : rng p 0 ((sM S : Int) - 1) → nv p < sM S → Q 1 G) (h2 : ¬ rng p 0 ((sM S : Int) - 1) → Q 0 G) : wpX11_isOne (z + 54) p G Q := by
  unfold wpX11_isOne
  refine ⟨h.K, X11_in 0 ((sM S : Int) - 1) rfl ?_ (fun a => ⟨.inr rfl, h1 a ?_⟩) (fun a => ⟨.inl rfl, h2 a⟩)⟩
  · rw [i64, h.M, nIm1 (by omega)]
  · have e := nv_i a.1; have := a.2; omega
theorem ends_congr {S S' : St} {k : Nat} (h2 : sA S' 2 k = sA S 2 k) (h5 : sA S' 5 k = sA S 5 k) (h6 : sA S' 6 k = sA S 6 k) (h11 : sA S' 11 k = sA S 11 k) : endL S' k = endL S k ∧ endH S' k = endH S k := by
  unfold endL endH lsh hsh wid
  rw [h2, h5, h6, h11]
  exact ⟨rfl, rfl⟩
/-- a field of a likeness that its ends don't hang on -/
theorem CR.fld {z : Nat} {G : Wd} {S : St} {la lb : Nat → Nat} (h : CR z G S la lb) {k : Nat} (hk : k < sM S) (f o : Nat) (hf : 8 ≤ f) (hf' : f ≤ 13) (hn : f ≠ 12) (ho : o + 1 = f) (v : Int32) : CR z (uI G (la k) f v) (sSet S o k v) la lb := by
  have hap := h.A
  obtain ⟨h1, ⟨h2a, h2b⟩, h3, ⟨h4a, h4b⟩, h5, h6, h7, h8⟩ := h
  have hl := (hap.1 k hk).1
  have fr : chg (fun b => b = la k) (fun _ => False) G (uI G (la k) f v) := chg.rf.wI _ _ _ rfl
  refine ⟨⟨fun o ho => ⟨by rw [fr.K]; exact (h1.1 o ho).1, by rw [fr.N]; exact (h1.1 o ho).2⟩, fun q hq => h1.2 q hq⟩, ⟨h2a.keep fr (by omega), h2b.keep fr (by omega)⟩, fun i' hi => ?_, ⟨by rw [fr.I (by omega)]; exact h4a, by rw [fr.I (by omega)]; exact h4b⟩, fun k' hk' => ?_, fun j hj => ?_, h7, fun c hc => ?_⟩
  · rw [fr.I (by omega), sA_set, if_neg (by omega)]; exact h3 i' hi
  · obtain ⟨a1, b1, b2, b3, b4, b5, b6, b7, b8⟩ := h5 k' hk'
    have hl' := (hap.1 k' hk').1
    have hd : k' = k ∧ la k' = la k ∨ la k + 3 ≤ la k' ∨ la k' + 3 ≤ la k := by
      by_cases e : k' = k
      · exact .inl ⟨e, by rw [e]⟩
      · exact .inr (hap.ne hk hk' e)
    obtain ⟨e1, e2⟩ := ends_congr (S := S) (S' := sSet S o k v) (k := k') (by rw [sA_set, if_neg (by omega)]) (by rw [sA_set, if_neg (by omega)]) (by rw [sA_set, if_neg (by omega)]) (by rw [sA_set, if_neg (by omega)])
    refine ⟨a1, b1, ?_, fun g g1 g2 => ?_, fun g g1 g2 => ?_, b5, b6, by rw [e1]; exact b7.keep fr (by omega), by rw [e2]; exact b8.keep fr (by omega)⟩
    · rw [gI_uI, if_neg (by omega)]; exact b2
    · rw [gI_uI, if_neg (by omega), sA_set, if_neg (by omega)]; exact b3 g g1 g2
    · rw [gI_uI, sA_set]
      by_cases e : g = f ∧ k' = k
      · rw [if_pos ⟨by rw [e.2], e.1⟩, if_pos ⟨by omega, e.2⟩]
      · rw [if_neg (fun q => e ⟨q.2, by omega⟩), if_neg (fun q => e ⟨by omega, q.2⟩)]; exact b4 g g1 g2
  · obtain ⟨a1, b1, b2, b3, b4, b5, b6, b7, b8, b9⟩ := h6 j hj
    have := hap.2.2.2.2.1 k j hk hj
    refine ⟨a1, b1, ?_, ?_, ?_, ?_, b6, b7, b8, b9⟩
    · rw [fr.I (by omega), sA_set, if_neg (by omega)]; exact b2
    · rw [fr.I (by omega), sA_set, if_neg (by omega)]; exact b3
    · rw [fr.I (by omega), sA_set, if_neg (by omega)]; exact b4
    · rw [fr.I (by omega), sA_set, if_neg (by omega)]; exact b5
  · have := h8 c hc
    have e13 : sA (sSet S o k v) 13 c = sA S 13 c := by rw [sA_set, if_neg (by omega)]
    rw [fr.I (by omega), fr.I (by omega), e13]
    refine ⟨this.1, fun q => ⟨(this.2 q).1, fun i hi => ?_⟩⟩
    rw [fr.I (by omega), sA_set, if_neg (by omega)]
    exact (this.2 q).2 i hi
theorem MR.cell {z : Nat} {G : Wd} {T S : St} {la lb : Nat → Nat} (hm : MR (z + 54) G T) (hc : CR z G S la lb) {k : Nat} (hk : k < sM S) (f : Nat) (v : Int32) : MR (z + 54) (uI G (la k) f v) T :=
  hm.chg (chg.rf.wI (P := fun b => b = la k) (R := fun _ => False) _ _ _ rfl) (fun o ho => ⟨by have := (hc.A.1 k hk).1; omega, fun q => q⟩)
def oHolds (S : St) (k p f l : Int32) : Int64 × St := if rng k 0 ((sM S : Int) - 1) ∧ rng p 0 7 ∧ rng f 0 9999 ∧ rng l 0 9999 ∧ f.toInt ≤ l.toInt then (0, sSet (sSet (sSet S 7 (nv k) p) 8 (nv k) f) 9 (nv k) l) else (-9000000000000000001, S)
theorem C_holds {z : Nat} {G : Wd} {S T : St} {k p f l : Int32} {Q : Int64 → Wd → Prop} (h : mid z G S T) (hi : Inv S) (hQ : ∀ G', mid z G' (oHolds S k p f l).2 T → Q (oHolds S k p f l).1 G') : wpX10_holds z k p f l G Q := by
  unfold oHolds at hQ
  have hb : ¬ (rng k 0 ((sM S : Int) - 1) ∧ rng p 0 7 ∧ rng f 0 9999 ∧ rng l 0 9999 ∧ f.toInt ≤ l.toInt) → Q (-9000000000000000001) G := fun n => by rw [if_neg n] at hQ; exact hQ G h
  obtain ⟨⟨la, lb, hc⟩, hm⟩ := h
  unfold wpX10_holds
  refine ⟨hc.K, X10_find hc hi.1.1 (fun a ak => ?_) (fun a => hb (fun c => a c.1))⟩
  refine X10_isPlace (fun b => ifN (fun e => n10 e) (X10_isDay (fun d => ifN (fun e => n10 e) (X10_isDay (fun e => ifN (fun e => n10 e) (ifE (fun g => ?_) (fun g => hb (fun c => g (by rw [i_le]; exact c.2.2.2.2))))) (fun e => ifP rfl (hb (fun c => e c.2.2.2.1))))) (fun d => ifP rfl (hb (fun c => d c.2.2.1))))) (fun b => ifP rfl (hb (fun c => b c.2.1)))
  rw [i_le] at g
  rw [if_pos ⟨a, b, d, e, g⟩] at hQ
  refine ⟨(hc.2.2.2.2.1 (nv k) ak).2.1, fun G1 e1 G2 e2 G3 e3 => ?_⟩
  subst e1; subst e2; subst e3
  have c1 := hc.fld ak 8 7 (by omega) (by omega) (by omega) rfl p
  have m1 := hm.cell hc ak 8 p
  have c2 := c1.fld ak 9 8 (by omega) (by omega) (by omega) rfl f
  have m2 := m1.cell c1 ak 9 f
  have c3 := c2.fld ak 10 9 (by omega) (by omega) (by omega) rfl l
  have m3 := m2.cell c2 ak 10 l
  exact hQ _ ⟨⟨la, lb, c3⟩, m3⟩
theorem M_holds {z : Nat} {G : Wd} {S T : St} {k p f l : Int32} {Q : Int64 → Wd → Prop} (h : mid z G T S) (hi : Inv S) (hQ : ∀ G', mid z G' T (oHolds S k p f l).2 → Q (oHolds S k p f l).1 G') : wpX11_holds (z + 54) k p f l G Q := by
  unfold oHolds at hQ
  have hb : ¬ (rng k 0 ((sM S : Int) - 1) ∧ rng p 0 7 ∧ rng f 0 9999 ∧ rng l 0 9999 ∧ f.toInt ≤ l.toInt) → Q (-9000000000000000001) G := fun n => by rw [if_neg n] at hQ; exact hQ G h
  unfold wpX11_holds
  refine ⟨h.K, X11_isOne h hi.1.1 (fun a ak => ifN (fun e => n10 e) ?_) (fun a => ifP rfl (hb (fun c => a c.1)))⟩
  refine X11_isPlace (fun b => ifN (fun e => n10 e) (X11_in 0 9999 rfl rfl (fun d => ifN (fun e => n10 e) (X11_in f.toInt 9999 (i64 f) rfl (fun e => ifN (fun e => n10 e) ?_) (fun e => ifP rfl (hb (fun c => e ⟨c.2.2.2.2, c.2.2.2.1.2⟩))))) (fun d => ifP rfl (hb (fun c => d c.2.2.1))))) (fun b => ifP rfl (hb (fun c => b c.2.1)))
  rw [if_pos ⟨a, b, d, ⟨by have := d.1; have := e.1; omega, e.2⟩, e.1⟩] at hQ
  have hM := hi.1.1
  have hv : vp_in k 24 := vpn a.1 (by have := a.2; show k.toInt < 24; omega)
  refine ⟨h.K, h.2.at 7 7 20 24 rfl rfl rfl (by omega) (by omega) hv (fun G1 e1 => ?_)⟩
  subst e1
  have h1 := h.setM 7 (nv k) p (by omega) (by omega)
  refine h1.2.at 8 8 20 24 rfl rfl rfl (by omega) (by omega) hv (fun G2 e2 => ?_)
  subst e2
  have h2 := h1.setM 8 (nv k) f (by omega) (by omega)
  refine h2.2.at 9 9 20 24 rfl rfl rfl (by omega) (by omega) hv (fun G3 e3 => ?_)
  subst e3
  exact hQ _ (h2.setM 9 (nv k) l (by omega) (by omega))
/-! told -/
def oTold (S : St) (k w : Int32) : Int64 := if rng k 0 ((sM S : Int) - 1) ∧ rng w 0 10 then (if w = 10 then (if sA S 12 (nv k) = 0 then 0 else 1) else (sA S (nv w + 2) (nv k)).toInt64) else -9000000000000000001
theorem C_told {z : Nat} {G : Wd} {S T : St} {k w : Int32} {Q : Int64 → Wd → Prop} (h : mid z G S T) (hi : Inv S) (hQ : Q (oTold S k w) G) : wpX10_told z k w G Q := by
  unfold oTold at hQ
  have hb : ¬ (rng k 0 ((sM S : Int) - 1) ∧ rng w 0 10) → Q (-9000000000000000001) G := fun n => by rw [if_neg n] at hQ; exact hQ
  obtain ⟨⟨la, lb, hc⟩, hm⟩ := h
  unfold wpX10_told
  refine ⟨hc.K, X10_find hc hi.1.1 (fun a ak => ?_) (fun a => hb (fun c => a c.1))⟩
  have hg : ∀ n : Nat, n ≤ 9 → w.toInt = n → Q (sA S (n + 2) (nv k)).toInt64 G := fun n hn e => by
    rw [if_pos ⟨a, by omega, by omega⟩, if_neg (fun q => by rw [q, il10] at e; omega), show nv w = n by unfold nv; omega] at hQ
    exact hQ
  obtain ⟨hK, _, b3, b4, _⟩ := (hc.2.2.2.2.1 (nv k) ak).2
  refine ifE (fun q => ⟨hK, ?_⟩) (fun q0 => ?_)
  · rw [i_eq, il0] at q; rw [b3 1 (by omega) (by omega)]; exact hg 0 (by omega) q
  rw [i_eq, il0] at q0
  refine ifE (fun q => ⟨hK, ?_⟩) (fun q1 => ?_)
  · rw [i_eq, il1] at q; rw [b3 2 (by omega) (by omega)]; exact hg 1 (by omega) q
  rw [i_eq, il1] at q1
  refine ifE (fun q => ⟨hK, ?_⟩) (fun q2 => ?_)
  · rw [i_eq, il2] at q; rw [b3 3 (by omega) (by omega)]; exact hg 2 (by omega) q
  rw [i_eq, il2] at q2
  refine ifE (fun q => ⟨hK, ?_⟩) (fun q3 => ?_)
  · rw [i_eq, il3] at q; rw [b3 4 (by omega) (by omega)]; exact hg 3 (by omega) q
  rw [i_eq, il3] at q3
  refine ifE (fun q => ⟨hK, ?_⟩) (fun q4 => ?_)
  · rw [i_eq, il4] at q; rw [b3 5 (by omega) (by omega)]; exact hg 4 (by omega) q
  rw [i_eq, il4] at q4
  refine ifE (fun q => ⟨hK, ?_⟩) (fun q5 => ?_)
  · rw [i_eq, il5] at q; rw [b4 8 (by omega) (by omega)]; exact hg 5 (by omega) q
  rw [i_eq, il5] at q5
  refine ifE (fun q => ⟨hK, ?_⟩) (fun q6 => ?_)
  · rw [i_eq, il_6] at q; rw [b4 9 (by omega) (by omega)]; exact hg 6 (by omega) q
  rw [i_eq, il_6] at q6
  refine ifE (fun q => ⟨hK, ?_⟩) (fun q7 => ?_)
  · rw [i_eq, il7] at q; rw [b4 10 (by omega) (by omega)]; exact hg 7 (by omega) q
  rw [i_eq, il7] at q7
  refine ifE (fun q => ⟨hK, ?_⟩) (fun q8 => ?_)
  · rw [i_eq, il8] at q; rw [b4 11 (by omega) (by omega)]; exact hg 8 (by omega) q
  rw [i_eq, il8] at q8
  refine ifE (fun q => ⟨hK, ?_⟩) (fun q9 => ?_)
  · rw [i_eq, il_9] at q; rw [b4 12 (by omega) (by omega)]; exact hg 9 (by omega) q
  rw [i_eq, il_9] at q9
  refine ifE (fun q => ⟨hK, ?_⟩) (fun q => hb (fun c => ?_))
  · rw [if_pos ⟨a, by rw [q, il10]; omega, by rw [q, il10]; omega⟩, if_pos q] at hQ
    rw [b4 13 (by omega) (by omega)]
    refine ifE (fun d => ?_) (fun d => ?_)
    · rw [if_pos d] at hQ; exact hQ
    · rw [if_neg d] at hQ; exact hQ
  · rw [i_eq, il10] at q; have := c.2.1; have := c.2.2; omega
theorem M_told {z : Nat} {G : Wd} {S T : St} {k w : Int32} {Q : Int64 → Wd → Prop} (h : mid z G T S) (hi : Inv S) (hQ : Q (oTold S k w) G) : wpX11_told (z + 54) k w G Q := by
  unfold oTold at hQ
  have hb : ¬ (rng k 0 ((sM S : Int) - 1) ∧ rng w 0 10) → Q (-9000000000000000001) G := fun n => by rw [if_neg n] at hQ; exact hQ
  unfold wpX11_told
  refine ⟨h.K, X11_isOne h hi.1.1 (fun a ak => ifN (fun e => n10 e) ?_) (fun a => ifP rfl (hb (fun c => a c.1)))⟩
  refine X11_in 0 10 rfl rfl (fun b => ifN (fun e => n10 e) ?_) (fun b => ifP rfl (hb (fun c => b c.2)))
  rw [if_pos ⟨a, b⟩] at hQ
  have hM := hi.1.1
  have hg : ∀ n : Nat, n ≤ 9 → w.toInt = n → Q (sA S (n + 2) (nv k)).toInt64 G := fun n hn e => by
    rw [if_neg (fun q => by rw [q, il10] at e; omega), show nv w = n by unfold nv; omega] at hQ
    exact hQ
  have hv : vp_in k 24 := vpn a.1 (by have := a.2; show k.toInt < 24; omega)
  refine ifE (fun q => ⟨h.K, h.2.at 2 2 20 24 rfl rfl rfl (by omega) (by omega) hv ?_⟩) (fun q0 => ?_)
  · rw [i_eq, il0] at q; rw [nv_c, h.I 2 (nv k) (by omega) (by omega) (by show nv k < 24; omega)]; exact hg 0 (by omega) q
  rw [i_eq, il0] at q0
  refine ifE (fun q => ⟨h.K, h.2.at 3 3 20 24 rfl rfl rfl (by omega) (by omega) hv ?_⟩) (fun q1 => ?_)
  · rw [i_eq, il1] at q; rw [nv_c, h.I 3 (nv k) (by omega) (by omega) (by show nv k < 24; omega)]; exact hg 1 (by omega) q
  rw [i_eq, il1] at q1
  refine ifE (fun q => ⟨h.K, h.2.at 4 4 20 24 rfl rfl rfl (by omega) (by omega) hv ?_⟩) (fun q2 => ?_)
  · rw [i_eq, il2] at q; rw [nv_c, h.I 4 (nv k) (by omega) (by omega) (by show nv k < 24; omega)]; exact hg 2 (by omega) q
  rw [i_eq, il2] at q2
  refine ifE (fun q => ⟨h.K, h.2.at 5 5 20 24 rfl rfl rfl (by omega) (by omega) hv ?_⟩) (fun q3 => ?_)
  · rw [i_eq, il3] at q; rw [nv_c, h.I 5 (nv k) (by omega) (by omega) (by show nv k < 24; omega)]; exact hg 3 (by omega) q
  rw [i_eq, il3] at q3
  refine ifE (fun q => ⟨h.K, h.2.at 6 6 20 24 rfl rfl rfl (by omega) (by omega) hv ?_⟩) (fun q4 => ?_)
  · rw [i_eq, il4] at q; rw [nv_c, h.I 6 (nv k) (by omega) (by omega) (by show nv k < 24; omega)]; exact hg 4 (by omega) q
  rw [i_eq, il4] at q4
  refine ifE (fun q => ⟨h.K, h.2.at 7 7 20 24 rfl rfl rfl (by omega) (by omega) hv ?_⟩) (fun q5 => ?_)
  · rw [i_eq, il5] at q; rw [nv_c, h.I 7 (nv k) (by omega) (by omega) (by show nv k < 24; omega)]; exact hg 5 (by omega) q
  rw [i_eq, il5] at q5
  refine ifE (fun q => ⟨h.K, h.2.at 8 8 20 24 rfl rfl rfl (by omega) (by omega) hv ?_⟩) (fun q6 => ?_)
  · rw [i_eq, il_6] at q; rw [nv_c, h.I 8 (nv k) (by omega) (by omega) (by show nv k < 24; omega)]; exact hg 6 (by omega) q
  rw [i_eq, il_6] at q6
  refine ifE (fun q => ⟨h.K, h.2.at 9 9 20 24 rfl rfl rfl (by omega) (by omega) hv ?_⟩) (fun q7 => ?_)
  · rw [i_eq, il7] at q; rw [nv_c, h.I 9 (nv k) (by omega) (by omega) (by show nv k < 24; omega)]; exact hg 7 (by omega) q
  rw [i_eq, il7] at q7
  refine ifE (fun q => ⟨h.K, h.2.at 10 10 20 24 rfl rfl rfl (by omega) (by omega) hv ?_⟩) (fun q8 => ?_)
  · rw [i_eq, il8] at q; rw [nv_c, h.I 10 (nv k) (by omega) (by omega) (by show nv k < 24; omega)]; exact hg 8 (by omega) q
  rw [i_eq, il8] at q8
  refine ifE (fun q => ⟨h.K, h.2.at 11 11 20 24 rfl rfl rfl (by omega) (by omega) hv ?_⟩) (fun q9 => ?_)
  · rw [i_eq, il_9] at q; rw [nv_c, h.I 11 (nv k) (by omega) (by omega) (by show nv k < 24; omega)]; exact hg 9 (by omega) q
  rw [i_eq, il_9] at q9
  have b1 := b.1
  have b2 := b.2
  rw [if_pos (by rw [i_eq, il10]; omega)] at hQ
  refine ⟨h.K, h.2.at 12 12 22 24 rfl rfl rfl (by omega) (by omega) hv ?_⟩
  rw [nv_c, h.I 12 (nv k) (by omega) (by omega) (by show nv k < 24; omega)]
  refine ifE (fun d => ?_) (fun d => ?_)
  · rw [if_pos d] at hQ; exact hQ
  · rw [if_neg d] at hQ; exact hQ
