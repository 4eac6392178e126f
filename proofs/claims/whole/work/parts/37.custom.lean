/-! ===== customs: custom, step, copy ===== -/
theorem csh.C {z : Nat} {G : Wd} (h : csh z G) {c : Nat} (hc : c < 4) : gR G (z + 3) c = some (z + (46 + 2 * c)) ∧ gR G (z + (46 + 2 * c)) 0 = some (z + (47 + 2 * c)) ∧ gK G (z + (46 + 2 * c)) = 2 ∧ gK G (z + (47 + 2 * c)) = 20 ∧ gN G (z + (47 + 2 * c)) = 5 := by
  have e : c = 0 ∨ c = 1 ∨ c = 2 ∨ c = 3 := by omega
  rcases e with e | e | e | e <;> subst e
  · exact ⟨h.R 3 0 46 (by decide), h.R 46 0 47 (by decide), h.K 46 (by omega), h.K 47 (by omega), h.N 47 (by omega)⟩
  · exact ⟨h.R 3 1 48 (by decide), h.R 48 0 49 (by decide), h.K 48 (by omega), h.K 49 (by omega), h.N 49 (by omega)⟩
  · exact ⟨h.R 3 2 50 (by decide), h.R 50 0 51 (by decide), h.K 50 (by omega), h.K 51 (by omega), h.N 51 (by omega)⟩
  · exact ⟨h.R 3 3 52 (by decide), h.R 52 0 53 (by decide), h.K 52 (by omega), h.K 53 (by omega), h.N 53 (by omega)⟩
theorem X10_findCustom {z : Nat} {G : Wd} {S : St} {la lb : Nat → Nat} {p : Int32} {Q : Option Nat → Wd → Prop} (h : CR z G S la lb) (h1 : rng p 0 3 → nv p < 4 → Q (some (z + (46 + 2 * nv p))) G) (h2 : ¬ rng p 0 3 → Q none G) : wpX10_findCustom z p G Q := by
  unfold wpX10_findCustom
  refine ifE (fun a => h2 (fun c => ?_)) (fun a => ifE (fun b => h2 (fun c => ?_)) (fun b => ⟨h.K, z + 3, h.1.R 0 3 3 (by decide), h.1.K 3 (by omega), ?_, ?_⟩))
  · rw [i_lt, il0] at a; have := c.1; omega
  · rw [i_le, il4] at b; have := c.2; omega
  · rw [i_lt, il0] at a; rw [i_le, il4] at b
    rw [h.1.N 3 (by omega)]; exact vpn (by omega) (by show p.toInt < 4; omega)
  · rw [i_lt, il0] at a; rw [i_le, il4] at b
    have e := nv_i (x := p) (by omega)
    exact ⟨_, (h.1.C (c := nv p) (by omega)).1, h1 ⟨by omega, by omega⟩ (by omega)⟩
theorem X11_isCustom {x : Int32} {G : Wd} {Q : Int32 → Wd → Prop} (h1 : rng x 0 3 → Q 1 G) (h2 : ¬ rng x 0 3 → Q 0 G) : wpX11_isCustom x G Q :=
  X11_in 0 3 rfl rfl (fun c => ⟨.inr rfl, h1 c⟩) (fun c => ⟨.inl rfl, h2 c⟩)
/-- one custom's cells alone changed -/
theorem CR.recu {z : Nat} {G G' : Wd} {S S' : St} {la lb : Nat → Nat} {c : Nat} (h : CR z G S la lb) (hc : c < 4) (fr : chg (fun b => b = z + (46 + 2 * c) ∨ b = z + (47 + 2 * c)) (fun _ => False) G G') (eM : sM S' = sM S) (eL : sL S' = sL S) (hs : ∀ o i, o < 13 ∨ 14 < o → sA S' o i = sA S o i) (h13 : ∀ c', c' ≠ c → sA S' 13 c' = sA S 13 c') (h14 : ∀ c' i, c' ≠ c → i < 5 → sA S' 14 (5 * c' + i) = sA S 14 (5 * c' + i))
    (hl : gI G' (z + (46 + 2 * c)) 2 = (if sA S' 13 c < 0 then 1 else 0) ∧ (¬ sA S' 13 c < 0 → gI G' (z + (46 + 2 * c)) 1 = sA S' 13 c ∧ ∀ i, i < 5 → gI G' (z + (47 + 2 * c)) i = sA S' 14 (5 * c + i))) : CR z G' S' la lb := by
  have hap := h.A
  obtain ⟨h1, ⟨h2a, h2b⟩, h3, ⟨h4a, h4b⟩, h5, h6, h7, h8⟩ := h
  refine ⟨⟨fun o ho => ⟨by rw [fr.K]; exact (h1.1 o ho).1, by rw [fr.N]; exact (h1.1 o ho).2⟩, fun q hq => by rw [fr.Rf (fun q => q)]; exact h1.2 q hq⟩, ⟨h2a.keep fr (by omega), h2b.keep fr (by omega)⟩, fun i' hi => ?_, ⟨by rw [fr.I (by omega), eM]; exact h4a, by rw [fr.I (by omega), eL]; exact h4b⟩, fun k' hk' => ?_, fun j hj => ?_, by rw [fr.1.1, eM, eL]; exact h7, fun c' hc' => ?_⟩
  · rw [fr.I (by omega), hs _ _ (by omega)]; exact h3 i' hi
  · rw [eM] at hk'
    obtain ⟨a1, b⟩ := h5 k' hk'
    have := (hap.1 k' hk').1
    refine ⟨by rw [fr.Rf (fun q => q)]; exact a1, ?_⟩
    refine lkAt.st (S := S) ?_ (fun o o1 o2 => hs o _ (by omega))
    obtain ⟨b1, b2, b3, b4, b5, b6, b7, b8⟩ := b
    exact ⟨by rw [fr.K]; exact b1, by rw [fr.I (by omega)]; exact b2, fun g g1 g2 => by rw [fr.I (by omega)]; exact b3 g g1 g2, fun g g1 g2 => by rw [fr.I (by omega)]; exact b4 g g1 g2, by rw [fr.Rf (fun q => q)]; exact b5, by rw [fr.Rf (fun q => q)]; exact b6, b7.keep fr (by omega), b8.keep fr (by omega)⟩
  · rw [eL] at hj
    obtain ⟨a1, b1, b2, b3, b4, b5, b6, b7, b8, b9⟩ := h6 j hj
    have := (hap.2.1 j hj).1
    refine ⟨by rw [fr.Rf (fun q => q)]; exact a1, lnAt.st (S := S) ⟨by rw [fr.K]; exact b1, by rw [fr.I (by omega)]; exact b2, by rw [fr.I (by omega)]; exact b3, by rw [fr.I (by omega)]; exact b4, by rw [fr.I (by omega)]; exact b5, by rw [fr.Rf (fun q => q)]; exact b6, by rw [fr.Rf (fun q => q)]; exact b7, by rw [fr.K]; exact b8, by rw [fr.K]; exact b9⟩ (fun o o1 o2 => hs o _ (by omega))⟩
  · by_cases e : c' = c
    · rw [e]; exact hl
    · have := h8 c' hc'
      rw [fr.I (by omega), fr.I (by omega), h13 c' e]
      refine ⟨this.1, fun q => ⟨(this.2 q).1, fun i hi => ?_⟩⟩
      rw [fr.I (by omega), h14 c' i e hi]
      exact (this.2 q).2 i hi
theorem cuMR {z : Nat} {G G' : Wd} {T : St} {c : Nat} (hm : MR (z + 54) G T) (hc : c < 4) (fr : chg (fun b => b = z + (46 + 2 * c) ∨ b = z + (47 + 2 * c)) (fun _ => False) G G') : MR (z + 54) G' T :=
  hm.chg fr (fun o ho => ⟨by omega, fun q => q⟩)
/-- Arrays.fill of ints -/
theorem J7_fill_loop {a N : Nat} {v : Int32} {G0 : Wd} {Q : Wd → Prop} (hK : gK G0 a = 20) (hN : gN G0 a = N) (h20 : N < 1000000) (h : ∀ G', chg (fun b => b = a) (fun _ => False) G0 G' → (∀ i, i < N → gI G' a i = v) → Q G') (n : Nat) : ∀ (i : Nat) (G : Wd), i ≤ N → i + n = N + 1 → chg (fun b => b = a) (fun _ => False) G0 G → (∀ j, j < i → gI G a j = v) → wpJ7_fill_53178_5 Q n a v (nI i) (nI N) G := by
  induction n with
  | zero => intro i G le e; omega
  | succ n ih =>
    intro i G le e f g
    unfold wpJ7_fill_53178_5
    refine ifE (fun a => ?_) (fun a => ?_)
    · rw [nI_leI (by omega) (by omega)] at a
      exact h G f (fun j hj => g j (by omega))
    · rw [nI_leI (by omega) (by omega)] at a
      refine ⟨by rw [f.K]; exact hK, by rw [f.N, hN]; exact vp_in_nI (by omega) (by omega), fun G1 e1 x hx => ?_⟩
      rw [nI_clamp (by omega)] at e1
      rw [nI_1] at hx
      subst e1; subst hx
      refine ih (i + 1) _ (by omega) (by omega) (f.wI _ _ _ rfl) (fun j hj => ?_)
      rw [gI_uI]
      by_cases c : j = i
      · rw [if_pos ⟨rfl, c⟩]
      · rw [if_neg (fun q => c q.2)]; exact g j (by omega)
theorem J7_fill {a N : Nat} {v : Int32} {G0 : Wd} {Q : Wd → Prop} (hK : gK G0 a = 20) (hN : gN G0 a = N) (h20 : N < 1000000) (h : ∀ G', chg (fun b => b = a) (fun _ => False) G0 G' → (∀ i, i < N → gI G' a i = v) → Q G') : wpJ7_fill_53178 a v G0 Q := by
  unfold wpJ7_fill_53178
  refine ⟨hK, fun x hx => ⟨N + 1, ?_⟩⟩
  rw [hN] at hx
  subst hx
  exact J7_fill_loop hK hN h20 h (N + 1) 0 G0 (by omega) (by omega) chg.rf (fun j hj => absurd hj (Nat.not_lt_zero _))
/-! custom -/
def fil (S : St) (c : Nat) : Nat → St
  | 0 => S
  | i + 1 => sSet (fil S c i) 14 (5 * c + i) 2
theorem fil_A (S : St) (c n : Nat) : ∀ o j, sA (fil S c n) o j = if o = 14 ∧ 5 * c ≤ j ∧ j < 5 * c + n then 2 else sA S o j := by
  induction n with
  | zero => intro o j; rw [if_neg (by omega)]; rfl
  | succ n ih =>
    intro o j
    show sA (sSet (fil S c n) 14 (5 * c + n) 2) o j = _
    rw [sA_set, ih]
    by_cases a : o = 14 ∧ j = 5 * c + n
    · rw [if_pos a, if_pos (by omega)]
    · rw [if_neg a]
      by_cases b : o = 14 ∧ 5 * c ≤ j ∧ j < 5 * c + n
      · rw [if_pos b, if_pos (by omega)]
      · rw [if_neg b, if_neg (by omega)]
theorem fil_M (S : St) (c n : Nat) : sM (fil S c n) = sM S ∧ sL (fil S c n) = sL S := by
  induction n with
  | zero => exact ⟨rfl, rfl⟩
  | succ n ih => exact ih
def oCustom (S : St) (c n : Int32) : Int64 × St := if rng c 0 3 ∧ n.toInt ≤ 5 then (if 0 ≤ n.toInt then (n.toInt64, fil (sSet S 13 (nv c) n) (nv c) 5) else (-9000000000000000014, S)) else (-9000000000000000001, S)
theorem C_custom {z : Nat} {G : Wd} {S T : St} {c n : Int32} {Q : Int64 → Wd → Prop} (h : mid z G S T) (hQ : ∀ G', mid z G' (oCustom S c n).2 T → Q (oCustom S c n).1 G') : wpX10_custom z c n G Q := by
  unfold oCustom at hQ
  have hb : ¬ (rng c 0 3 ∧ n.toInt ≤ 5) → Q (-9000000000000000001) G := fun n => by rw [if_neg n] at hQ; exact hQ G h
  obtain ⟨⟨la, lb, hc⟩, hm⟩ := h
  unfold wpX10_custom
  refine ⟨hc.K, X10_findCustom hc (fun a ak => ?_) (fun a => hb (fun c => a c.1))⟩
  refine ifE (fun b => ?_) (fun b => hb (fun c => b (by rw [i_le]; exact c.2)))
  rw [i_le, il5] at b
  rw [if_pos ⟨a, b⟩] at hQ
  refine ifE (fun d => ?_) (fun d => ?_)
  · rw [i_le, il0] at d
    rw [if_pos d] at hQ
    obtain ⟨q1, q2, q3, q4, q5⟩ := hc.1.C ak
    unfold wpX1_begin
    refine ⟨q3, q3, fun G1 e1 G2 e2 => ⟨z + (47 + 2 * nv c), by rw [e2, gR_uI, e1, gR_uI]; exact q2, ?_⟩⟩
    refine J7_fill (N := 5) (by rw [e2, gK_uI, e1, gK_uI]; exact q4) (by rw [e2, gN_uI, e1, gN_uI]; exact q5) (by omega) (fun G3 f e3 => ?_)
    have fr : chg (fun b => b = z + (46 + 2 * nv c) ∨ b = z + (47 + 2 * nv c)) (fun _ => False) G G3 := by
      have f2 : chg (fun b => b = z + (46 + 2 * nv c) ∨ b = z + (47 + 2 * nv c)) (fun _ => False) G G2 := by rw [e2, e1]; exact (chg.rf.wI _ _ _ (.inl rfl)).wI _ _ _ (.inl rfl)
      exact f2.tr (f.mono (fun b q => .inr q) (fun b q => q))
    have n13 : sA (fil (sSet S 13 (nv c) n) (nv c) 5) 13 (nv c) = n := by rw [fil_A, if_neg (by omega), sA_set, if_pos ⟨rfl, rfl⟩]
    refine hQ _ ⟨⟨la, lb, hc.recu ak fr (fil_M _ _ _).1 (fil_M _ _ _).2 (fun o i q => by rw [fil_A, if_neg (by omega), sA_set, if_neg (by omega)]) (fun c' q => by rw [fil_A, if_neg (by omega), sA_set, if_neg (by omega)]) (fun c' i q qi => by rw [fil_A, if_neg (by omega), sA_set, if_neg (by omega)]) ⟨?_, fun _ => ⟨?_, fun i hi => ?_⟩⟩⟩, cuMR hm ak fr⟩
    · rw [n13, if_neg (by rw [i_lt, il0]; omega), f.I (by omega), e2, gI_uI, if_neg (by omega), e1, gI_uI, if_pos ⟨rfl, rfl⟩]
    · rw [n13, f.I (by omega), e2, gI_uI, if_pos ⟨rfl, rfl⟩]
    · rw [e3 i hi, fil_A, if_pos (by omega)]
  · rw [i_le, il0] at d
    rw [if_neg d] at hQ
    exact hQ G ⟨⟨la, lb, hc⟩, hm⟩
theorem c5i {c : Nat} {i : Nat} : 5 * nI c + nI i = nI (5 * c + i) := by
  rw [show (5 : Int32) = nI 5 from rfl, pk_mul, nI_add]
theorem M_cust_loop {z c : Nat} {T S : St} {v : Int32} {Q : Int64 → Wd → Prop} (hc : c < 4) (hQ : ∀ G', mid z G' T (fil S c 5) → Q v.toInt64 G') (n : Nat) : ∀ (i : Nat) (G : Wd), i ≤ 5 → i + n = 6 → mid z G T (fil S c i) → wpX11_custom_33 Q n (z + 54) (nI c) v (nI i) G := by
  induction n with
  | zero => intro i G le e; omega
  | succ n ih =>
    intro i G le e h
    unfold wpX11_custom_33
    rw [c5i]
    refine ifE (fun a => ?_) (fun a => ⟨h.K, h.2.at 14 14 20 20 rfl rfl rfl (by omega) (by omega) (vp_in_nI ?_ (by decide)) (fun G1 e1 x hx => ?_)⟩)
    · rw [i_le, il5, nI_toInt (by omega)] at a
      have : i = 5 := by omega
      subst this
      exact hQ G h
    · rw [i_le, il5, nI_toInt (by omega)] at a; omega
    · rw [i_le, il5, nI_toInt (by omega)] at a
      rw [nI_clamp (by omega)] at e1
      rw [nI_1] at hx
      subst e1; subst hx
      exact ih (i + 1) _ (by omega) (by omega) (h.setM 14 (5 * c + i) 2 (by omega) (by omega))
theorem M_custom {z : Nat} {G : Wd} {S T : St} {c n : Int32} {Q : Int64 → Wd → Prop} (h : mid z G T S) (hQ : ∀ G', mid z G' T (oCustom S c n).2 → Q (oCustom S c n).1 G') : wpX11_custom (z + 54) c n G Q := by
  unfold oCustom at hQ
  have hb : ¬ (rng c 0 3 ∧ n.toInt ≤ 5) → Q (-9000000000000000001) G := fun n => by rw [if_neg n] at hQ; exact hQ G h
  unfold wpX11_custom
  refine X11_isCustom (fun a => ifN (fun e => n10 e) ?_) (fun a => ifP rfl (hb (fun c => a c.1)))
  refine ifE (fun b => ?_) (fun b => hb (fun c => b (by rw [i_le]; exact c.2)))
  rw [i_le, il5] at b
  rw [if_pos ⟨a, b⟩] at hQ
  refine ifE (fun d => ?_) (fun d => ?_)
  · rw [i_le, il0] at d
    rw [if_pos d] at hQ
    have a1 := a.1
    have a2 := a.2
    have ec := nv_i a1
    have eN := nI_nv a1
    refine ⟨h.K, h.2.at 13 13 20 4 rfl rfl rfl (by omega) (by omega) (vpn a1 (by show c.toInt < 4; omega)) (fun G1 e1 => ?_)⟩
    subst e1
    refine ⟨6, ?_⟩
    have := M_cust_loop (z := z) (c := nv c) (T := T) (S := sSet S 13 (nv c) n) (v := n) (Q := Q) (by omega) (fun G' h' => hQ G' h') 6 0 _ (by omega) (by omega) (h.setM 13 (nv c) n (by omega) (by omega))
    rw [← eN] at this
    exact this
  · rw [i_le, il0] at d
    rw [if_neg d] at hQ
    exact hQ G h
/-! step -/
theorem CR.setStep {z : Nat} {G : Wd} {S : St} {la lb : Nat → Nat} {c i : Nat} (h : CR z G S la lb) (hc : c < 4) (hi : i < 5) (hs : ¬ sA S 13 c < 0) (v : Int32) : CR z (uI G (z + (47 + 2 * c)) i v) (sSet S 14 (5 * c + i) v) la lb := by
  have fr : chg (fun b => b = z + (46 + 2 * c) ∨ b = z + (47 + 2 * c)) (fun _ => False) G (uI G (z + (47 + 2 * c)) i v) := chg.rf.wI _ _ _ (.inr rfl)
  have h8 := h.2.2.2.2.2.2.2 c hc
  have n13 : sA (sSet S 14 (5 * c + i) v) 13 c = sA S 13 c := by rw [sA_set, if_neg (by omega)]
  refine h.recu hc fr rfl rfl (fun o i q => by rw [sA_set, if_neg (by omega)]) (fun c' q => by rw [sA_set, if_neg (by omega)]) (fun c' i q qi => by rw [sA_set, if_neg (by omega)]) ?_
  have e1 : ∀ k, gI (uI G (z + (47 + 2 * c)) i v) (z + (46 + 2 * c)) k = gI G (z + (46 + 2 * c)) k := fun k => by rw [gI_uI, if_neg (by omega)]
  rw [n13, e1, e1]
  refine ⟨h8.1, fun q => ⟨(h8.2 q).1, fun j hj => ?_⟩⟩
  rw [gI_uI, sA_set]
  by_cases e : j = i
  · rw [if_pos ⟨rfl, e⟩, if_pos ⟨rfl, by omega⟩]
  · rw [if_neg (fun q => e q.2), if_neg (by omega)]; exact (h8.2 q).2 j hj
def oStep (S : St) (c i v : Int32) : Int64 × St := if rng c 0 3 then (if sA S 13 (nv c) < 0 then (-9000000000000000011, S) else (if rng i 0 ((sA S 13 (nv c)).toInt - 1) then (if rng v 2 1000 then ((sA S 14 (5 * nv c + nv i)).toInt64, sSet S 14 (5 * nv c + nv i) v) else (-9000000000000000001, S)) else (-9000000000000000013, S))) else (-9000000000000000001, S)
theorem C_step {z : Nat} {G : Wd} {S T : St} {c i v : Int32} {Q : Int64 → Wd → Prop} (h : mid z G S T) (hi : Inv S) (hQ : ∀ G', mid z G' (oStep S c i v).2 T → Q (oStep S c i v).1 G') : wpX10_step z c i v G Q := by
  unfold oStep at hQ
  have h0 := h
  obtain ⟨⟨la, lb, hc⟩, hm⟩ := h
  unfold wpX10_step
  refine ⟨hc.K, X10_findCustom hc (fun a ak => ?_) (fun a => by rw [if_neg a] at hQ; exact hQ G h0)⟩
  rw [if_pos a] at hQ
  obtain ⟨q1, q2, q3, q4, q5⟩ := hc.1.C ak
  have h8 := hc.2.2.2.2.2.2.2 (nv c) ak
  refine ⟨q3, ?_⟩
  rw [h8.1]
  by_cases b : sA S 13 (nv c) < 0
  · rw [if_pos b] at hQ ⊢
    exact ifN (fun e => n10 e) (hQ G h0)
  · rw [if_neg b] at hQ ⊢
    refine ifP rfl ?_
    have g := h8.2 b
    rw [g.1]
    have r13 := (hi.2.2.2.1 (nv c) ak).2
    refine ifE (fun d => ?_) (fun d => ifE (fun e => ?_) (fun e => ?_))
    · rw [i_lt, il0] at d
      rw [if_neg (fun q => by have := q.1; omega)] at hQ
      exact hQ G h0
    · rw [i_lt, il0] at d; rw [i_lt] at e
      rw [if_pos ⟨by omega, by omega⟩] at hQ
      have ei := nv_i (x := i) (by omega)
      refine ifE (fun f => ?_) (fun f => ifE (fun f' => ?_) (fun f' => ?_))
      · rw [i_lt, il2] at f
        rw [if_neg (fun q => by have := q.1; omega)] at hQ
        exact hQ G h0
      · rw [i_lt, il2] at f; rw [i_le, il1000] at f'
        rw [if_pos ⟨by omega, by omega⟩] at hQ
        have hv : vp_in i (gN G (z + (47 + 2 * nv c))) := by rw [q5]; exact vpn (by omega) (by show i.toInt < 5; omega)
        refine ⟨_, q2, q4, hv, fun x hx => ⟨_, q2, q4, hv, fun G1 e1 => ?_⟩⟩
        rw [nv_c, g.2 (nv i) (by omega)] at hx
        subst hx; subst e1
        exact hQ _ ⟨⟨la, lb, hc.setStep (i := nv i) ak (by omega) b v⟩, cuMR hm ak (chg.rf.wI _ _ _ (.inr rfl))⟩
      · rw [i_le, il1000] at f'
        rw [if_neg (fun q => by have := q.2; omega)] at hQ
        exact hQ G h0
    · rw [i_lt] at e
      rw [if_neg (fun q => by have := q.2; omega)] at hQ
      exact hQ G h0
theorem M_step {z : Nat} {G : Wd} {S T : St} {c i v : Int32} {Q : Int64 → Wd → Prop} (h : mid z G T S) (hi : Inv S) (hQ : ∀ G', mid z G' T (oStep S c i v).2 → Q (oStep S c i v).1 G') : wpX11_step (z + 54) c i v G Q := by
  unfold oStep at hQ
  unfold wpX11_step
  refine X11_isCustom (fun a => ifN (fun e => n10 e) ?_) (fun a => ifP rfl (by rw [if_neg a] at hQ; exact hQ G h))
  rw [if_pos a] at hQ
  have a1 := a.1
  have a2 := a.2
  have ec := nv_i a1
  have eN := nI_nv a1
  have r13 := hi.2.2.2.1 (nv c) (by omega)
  have hv : vp_in c 4 := vpn a1 (by show c.toInt < 4; omega)
  have e13 : gI G (z + 54 + 13) (c).toNatClampNeg = sA S 13 (nv c) := h.I 13 (nv c) (by omega) (by omega) (by show nv c < 4; omega)
  refine ⟨h.K, h.2.at 13 13 20 4 rfl rfl rfl (by omega) (by omega) hv ?_⟩
  rw [e13]
  refine ifE (fun b => ?_) (fun b => ?_)
  · rw [i_le, il0] at b
    rw [if_neg (by rw [i_lt, il0]; omega)] at hQ
    refine h.2.at 13 13 20 4 rfl rfl rfl (by omega) (by omega) hv ?_
    rw [e13]
    refine X11_in 0 ((sA S 13 (nv c)).toInt - 1) rfl ?_ (fun d => ifN (fun e => n10 e) ?_) (fun d => ifP rfl ?_)
    · rw [i64, nI_nv b, nIm1 (by have := nv_i b; have := r13.2; omega), nI_toInt (by have := nv_i b; have := r13.2; omega)]
    · rw [if_pos d] at hQ
      have d1 := d.1
      have d2 := d.2
      have r2 := r13.2
      have ei := nv_i d1
      have eI := nI_nv d1
      refine X11_in 2 1000 rfl rfl (fun f => ifN (fun e => n10 e) ⟨h.K, ?_⟩) (fun f => ifP rfl ?_)
      · rw [if_pos f] at hQ
        have e5 : 5 * c + i = nI (5 * nv c + nv i) := by rw [← c5i, ← eN, ← eI]
        rw [e5]
        have hv5 : vp_in (nI (5 * nv c + nv i)) 20 := vp_in_nI (by omega) (by decide)
        refine h.2.at 14 14 20 20 rfl rfl rfl (by omega) (by omega) hv5 (fun x hx => h.2.at 14 14 20 20 rfl rfl rfl (by omega) (by omega) hv5 (fun G1 e1 => ?_))
        rw [nI_clamp (by omega)] at hx e1
        rw [h.I 14 _ (by omega) (by omega) (by show _ < 20; omega)] at hx
        subst hx; subst e1
        exact hQ _ (h.setM 14 _ v (by omega) (by omega))
      · rw [if_neg f] at hQ; exact hQ G h
    · rw [if_neg d] at hQ; exact hQ G h
  · rw [i_le, il0] at b
    rw [if_pos (by rw [i_lt, il0]; omega)] at hQ
    exact hQ G h
