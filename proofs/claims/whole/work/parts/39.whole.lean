/-! ===== part (the reference), whole ===== -/
theorem c5m {c k : Nat} : 5 * nI c + nI (k + 1) - 1 = nI (5 * c + k) := by
  rw [c5i, show 5 * c + (k + 1) = 5 * c + k + 1 by omega]; exact nI_pred _
theorem M_part_loop {z c i : Nat} {G : Wd} {T S : St} {v : Int64} {Q : Int64 → Wd → Prop} (h : mid z G T S) (hi : Inv S) (hc : c < 4) (hs : ¬ sA S 13 c < 0) (n : Nat) : ∀ (x : Int64), i + n ≤ 5 → (v < 0 → Q (- (if i = 0 then pdv (stp S c) i n x else pdv (stp S c) i n x % stp S c (i - 1))) G) → (¬ v < 0 → Q (if i = 0 then pdv (stp S c) i n x else pdv (stp S c) i n x % stp S c (i - 1)) G) → wpX11_part_80 Q (n + 1) (z + 54) (nI c) v (nI i) x (nI (i + n)) G := by
  have hst : ∀ j, j < 5 → (gI G (z + 54 + 14) (5 * c + j)).toInt64 = stp S c j := fun j hj => by rw [h.I 14 _ (by omega) (by omega) (by show 5 * c + j < 20; omega)]; rfl
  have fin : ∀ y : Int64, (v < 0 → Q (-y) G) → (¬ v < 0 → Q y G) → wpX11_part_139 Q v y G := fun y a b => by
    unfold wpX11_part_139
    exact ifE a b
  induction n with
  | zero =>
    intro x le h1 h2
    unfold wpX11_part_80
    refine ifP (by rw [nI_leI (by omega) (by omega)]; omega) (ifE (fun a => ?_) (fun a => ?_))
    · have e0 : i = 0 := by rw [i_le, nI_toInt (by omega), il0] at a; omega
      rw [if_pos e0] at h1 h2
      exact fin _ h1 h2
    · have e0 : ¬ i = 0 := fun e => a (by rw [e]; decide)
      rw [if_neg e0] at h1 h2
      obtain ⟨j, rfl⟩ : ∃ j, i = j + 1 := ⟨i - 1, by omega⟩
      rw [c5m, nI_clamp (by omega)]
      refine ⟨h.K, h.2.at 14 14 20 20 rfl rfl rfl (by omega) (by omega) (vp_in_nI (by omega) (by decide)) ⟨?_, ?_⟩⟩
      · rw [hst _ (by omega)]; exact stp_ne hi hc (by omega) hs
      · rw [hst _ (by omega)]; exact fin _ h1 h2
  | succ n ih =>
    intro x le h1 h2
    unfold wpX11_part_80
    refine ifN (by rw [nI_leI (by omega) (by omega)]; omega) ?_
    rw [show i + (n + 1) = i + n + 1 by omega, c5m, nI_clamp (by omega)]
    refine ⟨h.K, h.2.at 14 14 20 20 rfl rfl rfl (by omega) (by omega) (vp_in_nI (by omega) (by decide)) ⟨?_, fun y hy s' hs' => ?_⟩⟩
    · rw [hst _ (by omega)]; exact stp_ne hi hc (by omega) hs
    rw [hst _ (by omega)] at hy
    rw [pk_m1] at hs'
    subst hy; subst hs'
    exact ih _ (by omega) h1 h2
theorem M_part {z : Nat} {G : Wd} {S T : St} {c i : Int32} {v : Int64} {Q : Int64 → Wd → Prop} (h : mid z G T S) (hi : Inv S) (hQ : Q (oPart S c v i) G) : wpX11_part (z + 54) c v i G Q := by
  unfold oPart at hQ
  have hb : ¬ (rng c 0 3 ∧ -1000000000000000 ≤ v.toInt ∧ v.toInt ≤ 1000000000000000) → Q (-9000000000000000001) G := fun n => by rw [if_neg n] at hQ; exact hQ
  unfold wpX11_part
  refine X11_isCustom (fun a => ifN (fun e => n10 e) ?_) (fun a => ifP rfl (hb (fun c => a c.1)))
  have rest : -1000000000000000 ≤ v.toInt → v.toInt ≤ 1000000000000000 → (gK G (z + 54) = 11 ∧ ∃ b26, gR G (z + 54) 13 = some b26 ∧ gK G b26 = 20 ∧ vp_in c (gN G b26) ∧ if 0 ≤ (gI G b26 (c).toNatClampNeg) then (∃ b30, gR G (z + 54) 13 = some b30 ∧ gK G b30 = 20 ∧ vp_in c (gN G b30) ∧ wpX11_isIn ((i).toInt64) 0 ((gI G b30 (c).toNatClampNeg).toInt64) G (fun r34 G35 => if r34 = 0 then (Q (-9000000000000000013) G35) else (if v < 0 then (wpX11_part_70 Q (z + 54) c v i (-v) G35) else (wpX11_part_70 Q (z + 54) c v i v G35)))) else (Q (-9000000000000000011) G)) := by
    intro b d
    rw [if_pos ⟨a, b, d⟩] at hQ
    have a1 := a.1
    have a2 := a.2
    have ec := nv_i a1
    have eN := nI_nv a1
    have r13 := (hi.2.2.2.1 (nv c) (by omega)).2
    have hv : vp_in c 4 := vpn a1 (by show c.toInt < 4; omega)
    have e13 : gI G (z + 54 + 13) (c).toNatClampNeg = sA S 13 (nv c) := h.I 13 (nv c) (by omega) (by omega) (by show nv c < 4; omega)
    refine ⟨h.K, h.2.at 13 13 20 4 rfl rfl rfl (by omega) (by omega) hv ?_⟩
    rw [e13]
    refine ifE (fun sc => ?_) (fun sc => ?_)
    · rw [i_le, il0] at sc
      have sc' : ¬ sA S 13 (nv c) < 0 := by rw [i_lt, il0]; omega
      rw [if_neg sc'] at hQ
      refine h.2.at 13 13 20 4 rfl rfl rfl (by omega) (by omega) hv ?_
      rw [e13]
      refine X11_in 0 ((sA S 13 (nv c)).toInt) rfl (i64 _) (fun e => ifN (fun e => n10 e) ?_) (fun e => ifP rfl ?_)
      · rw [if_pos e] at hQ
        have q1 := e.1
        have q2 := e.2
        have ei := nv_i q1
        have eI := nI_nv q1
        have es := nv_i sc
        have eS := nI_nv sc
        have run : ∀ x : Int64, (v < 0 → Q (- prt S (nv c) (nv i) (nv (sA S 13 (nv c))) x) G) → (¬ v < 0 → Q (prt S (nv c) (nv i) (nv (sA S 13 (nv c))) x) G) → wpX11_part_70 Q (z + 54) c v i x G := by
          intro x h1 h2
          unfold wpX11_part_70
          refine ⟨h.K, h.2.at 13 13 20 4 rfl rfl rfl (by omega) (by omega) hv (fun y hy => ⟨nv (sA S 13 (nv c)) - nv i + 1, ?_⟩)⟩
          rw [e13] at hy
          have := M_part_loop (c := nv c) (i := nv i) (v := v) (Q := Q) h hi (by omega) sc' (nv (sA S 13 (nv c)) - nv i) x (by omega) h1 h2
          rw [← eN, ← eI, show nv i + (nv (sA S 13 (nv c)) - nv i) = nv (sA S 13 (nv c)) by omega, ← eS] at this
          rw [hy]
          exact this
        refine ifE (fun k => run _ (fun _ => ?_) (fun q => absurd k q)) (fun k => run _ (fun q => absurd q k) (fun _ => ?_))
        · rw [if_pos k] at hQ; exact hQ
        · rw [if_neg k] at hQ; exact hQ
      · rw [if_neg e] at hQ; exact hQ
    · rw [i_le, il0] at sc
      rw [if_pos (by rw [i_lt, il0]; omega)] at hQ
      exact hQ
  unfold wpX11_isIn
  refine ifE (fun b => ifP rfl (hb (fun c => ?_))) (fun b => ifE (fun d => ifP rfl (hb (fun c => ?_))) (fun d => ifN (fun e => n10 e) (rest ?_ ?_)))
  · rw [l_lt, show (-1000000000000000 : Int64).toInt = -1000000000000000 from rfl] at b; omega
  · rw [l_lt, show (1000000000000000 : Int64).toInt = 1000000000000000 from rfl] at d; omega
  · rw [l_lt, show (-1000000000000000 : Int64).toInt = -1000000000000000 from rfl] at b; omega
  · rw [l_lt, show (1000000000000000 : Int64).toInt = 1000000000000000 from rfl] at d; omega
/-! whole -/
def whl (f : Nat → Int64) : Nat → Int64 → Int64 → Int64 → Int64
  | 0, x, w, s => s + x % 1000 * w
  | k + 1, x, w, s => whl f k (x / 1000) (w * f k) (s + x % 1000 * w)
theorem C_whole_loop {z c : Nat} {G : Wd} {S : St} {la lb : Nat → Nat} {Q : Int64 → Wd → Prop} (hr : CR z G S la lb) (hi : Inv S) (hc : c < 4) (hs : ¬ sA S 13 c < 0) (k : Nat) : ∀ (x w s : Int64), k ≤ 5 → Q (whl (stp S c) k x w s) G → wpX1_putTogether_14 Q (k + 2) (z + (46 + 2 * c)) x w s (nI k) G := by
  obtain ⟨p1, p2, p3, p4, p5⟩ := hr.1.C hc
  induction k with
  | zero =>
    intro x w s le hQ
    rw [wpX1_putTogether_14]
    refine ifN (by decide) (fun x2 e2 x3 e3 => ifP (by decide) ?_)
    unfold wpX1_putTogether_57
    intro y hy
    show wpX1_putTogether_14 Q (0 + 1) _ _ _ _ y G
    rw [wpX1_putTogether_14]
    refine ifP (by rw [hy]; decide) ?_
    subst e2
    exact hQ
  | succ k ih =>
    intro x w s le hQ
    rw [wpX1_putTogether_14]
    refine ifN (nI_pos (by omega)) (fun x2 e2 x3 e3 => ifN (nI_nle (by omega) (by omega)) ?_)
    rw [nI_pred]
    refine ⟨p3, X1_stepAt hr hi hc hs (by omega) (fun y hy => ?_)⟩
    unfold wpX1_putTogether_57
    intro s' hs'
    have hy' : y = w * stp S c k := hy
    rw [pk_m1] at hs'
    subst hy'; subst hs'; subst e2; subst e3
    exact ih _ _ _ (by omega) hQ
theorem M_whole_loop {z c : Nat} {G : Wd} {T S : St} {Q : Int64 → Wd → Prop} (h : mid z G T S) (hc : c < 4) (k : Nat) : ∀ (x w s : Int64), k ≤ 5 → Q (whl (stp S c) k x w s) G → wpX11_whole_55 Q (k + 2) (z + 54) (nI c) x w s (nI k) G := by
  have hst : ∀ j, j < 5 → (gI G (z + 54 + 14) (5 * c + j)).toInt64 = stp S c j := fun j hj => by rw [h.I 14 _ (by omega) (by omega) (by show 5 * c + j < 20; omega)]; rfl
  induction k with
  | zero =>
    intro x w s le hQ
    rw [wpX11_whole_55]
    refine ifN (by decide) (fun x2 e2 x3 e3 => ifP (by decide) ?_)
    unfold wpX11_whole_107
    intro w' hw y hy
    show wpX11_whole_55 Q (0 + 1) _ _ _ _ _ y G
    rw [wpX11_whole_55]
    refine ifP (by rw [hy]; decide) ?_
    subst e2
    exact hQ
  | succ k ih =>
    intro x w s le hQ
    rw [wpX11_whole_55]
    refine ifN (nI_pos (by omega)) (fun x2 e2 x3 e3 => ifN (nI_nle (by omega) (by omega)) ?_)
    rw [c5m, nI_clamp (by omega)]
    refine ⟨h.K, h.2.at 14 14 20 20 rfl rfl rfl (by omega) (by omega) (vp_in_nI (by omega) (by decide)) ?_⟩
    unfold wpX11_whole_107
    intro y hy s' hs'
    rw [hst _ (by omega)] at hy
    rw [pk_m1] at hs'
    subst hy; subst hs'; subst e2; subst e3
    exact ih _ _ _ (by omega) hQ
def oWhole (S : St) (c : Int32) (v : Int64) : Int64 := if rng c 0 3 ∧ 0 ≤ v.toInt ∧ v.toInt < 1000000000000000000 then (if sA S 13 (nv c) < 0 then -9000000000000000011 else whl (stp S (nv c)) (nv (sA S 13 (nv c))) v 1 0) else -9000000000000000001
theorem C_whole {z : Nat} {G : Wd} {S T : St} {c : Int32} {v : Int64} {Q : Int64 → Wd → Prop} (h : mid z G S T) (hi : Inv S) (hQ : Q (oWhole S c v) G) : wpX10_whole z c v G Q := by
  unfold oWhole at hQ
  obtain ⟨⟨la, lb, hc⟩, hm⟩ := h
  have hb : ¬ (rng c 0 3 ∧ 0 ≤ v.toInt ∧ v.toInt < 1000000000000000000) → Q (-9000000000000000001) G := fun n => by rw [if_neg n] at hQ; exact hQ
  unfold wpX10_whole
  refine ⟨hc.K, X10_findCustom hc (fun a ak => ?_) (fun a => hb (fun c => a c.1))⟩
  obtain ⟨p1, p2, p3, p4, p5⟩ := hc.1.C ak
  refine ifE (fun b => hb (fun c => ?_)) (fun b => ifE (fun d => ⟨p3, ?_⟩) (fun d => hb (fun c => ?_)))
  · rw [l_lt, ll0] at b; omega
  · rw [l_lt, ll0] at b
    rw [l_lt, show (1000000000000000000 : Int64).toInt = 1000000000000000000 from rfl] at d
    rw [if_pos ⟨a, by omega, by omega⟩] at hQ
    have h8 := hc.2.2.2.2.2.2.2 (nv c) ak
    rw [h8.1]
    by_cases sc : sA S 13 (nv c) < 0
    · rw [if_pos sc] at hQ
      rw [if_pos sc]
      exact ifN (fun e => n10 e) hQ
    rw [if_neg sc] at hQ ⊢
    refine ifP rfl ?_
    have g1 := (h8.2 sc).1
    have r13 := (hi.2.2.2.1 (nv c) ak).2
    have sc' := sc
    rw [i_lt, il0] at sc'
    have e13 := nv_i (x := sA S 13 (nv c)) (by omega)
    have eN := nI_nv (x := sA S 13 (nv c)) (by omega)
    unfold wpX1_putTogether
    refine ⟨p3, fun y hy => ⟨nv (sA S 13 (nv c)) + 2, ?_⟩⟩
    have := C_whole_loop (Q := Q) hc hi ak sc (nv (sA S 13 (nv c))) v 1 0 (by omega) hQ
    rw [← eN] at this
    rw [hy, g1]
    exact this
  · rw [l_lt, show (1000000000000000000 : Int64).toInt = 1000000000000000000 from rfl] at d; omega
theorem M_whole {z : Nat} {G : Wd} {S T : St} {c : Int32} {v : Int64} {Q : Int64 → Wd → Prop} (h : mid z G T S) (hi : Inv S) (hQ : Q (oWhole S c v) G) : wpX11_whole (z + 54) c v G Q := by
  unfold oWhole at hQ
  have hb : ¬ (rng c 0 3 ∧ 0 ≤ v.toInt ∧ v.toInt < 1000000000000000000) → Q (-9000000000000000001) G := fun n => by rw [if_neg n] at hQ; exact hQ
  unfold wpX11_whole
  refine X11_isCustom (fun a => ifN (fun e => n10 e) ?_) (fun a => ifP rfl (hb (fun c => a c.1)))
  have a1 := a.1
  have a2 := a.2
  have ec := nv_i a1
  have eN := nI_nv a1
  have r13 := (hi.2.2.2.1 (nv c) (by omega)).2
  have hv : vp_in c 4 := vpn a1 (by show c.toInt < 4; omega)
  have e13 : gI G (z + 54 + 13) (c).toNatClampNeg = sA S 13 (nv c) := h.I 13 (nv c) (by omega) (by omega) (by show nv c < 4; omega)
  refine ifE (fun b => hb (fun c => ?_)) (fun b => ifE (fun d => ⟨h.K, h.2.at 13 13 20 4 rfl rfl rfl (by omega) (by omega) hv ?_⟩) (fun d => hb (fun c => ?_)))
  · rw [l_lt, ll0] at b; omega
  · rw [l_lt, ll0] at b
    rw [l_lt, show (1000000000000000000 : Int64).toInt = 1000000000000000000 from rfl] at d
    rw [if_pos ⟨a, by omega, by omega⟩] at hQ
    rw [e13]
    refine ifE (fun sc => ?_) (fun sc => ?_)
    · rw [i_le, il0] at sc
      have sc' : ¬ sA S 13 (nv c) < 0 := by rw [i_lt, il0]; omega
      rw [if_neg sc'] at hQ
      have es := nv_i sc
      have eS := nI_nv sc
      refine h.2.at 13 13 20 4 rfl rfl rfl (by omega) (by omega) hv (fun y hy => ⟨nv (sA S 13 (nv c)) + 2, ?_⟩)
      rw [e13] at hy
      have := M_whole_loop (c := nv c) (Q := Q) h (by omega) (nv (sA S 13 (nv c))) v 1 0 (by omega) hQ
      rw [← eN, ← eS] at this
      rw [hy]
      exact this
    · rw [i_le, il0] at sc
      rw [if_pos (by rw [i_lt, il0]; omega)] at hQ
      exact hQ
  · rw [l_lt, show (1000000000000000000 : Int64).toInt = 1000000000000000000 from rfl] at d; omega
