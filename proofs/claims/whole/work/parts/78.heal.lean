/-! ===== heal ===== -/
theorem shA : ∀ k, k < 24 → ((nI k).toInt64 &&& 63).toBitVec.smod 64 = BitVec.ofNat 64 k := by decide +kernel
theorem lN_shr {B k : Nat} (hB : B < 9223372036854775808) (hk : k < 24) : lN B >>> ((nI k).toInt64 &&& 63) = lN (B / 2 ^ k) := by
  apply Int64.toBitVec_inj.mp
  rw [Int64.toBitVec_shiftRight, shA k hk]
  show (BitVec.ofNat 64 B).sshiftRight (BitVec.ofNat 64 k).toNat = BitVec.ofNat 64 (B / 2 ^ k)
  have hm : (BitVec.ofNat 64 B).msb = false := by
    rw [BitVec.msb_eq_false_iff_two_mul_lt, BitVec.toNat_ofNat, Nat.mod_eq_of_lt (show B < 2 ^ 64 by omega)]
    omega
  rw [BitVec.sshiftRight_eq_of_msb_false hm]
  apply BitVec.eq_of_toNat_eq
  have hd : B / 2 ^ k ≤ B := Nat.div_le_self _ _
  rw [BitVec.toNat_ushiftRight, BitVec.toNat_ofNat, BitVec.toNat_ofNat, BitVec.toNat_ofNat, Nat.mod_eq_of_lt (show B < 2 ^ 64 by omega), Nat.mod_eq_of_lt (show k < 2 ^ 64 by omega), Nat.mod_eq_of_lt (show B / 2 ^ k < 2 ^ 64 by omega), Nat.shiftRight_eq_div_pow]
theorem bitL {B k : Nat} (hB : B < 16777216) (hk : k < 24) : (lN B >>> ((nI k).toInt64 &&& 63)) &&& 1 = 1 ↔ B.testBit k = true := by
  rw [lN_shr (by omega) hk, show (1 : Int64) = lN 1 from rfl, lN_and, Nat.and_one_is_mod, Nat.testBit_eq_decide_div_mod_eq, decide_eq_true_eq, lN_eqI (by omega) (by omega)]
def hS (S : St) (B : Nat) : Nat → St
  | 0 => S
  | k + 1 => if B.testBit k then sSet (hS S B k) 12 k 1 else hS S B k
theorem hS_s (S : St) (B k : Nat) : hS S B (k + 1) = if B.testBit k then sSet (hS S B k) 12 k 1 else hS S B k := rfl
theorem hS_M (S : St) (B k : Nat) : sM (hS S B k) = sM S := by
  induction k with
  | zero => rfl
  | succ k ih =>
    rw [hS_s]
    split
    · exact ih
    · exact ih
theorem hS_inv {S : St} (hi : Inv S) (B k : Nat) : Inv (hS S B k) := by
  induction k with
  | zero => exact hi
  | succ k ih =>
    rw [hS_s]
    split
    · exact ih.set12 k 1 ⟨by decide, by decide⟩
    · exact ih
theorem BI_M {S : St} {p d : Int32} (n : Nat) (i : Nat) (hi : i ≤ dc S p d (sM S)) : BI S p d n i < 2 ^ sM S := by
  cases i with
  | zero => exact Nat.pow_pos (by omega)
  | succ i =>
    have h1 := BI_lt (S := S) (p := p) (d := d) n i (by omega)
    have h2 := (ck_lt (S := S) (p := p) (d := d) (show i < dc S p d (sM S) by omega)).1
    have h3 : 2 ^ (ck S p d i + 1) ≤ 2 ^ sM S := Nat.pow_le_pow_right (by omega) (by omega)
    rw [Nat.pow_succ] at h3
    unfold BI
    split
    · rw [or_pow h1]; omega
    · omega
theorem cur_or {S : St} (hi : Inv S) (v : Int32) : cur S v < 0 ∨ ∃ B, cur S v = lN B ∧ B < 2 ^ sM S ∧ B < 16777216 := by
  unfold cur
  by_cases c : (decide (10 < dc S (v / 10000) (v % 10000) (sM S)) || (jfin true S v).1) = true
  · rw [if_pos c]; exact Or.inl (by decide)
  · rw [if_neg c]
    cases chs S (v / 10000) (v % 10000) (jfin true S v).2.2 (2 ^ dc S (v / 10000) (v % 10000) (sM S)) with
    | none => exact Or.inl (by show (-9000000000000000005 : Int64) < 0; decide)
    | some b => exact Or.inr ⟨_, rfl, BI_M b _ (Nat.le_refl _), BI_24 hi.1.1 b _ (Nat.le_refl _)⟩
def oHeal (S : St) (v : Int32) : Int64 × St := if rng v 0 79999 then (if cur S v < 0 then (cur S v, S) else (lN (pcI (nA (cur S v)) 24), hS S (nA (cur S v)) (sM S))) else (-9000000000000000001, S)
theorem C_heal_loop {z B : Nat} {S T : St} {la lb : Nat → Nat} {Q : Int64 → Wd → Prop} (hi : Inv S) (hB : B < 16777216) (hQ : ∀ G', CR z G' (hS S B (sM S)) la lb → MR (z + 54) G' T → Q (lN (pcI B 24)) G') (n : Nat) : ∀ (i : Nat) (G : Wd), i ≤ sM S → i + n = sM S + 1 → CR z G (hS S B i) la lb → MR (z + 54) G T → wpX10_heal_30 Q n z (lN B) (nI i) G := by
  have hM := hi.1.1
  induction n with
  | zero => intro i G le e; omega
  | succ n ih =>
    intro i G le e h hm
    unfold wpX10_heal_30
    refine ⟨h.K, ?_⟩
    rw [h.2.2.2.1.1, hS_M]
    refine ifE (fun c => ?_) (fun c => ?_)
    · rw [nI_leI (by omega) (by omega)] at c
      have ei : i = sM S := by omega
      rw [ei] at h
      refine J13_bc (by show B < 16777216; exact hB) ?_
      rw [nI_64 (by have := pcI_le B 24; omega)]
      exact hQ G h hm
    · rw [nI_leI (by omega) (by omega)] at c
      have hk : i < sM (hS S B i) := by rw [hS_M]; omega
      obtain ⟨a1, b1, _⟩ := h.2.2.2.2.1 i hk
      refine ⟨z + 2, h.1.R 0 1 2 (by decide), h.1.K 2 (by omega), by rw [h.1.N 2 (by omega)]; exact vp_in_nI (by show i < 24; omega) (by decide), fun r hr => ?_⟩
      rw [nI_clamp (by omega), a1] at hr
      subst hr
      have eb := bitL hB (show i < 24 by omega)
      refine ifE (fun cb => ⟨b1, fun G1 e1 x hx => ?_⟩) (fun cb x hx => ?_)
      · rw [nI_1] at hx; subst hx
        have es : hS S B (i + 1) = sSet (hS S B i) 12 i 1 := by rw [hS_s, eb.mp cb]; rfl
        refine ih (i + 1) G1 (by omega) (by omega) ?_ ?_
        · rw [es, e1]; exact h.fld hk 13 12 (by omega) (by omega) (by omega) rfl 1
        · rw [e1]; exact hm.cell h hk 13 1
      · rw [nI_1] at hx; subst hx
        have es : hS S B (i + 1) = hS S B i := by rw [hS_s, show B.testBit i = false by cases q : B.testBit i with | false => rfl | true => exact absurd (eb.mpr q) cb]; rfl
        exact ih (i + 1) G (by omega) (by omega) (by rw [es]; exact h) hm
theorem C_heal {z : Nat} {G : Wd} {S T : St} {v : Int32} {Q : Int64 → Wd → Prop} (h : mid z G S T) (hi : Inv S) (hQ : ∀ G', mid z G' (oHeal S v).2 T → Q (oHeal S v).1 G') : wpX10_heal z v G Q := by
  unfold oHeal at hQ
  obtain ⟨⟨la, lb, hc⟩, hm⟩ := h
  unfold wpX10_heal
  refine X10_isPlaceAndDay (fun b => ifN (fun e => n10 e) ⟨hc.K, ?_⟩) (fun b => ifP rfl ?_)
  · rw [if_pos b] at hQ
    refine X10_findCure hc hm hi b (fun G1 c1 m1 => ?_)
    unfold wpX10_heal_18
    refine ifE (fun cn => ?_) (fun cn => ⟨sM S + 1, ?_⟩)
    · rw [if_pos cn] at hQ
      exact hQ G1 ⟨⟨la, lb, c1⟩, m1⟩
    · rw [if_neg cn] at hQ
      rcases cur_or hi v with w | ⟨B, eB, hB1, hB2⟩
      · exact absurd w cn
      · rw [eB, nA_lN (by omega)] at hQ
        rw [eB]
        exact C_heal_loop hi hB2 (fun G' c' m' => hQ G' ⟨⟨la, lb, c'⟩, m'⟩) (sM S + 1) 0 G1 (by omega) (by omega) c1 m1
  · rw [if_neg b] at hQ
    unfold wpX10_heal_18
    exact ifP (by decide) (hQ G ⟨⟨la, lb, hc⟩, hm⟩)
theorem M_heal_loop {z B : Nat} {S T : St} {Q : Int64 → Wd → Prop} (hi : Inv S) (hB : B < 16777216) (hQ : ∀ G', mid z G' T (hS S B (sM S)) → Q (lN (pcI B (sM S))) G') (n : Nat) : ∀ (i : Nat) (G : Wd), i ≤ sM S → i + n = sM S + 1 → mid z G T (hS S B i) → wpX11_heal_40 Q n (z + 54) (lN B) (lN (pcI B i)) (nI i) G := by
  have hM := hi.1.1
  induction n with
  | zero => intro i G le e; omega
  | succ n ih =>
    intro i G le e h
    unfold wpX11_heal_40
    refine ⟨h.K, ?_⟩
    rw [h.M, hS_M]
    refine ifE (fun c => ?_) (fun c => ?_)
    · rw [nI_leI (by omega) (by omega)] at c
      have ei : i = sM S := by omega
      rw [ei] at h ⊢
      exact hQ G h
    · rw [nI_leI (by omega) (by omega)] at c
      have eb := bitL hB (show i < 24 by omega)
      have ep : pcI B (i + 1) = if B.testBit i then pcI B i + 1 else pcI B i := rfl
      refine ifE (fun cb => ?_) (fun cb x hx => ?_)
      · refine h.2.at 12 12 22 24 rfl rfl rfl (by omega) (by omega) (vp_in_nI (by omega) (by decide)) (fun G1 e1 x1 h1 x hx => ?_)
        rw [nI_1] at hx; subst hx
        rw [nI_clamp (by omega)] at e1
        have es : hS S B (i + 1) = sSet (hS S B i) 12 i 1 := by rw [hS_s, eb.mp cb]; rfl
        have nx := ih (i + 1) G1 (by omega) (by omega) (by rw [es, e1]; exact h.setM 12 i 1 (by omega) (by omega))
        rw [ep, eb.mp cb] at nx
        have nx' : wpX11_heal_40 Q n (z + 54) (lN B) (lN (pcI B i + 1)) (nI (i + 1)) G1 := nx
        rw [h1, show (1 : Int64) = lN 1 from rfl, lN_addI]
        exact nx'
      · rw [nI_1] at hx; subst hx
        have ef : B.testBit i = false := by cases q : B.testBit i with | false => rfl | true => exact absurd (eb.mpr q) cb
        have es : hS S B (i + 1) = hS S B i := by rw [hS_s, ef]; rfl
        have nx := ih (i + 1) G (by omega) (by omega) (by rw [es]; exact h)
        rw [ep, ef] at nx
        exact nx
theorem M_heal {z : Nat} {G : Wd} {S T : St} {v : Int32} {Q : Int64 → Wd → Prop} (h : mid z G T S) (hi : Inv S) (hQ : ∀ G', mid z G' T (oHeal S v).2 → Q (oHeal S v).1 G') : wpX11_heal (z + 54) v G Q := by
  have hM := hi.1.1
  unfold oHeal at hQ
  unfold wpX11_heal
  refine X11_isTime (fun b => ifN (fun e => n10 e) ⟨h.K, ?_⟩) (fun b => ifP rfl ?_)
  · rw [if_pos b] at hQ
    refine X11_cureOf h hi (pd_rng b).1 (fun G1 f1 => ?_)
    have m1 := h.fx f1 (by decide) (by decide) (by decide)
    show if cur S v < 0 then Q (cur S v) G1 else ∃ m, wpX11_heal_40 Q m (z + 54) (cur S v) 0 0 G1
    refine ifE (fun cn => ?_) (fun cn => ⟨sM S + 1, ?_⟩)
    · rw [if_pos cn] at hQ
      exact hQ G1 m1
    · rw [if_neg cn] at hQ
      rcases cur_or hi v with w | ⟨B, eB, hB1, hB2⟩
      · exact absurd w cn
      · rw [eB, nA_lN (by omega)] at hQ
        rw [eB]
        have ec := pcI_cut hB1 (24 - sM S)
        rw [show sM S + (24 - sM S) = 24 by omega] at ec
        rw [ec] at hQ
        exact M_heal_loop hi hB2 (fun G' m' => hQ G' m') (sM S + 1) 0 G1 (by omega) (by omega) m1
  · rw [if_neg b] at hQ
    exact hQ G h
theorem oHeal_inv (S : St) (v : Int32) (hi : Inv S) : Inv (oHeal S v).2 := by
  unfold oHeal
  split
  · split
    · exact hi
    · exact hS_inv hi _ _
  · exact hi
theorem ok_heal : ok1 wpX10_heal wpX11_heal := ⟨oHeal, fun _ _ _ _ _ _ h hi hQ => C_heal h hi hQ, fun _ _ _ _ _ _ h hi hQ => M_heal h hi hQ, fun S v hi => oHeal_inv S v hi⟩
