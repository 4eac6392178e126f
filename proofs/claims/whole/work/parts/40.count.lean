/-! ===== count ===== -/
def drp (S : St) : Nat → Nat
  | 0 => 0
  | k + 1 => drp S k + (if sA S 12 k = 0 then 0 else 1)
theorem drp_le (S : St) (k : Nat) : drp S k ≤ k := by
  induction k with
  | zero => exact Nat.le_refl _
  | succ k ih => unfold drp; split <;> omega
def cus (S : St) : Nat → Nat
  | 0 => 0
  | k + 1 => cus S k + (if sA S 13 k < 0 then 0 else 1)
theorem cus_le (S : St) (k : Nat) : cus S k ≤ k := by
  induction k with
  | zero => exact Nat.le_refl _
  | succ k ih => unfold cus; split <;> omega
def nmd (S : St) : Nat → Int32
  | 0 => 0
  | k + 1 => nmd S k ||| ((1 <<< (sA S 3 k &&& 31)) ||| (1 <<< (sA S 4 k &&& 31)))
theorem sh10 : ∀ j, j < 10 → (1 : Int32) <<< (nI j &&& 31) = nI (2 ^ j) := by decide +kernel
theorem nI_or (a b : Nat) : nI a ||| nI b = nI (a ||| b) := by
  apply Int32.toBitVec_inj.mp
  show BitVec.ofNat 32 a ||| BitVec.ofNat 32 b = BitVec.ofNat 32 (a ||| b)
  exact BitVec.ofNat_or.symm
theorem nmd_lt {S : St} (hi : Inv S) (k : Nat) (hk : k ≤ sM S) : ∃ n, n < 1024 ∧ nmd S k = nI n := by
  induction k with
  | zero => exact ⟨0, by omega, rfl⟩
  | succ k ih =>
    obtain ⟨n, h1, h2⟩ := ih (by omega)
    have hr := hi.2.2.1 k (by omega)
    have a0 := hr.2.1
    have b0 := hr.2.2.1
    have ea := nI_nv a0.1
    have eb := nI_nv b0.1
    have na := nv_i a0.1
    have nb := nv_i b0.1
    have la := a0.2
    have lb := b0.2
    refine ⟨n ||| (2 ^ nv (sA S 3 k) ||| 2 ^ nv (sA S 4 k)), ?_, ?_⟩
    · have p1 : 2 ^ nv (sA S 3 k) < 2 ^ 10 := Nat.pow_lt_pow_right (by omega) (by omega)
      have p2 : 2 ^ nv (sA S 4 k) < 2 ^ 10 := Nat.pow_lt_pow_right (by omega) (by omega)
      exact Nat.or_lt_two_pow (n := 10) h1 (Nat.or_lt_two_pow p1 p2)
    · show nmd S k ||| ((1 <<< (sA S 3 k &&& 31)) ||| (1 <<< (sA S 4 k &&& 31))) = _
      have q1 : (1 : Int32) <<< (sA S 3 k &&& 31) = nI (2 ^ nv (sA S 3 k)) := by
        have := sh10 (nv (sA S 3 k)) (by omega)
        rw [← ea] at this
        exact this
      have q2 : (1 : Int32) <<< (sA S 4 k &&& 31) = nI (2 ^ nv (sA S 4 k)) := by
        have := sh10 (nv (sA S 4 k)) (by omega)
        rw [← eb] at this
        exact this
      rw [h2, q1, q2, nI_or, nI_or]
def bc1 (x : Int32) : Int32 := (x - ((((x).toUInt32 >>> (((1 : Int32)).toUInt32 &&& Int32.toUInt32 31)).toInt32) &&& 1431655765))
def bc2 (x : Int32) : Int32 := ((x &&& 858993459) + ((((x).toUInt32 >>> (((2 : Int32)).toUInt32 &&& Int32.toUInt32 31)).toInt32) &&& 858993459))
def bc3 (x : Int32) : Int32 := ((x + (((x).toUInt32 >>> (((4 : Int32)).toUInt32 &&& Int32.toUInt32 31)).toInt32)) &&& 252645135)
def bc4 (x : Int32) : Int32 := (x + (((x).toUInt32 >>> (((8 : Int32)).toUInt32 &&& Int32.toUInt32 31)).toInt32))
def bc5 (x : Int32) : Int32 := (x + (((x).toUInt32 >>> (((16 : Int32)).toUInt32 &&& Int32.toUInt32 31)).toInt32))
/-- Integer.bitCount, as the JDK reckons it -/
def bc (x : Int32) : Int32 := bc5 (bc4 (bc3 (bc2 (bc1 x)))) &&& 63
theorem J6_bc {x : Int32} {G : Wd} {Q : Int32 → Wd → Prop} (h : Q (bc x) G) : wpJ6_bitCount_0f7a4 x G Q := by
  unfold wpJ6_bitCount_0f7a4
  intro x1 e1 x2 e2 x3 e3 x4 e4 x5 e5
  subst e1 e2 e3 e4 e5
  exact h
def mbs (v : Int32) : Nat → Int64
  | 0 => 0
  | i + 1 => mbs v i + (((v >>> (nI i &&& 31)) &&& 1)).toInt64
theorem bc_mbs : ∀ n, n < 1024 → (bc (nI n)).toInt64 = mbs (nI n) 10 := by decide +kernel
def oCount (S : St) (w : Int32) : Int64 := if w = 0 then lN (sM S) else (if w = 1 then lN (drp S (sM S)) else (if w = 2 then lN (cus S 4) else (if w = 3 then lN (sL S) else (if w = 4 then mbs (nmd S (sM S)) 10 else -9000000000000000001))))
theorem C_drp {z : Nat} {G : Wd} {S : St} {la lb : Nat → Nat} {Q : Int32 → Wd → Prop} (h : CR z G S la lb) (hi : Inv S) (hQ : Q (nI (drp S (sM S))) G) (n : Nat) : ∀ i : Nat, i ≤ sM S → i + n = sM S + 1 → wpX10_droppedOnes_4 Q n z (nI (drp S i)) (nI i) G := by
  have hM := hi.1.1
  induction n with
  | zero => intro i le e; omega
  | succ n ih =>
    intro i le e
    unfold wpX10_droppedOnes_4 wpX10_droppedOnes_33
    refine ⟨h.K, ?_⟩
    rw [h.2.2.2.1.1]
    refine ifE (fun a => ?_) (fun a => ?_)
    · rw [nI_leI (by omega) (by omega)] at a
      have : i = sM S := by omega
      rw [this]; exact hQ
    · rw [nI_leI (by omega) (by omega)] at a
      obtain ⟨a1, b1, _, _, b4, _⟩ := h.2.2.2.2.1 i (by omega)
      refine ⟨z + 2, h.1.R 0 1 2 (by decide), h.1.K 2 (by omega), by rw [h.1.N 2 (by omega)]; exact vp_in_nI (by show i < 24; omega) (by decide), fun r hr => ?_⟩
      rw [nI_clamp (by omega), a1] at hr
      subst hr
      refine ⟨b1, ?_⟩
      rw [b4 13 (by omega) (by omega)]
      have ihi := ih (i + 1) (by omega) (by omega)
      unfold drp at ihi
      refine ifE (fun c x hx => ?_) (fun c y hy x hx => ?_)
      · rw [nI_1] at hx; subst hx
        rw [if_pos (show sA S 12 i = 0 from c), Nat.add_zero] at ihi
        exact ihi
      · rw [nI_1] at hx hy; subst hx; subst hy
        rw [if_neg (show ¬ sA S 12 i = 0 from c)] at ihi
        exact ihi
theorem M_drp {z : Nat} {G : Wd} {T S : St} {Q : Int64 → Wd → Prop} (h : mid z G T S) (hi : Inv S) (hQ : Q (lN (drp S (sM S))) G) (n : Nat) : ∀ i : Nat, i ≤ sM S → i + n = sM S + 1 → wpX11_count_45 Q n (z + 54) (lN (drp S i)) (nI i) G := by
  have hM := hi.1.1
  induction n with
  | zero => intro i le e; omega
  | succ n ih =>
    intro i le e
    unfold wpX11_count_45 wpX11_count_70
    refine ⟨h.K, ?_⟩
    rw [h.M]
    refine ifE (fun a => ?_) (fun a => ?_)
    · rw [nI_leI (by omega) (by omega)] at a
      have : i = sM S := by omega
      rw [this]; exact hQ
    · rw [nI_leI (by omega) (by omega)] at a
      refine h.2.at 12 12 22 24 rfl rfl rfl (by omega) (by omega) (vp_in_nI (by omega) (by decide)) ?_
      rw [nI_clamp (by omega), h.I 12 i (by omega) (by omega) (by show i < 24; omega)]
      have ihi := ih (i + 1) (by omega) (by omega)
      unfold drp at ihi
      refine ifE (fun c y hy x hx => ?_) (fun c y hy x hx => ?_)
      · rw [nI_1] at hx; rw [show (0 : Int64) = lN 0 from rfl, lN_addI] at hy; subst hx; subst hy
        rw [if_pos c] at ihi
        exact ihi
      · rw [nI_1] at hx; rw [show (1 : Int64) = lN 1 from rfl, lN_addI] at hy; subst hx; subst hy
        rw [if_neg c] at ihi
        exact ihi
theorem C_cus {z : Nat} {G : Wd} {S : St} {la lb : Nat → Nat} {Q : Int32 → Wd → Prop} (h : CR z G S la lb) (hQ : Q (nI (cus S 4)) G) (n : Nat) : ∀ i : Nat, i ≤ 4 → i + n = 5 → wpX10_customsThere_4 Q n z (nI (cus S i)) (nI i) G := by
  induction n with
  | zero => intro i le e; omega
  | succ n ih =>
    intro i le e
    unfold wpX10_customsThere_4 wpX10_customsThere_30
    refine ifE (fun a => ?_) (fun a => ?_)
    · rw [i_le, il4, nI_toInt (by omega)] at a
      have : i = 4 := by omega
      rw [this]; exact hQ
    · rw [i_le, il4, nI_toInt (by omega)] at a
      obtain ⟨p1, p2, p3, p4, p5⟩ := h.1.C (c := i) (by omega)
      have h8 := h.2.2.2.2.2.2.2 i (by omega)
      rw [nI_clamp (by omega)]
      refine ⟨h.K, z + 3, h.1.R 0 3 3 (by decide), h.1.K 3 (by omega), by rw [h.1.N 3 (by omega)]; exact vp_in_nI (by show i < 4; omega) (by decide), _, p1, p3, ?_⟩
      rw [h8.1]
      have ihi := ih (i + 1) (by omega) (by omega)
      unfold cus at ihi
      by_cases c : sA S 13 i < 0
      · rw [if_pos c] at ihi ⊢
        refine ifN (fun e => n10 e) (fun x hx => ?_)
        rw [nI_1] at hx; subst hx
        exact ihi
      · rw [if_neg c] at ihi ⊢
        refine ifP rfl (fun y hy x hx => ?_)
        rw [nI_1] at hx hy; subst hx; subst hy
        exact ihi
theorem M_cus {z : Nat} {G : Wd} {T S : St} {Q : Int64 → Wd → Prop} (h : mid z G T S) (hQ : Q (lN (cus S 4)) G) (n : Nat) : ∀ i : Nat, i ≤ 4 → i + n = 5 → wpX11_count_83 Q n (z + 54) (lN (cus S i)) (nI i) G := by
  induction n with
  | zero => intro i le e; omega
  | succ n ih =>
    intro i le e
    unfold wpX11_count_83 wpX11_count_105
    refine ifE (fun a => ?_) (fun a => ⟨h.K, ?_⟩)
    · rw [i_le, il4, nI_toInt (by omega)] at a
      have : i = 4 := by omega
      rw [this]; exact hQ
    · rw [i_le, il4, nI_toInt (by omega)] at a
      refine h.2.at 13 13 20 4 rfl rfl rfl (by omega) (by omega) (vp_in_nI (by omega) (by decide)) ?_
      rw [nI_clamp (by omega), h.I 13 i (by omega) (by omega) (by show i < 4; omega)]
      have ihi := ih (i + 1) (by omega) (by omega)
      unfold cus at ihi
      refine ifE (fun c y hy x hx => ?_) (fun c y hy x hx => ?_)
      · rw [nI_1] at hx; rw [show (0 : Int64) = lN 0 from rfl, lN_addI] at hy; subst hx; subst hy
        rw [if_pos c] at ihi
        exact ihi
      · rw [nI_1] at hx; rw [show (1 : Int64) = lN 1 from rfl, lN_addI] at hy; subst hx; subst hy
        rw [if_neg c] at ihi
        exact ihi
theorem C_nmd {z : Nat} {G : Wd} {S : St} {la lb : Nat → Nat} {Q : Int32 → Wd → Prop} (h : CR z G S la lb) (hi : Inv S) (hQ : Q (bc (nmd S (sM S))) G) (n : Nat) : ∀ i : Nat, i ≤ sM S → i + n = sM S + 1 → wpX10_measuresNamed_4 Q n z (nmd S i) (nI i) G := by
  have hM := hi.1.1
  induction n with
  | zero => intro i le e; omega
  | succ n ih =>
    intro i le e
    unfold wpX10_measuresNamed_4 wpX10_measuresNamed_39
    refine ⟨h.K, ?_⟩
    rw [h.2.2.2.1.1]
    refine ifE (fun a => ?_) (fun a => ?_)
    · rw [nI_leI (by omega) (by omega)] at a
      have : i = sM S := by omega
      rw [this]; exact J6_bc hQ
    · rw [nI_leI (by omega) (by omega)] at a
      obtain ⟨a1, b1, _, b3, _⟩ := h.2.2.2.2.1 i (by omega)
      refine ⟨z + 2, h.1.R 0 1 2 (by decide), h.1.K 2 (by omega), by rw [h.1.N 2 (by omega)]; exact vp_in_nI (by show i < 24; omega) (by decide), fun r hr => ?_⟩
      rw [nI_clamp (by omega), a1] at hr
      subst hr
      refine ⟨b1, fun y hy x hx => ?_⟩
      rw [b3 2 (by omega) (by omega), b3 3 (by omega) (by omega)] at hy
      rw [nI_1] at hx
      subst hx; subst hy
      exact ih (i + 1) (by omega) (by omega)
theorem M_mbs {G : Wd} {v : Int32} {Q : Int64 → Wd → Prop} (hQ : Q (mbs v 10) G) (n : Nat) : ∀ i : Nat, i ≤ 10 → i + n = 11 → wpX11_count_169 Q n (mbs v i) v (nI i) G := by
  induction n with
  | zero => intro i le e; omega
  | succ n ih =>
    intro i le e
    unfold wpX11_count_169
    refine ifE (fun a => ?_) (fun a y hy x hx => ?_)
    · rw [i_le, il10, nI_toInt (by omega)] at a
      have : i = 10 := by omega
      rw [this]; exact hQ
    · rw [i_le, il10, nI_toInt (by omega)] at a
      rw [nI_1] at hx
      subst hx; subst hy
      exact ih (i + 1) (by omega) (by omega)
theorem M_nmd {z : Nat} {G : Wd} {T S : St} {Q : Int64 → Wd → Prop} (h : mid z G T S) (hi : Inv S) (hQ : Q (mbs (nmd S (sM S)) 10) G) (n : Nat) : ∀ i : Nat, i ≤ sM S → i + n = sM S + 1 → wpX11_count_127 Q n (z + 54) 0 (nmd S i) (nI i) G := by
  have hM := hi.1.1
  induction n with
  | zero => intro i le e; omega
  | succ n ih =>
    intro i le e
    unfold wpX11_count_127
    refine ⟨h.K, ?_⟩
    rw [h.M]
    refine ifE (fun a => ?_) (fun a => ?_)
    · rw [nI_leI (by omega) (by omega)] at a
      have : i = sM S := by omega
      rw [this]; exact ⟨11, M_mbs hQ 11 0 (by omega) (by omega)⟩
    · rw [nI_leI (by omega) (by omega)] at a
      have hv : vp_in (nI i) 24 := vp_in_nI (by omega) (by decide)
      refine h.2.at 3 3 20 24 rfl rfl rfl (by omega) (by omega) hv (h.2.at 4 4 20 24 rfl rfl rfl (by omega) (by omega) hv (fun y hy x hx => ?_))
      rw [nI_clamp (by omega), h.I 3 i (by omega) (by omega) (by show i < 24; omega), h.I 4 i (by omega) (by omega) (by show i < 24; omega)] at hy
      rw [nI_1] at hx
      subst hx; subst hy
      exact ih (i + 1) (by omega) (by omega)
theorem C_count {z : Nat} {G : Wd} {S T : St} {w : Int32} {Q : Int64 → Wd → Prop} (h : mid z G S T) (hi : Inv S) (hQ : Q (oCount S w) G) : wpX10_count z w G Q := by
  unfold oCount at hQ
  obtain ⟨⟨la, lb, hc⟩, hm⟩ := h
  have hM := hi.1.1
  have hL := hi.1.2
  have d1 := drp_le S (sM S)
  have d2 := cus_le S 4
  unfold wpX10_count wpX10_droppedOnes wpX10_customsThere wpX10_measuresNamed
  refine ifE (fun a => ⟨hc.K, ?_⟩) (fun a => ?_)
  · rw [if_pos a] at hQ; rw [hc.2.2.2.1.1, nI_l (by omega)]; exact hQ
  rw [if_neg a] at hQ
  refine ifE (fun b => ⟨hc.K, sM S + 1, C_drp hc hi ?_ (sM S + 1) 0 (by omega) (by omega)⟩) (fun b => ?_)
  · rw [if_pos b] at hQ; rw [nI_l (by omega)]; exact hQ
  rw [if_neg b] at hQ
  refine ifE (fun c => ⟨hc.K, 5, C_cus hc ?_ 5 0 (by omega) (by omega)⟩) (fun c => ?_)
  · rw [if_pos c] at hQ; rw [nI_l (by omega)]; exact hQ
  rw [if_neg c] at hQ
  refine ifE (fun d => ⟨hc.K, ?_⟩) (fun d => ?_)
  · rw [if_pos d] at hQ; rw [hc.2.2.2.1.2, nI_l (by omega)]; exact hQ
  rw [if_neg d] at hQ
  refine ifE (fun e => ⟨hc.K, sM S + 1, C_nmd hc hi ?_ (sM S + 1) 0 (by omega) (by omega)⟩) (fun e => ?_)
  · rw [if_pos e] at hQ
    obtain ⟨n, hn, en⟩ := nmd_lt hi (sM S) (Nat.le_refl _)
    rw [en, ← bc_mbs n hn] at hQ
    rw [en]; exact hQ
  · rw [if_neg e] at hQ; exact hQ
theorem M_count {z : Nat} {G : Wd} {S T : St} {w : Int32} {Q : Int64 → Wd → Prop} (h : mid z G T S) (hi : Inv S) (hQ : Q (oCount S w) G) : wpX11_count (z + 54) w G Q := by
  unfold oCount at hQ
  have hM := hi.1.1
  have hL := hi.1.2
  unfold wpX11_count
  refine ifE (fun a => ⟨h.K, ?_⟩) (fun a => ?_)
  · rw [if_pos a] at hQ; rw [h.M, nI_l (by omega)]; exact hQ
  rw [if_neg a] at hQ
  refine ifE (fun b => ⟨sM S + 1, M_drp h hi ?_ (sM S + 1) 0 (by omega) (by omega)⟩) (fun b => ?_)
  · rw [if_pos b] at hQ; exact hQ
  rw [if_neg b] at hQ
  refine ifE (fun c => ⟨5, M_cus h ?_ 5 0 (by omega) (by omega)⟩) (fun c => ?_)
  · rw [if_pos c] at hQ; exact hQ
  rw [if_neg c] at hQ
  refine ifE (fun d => ⟨h.K, ?_⟩) (fun d => ?_)
  · rw [if_pos d] at hQ; rw [h.L, nI_l (by omega)]; exact hQ
  rw [if_neg d] at hQ
  refine ifE (fun e => ⟨sM S + 1, M_nmd h hi ?_ (sM S + 1) 0 (by omega) (by omega)⟩) (fun e => ?_)
  · rw [if_pos e] at hQ; exact hQ
  · rw [if_neg e] at hQ; exact hQ
