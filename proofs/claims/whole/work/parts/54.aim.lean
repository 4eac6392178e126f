/-! ===== the class's search: aim (distances), extend ===== -/
def dst (z : Nat) (G : Wd) (d : Nat → Nat) : Prop := ∀ n, n < 10 → gI G (z + 10) n = nI (d n)
def flg (v : Int32) : Prop := v = 0 ∨ v = 1
theorem flg_or {a b : Int32} (ha : flg a) (hb : flg b) : flg (a ||| b) ∧ (a ||| b = 0 → a = 0 ∧ b = 0) := by
  rcases ha with e | e <;> rcases hb with g | g <;> subst e <;> subst g
  · exact ⟨Or.inl (by decide), fun _ => ⟨rfl, rfl⟩⟩
  · exact ⟨Or.inr (by decide), fun q => absurd q (by decide)⟩
  · exact ⟨Or.inr (by decide), fun q => absurd q (by decide)⟩
  · exact ⟨Or.inr (by decide), fun q => absurd q (by decide)⟩
theorem CR.dst {z : Nat} {G G' : Wd} {S : St} {la lb : Nat → Nat} (h : CR z G S la lb) (f : chg (fun b => b = z + 5 ∨ b = z + 7 ∨ b = z + 10 ∨ (z + 13 ≤ b ∧ b ≤ z + 45)) (fun _ => False) G G') : CR z G' S la lb := by
  have hap := h.A
  refine h.keep f (fun o ho q => by omega) (fun _ _ q => q) (fun q => q) (fun q => q) (fun k hk i hi => ?_) (fun j hj => ?_)
  · have := (hap.1 k hk).1; exact ⟨by omega, fun q => q⟩
  · have := (hap.2.1 j hj).1; exact ⟨by omega, fun q => q⟩
theorem X9_draw {z x y : Nat} {G : Wd} {S : St} {la lb : Nat → Nat} {d : Nat → Nat} {Q : Int32 → Wd → Prop} (h : CR z G S la lb) (hd : dst z G d) (h100 : ∀ n, d n ≤ 100) (hx : x < 10) (hy : y < 10) (hQ : ∀ (r : Int32) (G' : Wd), chg (fun b => b = z + 10) (fun _ => False) G G' → dst z G' (dw d x y) → flg r → (r = 0 → dw d x y = d) → Q r G') : wpX9_draw (z + 5) (nI x) (nI y) G Q := by
  have R7 : gR G (z + 5) 7 = some (z + 10) := h.1.R 5 7 10 (by decide)
  have K10 : gK G (z + 10) = 20 := h.1.K 10 (by omega)
  have N10 : gN G (z + 10) = 10 := h.1.N 10 (by omega)
  have vx : vp_in (nI x) (gN G (z + 10)) := by rw [N10]; exact vp_in_nI hx (by decide)
  have vy : vp_in (nI y) (gN G (z + 10)) := by rw [N10]; exact vp_in_nI hy (by decide)
  have lx := h100 x
  have ly := h100 y
  unfold wpX9_draw
  refine ⟨h.1.K 5 (by omega), z + 10, R7, K10, vy, z + 10, R7, K10, vx, ?_⟩
  rw [nI_clamp (show x < 2 ^ 31 by omega), nI_clamp (show y < 2 ^ 31 by omega), hd x hx, hd y hy, nI_1]
  refine ifE (fun c => ⟨z + 10, R7, z + 10, R7, K10, vy, K10, vx, fun G1 e1 => ?_⟩) (fun c => ?_)
  · rw [i_lt, nI_toInt (by omega), nI_toInt (by omega)] at c
    have e : dw d x y = fun n => if n = x then d y + 1 else d n := by unfold dw; exact if_pos (by omega)
    refine hQ 1 G1 (by rw [e1]; exact chg.rf.wI _ _ _ rfl) (fun n hn => ?_) (Or.inr rfl) (fun q => n10 q)
    rw [e1, gI_uI, e]
    dsimp only
    by_cases q : n = x
    · rw [if_pos ⟨rfl, q⟩, if_pos q, hd y hy, nI_1]
    · rw [if_neg (fun w => q w.2), if_neg q]; exact hd n hn
  · rw [i_lt, nI_toInt (by omega), nI_toInt (by omega)] at c
    have e : dw d x y = d := by unfold dw; exact if_neg (by omega)
    exact hQ 0 G chg.rf (by rw [e]; exact hd) (Or.inl rfl) (fun _ => e)
theorem dw_100 {d : Nat → Nat} (h : ∀ n, d n ≤ 100) (x y : Nat) : ∀ n, dw d x y n ≤ 100 := fun n => Nat.le_trans (dw_le d x y n) (h n)
theorem C_pass {z : Nat} {G0 : Wd} {S : St} {la lb : Nat → Nat} {l : List Nat} {d0 : Nat → Nat} {v2 : Int32} {Q : Wd → Prop} {k : Nat → Int32 → Int32 → Wd → Prop} (h0 : CR z G0 S la lb) (hi : Inv S) (ho : opnd z G0 la l) (hl : ∀ x ∈ l, x < sM S) (h24 : l.length ≤ 24)
    (n : Nat) : ∀ (i : Nat) (v1 : Int32) (d : Nat → Nat) (G : Wd), i ≤ l.length → i + n = l.length + 1 → chg (fun b => b = z + 10) (fun _ => False) G0 G → dst z G d → (∀ n, d n ≤ 100) → flg v1 → (v1 = 0 → d = d0) → (∀ (v : Int32) (G' : Wd), chg (fun b => b = z + 10) (fun _ => False) G0 G' → dst z G' (pass S d (l.drop i)) → flg v → (v = 0 → pass S d (l.drop i) = d0) → k (z + 5) v (v2 + 1) G') → wpX9_measureDistances_40 Q k n (z + 5) v1 v2 (nI i) G := by
  induction n with
  | zero => intro i v1 d G le e; omega
  | succ n ih =>
    intro i v1 d G le e f hd h100 hv hz hQ
    have h := h0.dst (f.mono (fun b q => by omega) (fun _ q => q))
    have o1 : gI G (z + 5) 1 = nI l.length := by rw [f.I (by omega)]; exact ho.1
    unfold wpX9_measureDistances_40
    refine ⟨h.1.K 5 (by omega), ?_⟩
    rw [o1]
    refine ifE (fun a x hx => ?_) (fun a => ?_)
    · rw [nI_leI (by omega) (by omega)] at a
      subst hx
      rw [List.drop_eq_nil_of_le a] at hQ
      exact hQ v1 G f hd hv hz
    · rw [nI_leI (by omega) (by omega)] at a
      have hlt : i < l.length := by omega
      have hk : l.getD i 0 < sM S := hl _ (getD_mem hlt)
      have ed : l.drop i = l.getD i 0 :: l.drop (i + 1) := by
        rw [List.drop_eq_getElem_cons hlt]
        simp [List.getD, List.getElem?_eq_getElem hlt]
      obtain ⟨q3, q4, w3, w4⟩ := fr_rng hi hk
      have G6 : ∀ G', chg (fun b => b = z + 10) (fun _ => False) G0 G' → gR G' (z + 5) 0 = some (z + 6) ∧ gK G' (z + 6) = 25 ∧ vp_in (nI i) (gN G' (z + 6)) ∧ gR G' (z + 6) (nI i).toNatClampNeg = some (la (l.getD i 0)) ∧ gK G' (la (l.getD i 0)) = 5 ∧ gI G' (la (l.getD i 0)) 2 = nI (fr S (l.getD i 0)) ∧ gI G' (la (l.getD i 0)) 3 = nI (tt S (l.getD i 0)) ∧ gK G' (z + 5) = 9 := by
        intro G' f'
        have h' := h0.dst (f'.mono (fun b q => by omega) (fun _ q => q))
        obtain ⟨b1, b2, b3, _⟩ := (h'.2.2.2.2.1 _ hk).2
        exact ⟨h'.1.R 5 0 6 (by decide), h'.1.K 6 (by omega), by rw [h'.1.N 6 (by omega)]; exact vp_in_nI (by show i < 24; omega) (by decide), by rw [nI_clamp (by omega), f'.Rf (fun q => q)]; exact ho.2 i hlt, b1, by rw [b3 2 (by omega) (by omega)]; exact w3, by rw [b3 3 (by omega) (by omega)]; exact w4, h'.1.K 5 (by omega)⟩
      obtain ⟨s1, s2, s3, s4, s5, s6, s7, s8⟩ := G6 G f
      refine ⟨z + 6, s1, s2, s3, la (l.getD i 0), s4, s5, ?_⟩
      rw [s6, s7]
      refine X9_draw h hd h100 q3 q4 (fun r1 G1 f1 d1 hr1 hr1' x1 hx1 => ?_)
      have f1' := f.tr f1
      have h1 := h0.dst (f1'.mono (fun b q => by omega) (fun _ q => q))
      obtain ⟨s1, s2, s3, s4, s5, s6, s7, s8⟩ := G6 G1 f1'
      refine ⟨s5, s8, ?_⟩
      rw [s6, s7]
      refine X9_draw h1 d1 (dw_100 h100 _ _) q4 q3 (fun r2 G2 f2 d2 hr2 hr2' x2 hx2 => ?_)
      unfold wpX9_measureDistances_95
      intro x3 hx3
      rw [nI_1] at hx3; subst hx3
      have o1 := flg_or hv hr1
      rw [← hx1] at o1
      have o2 := flg_or o1.1 hr2
      rw [← hx2] at o2
      refine ih (i + 1) x2 _ G2 (by omega) (by omega) (f1'.tr f2) d2 (dw_100 (dw_100 h100 _ _) _ _) o2.1 (fun q => ?_) (fun v G' f' d' hv' hz' => ?_)
      · obtain ⟨a1, a2⟩ := o2.2 q
        obtain ⟨a3, a4⟩ := o1.2 a1
        rw [hr2' a2, hr1' a4]
        exact hz a3
      · rw [ed] at hQ
        exact hQ v G' f' d' hv' hz'
theorem C_meas {z b fo : Nat} {G0 : Wd} {S : St} {la lb : Nat → Nat} {l : List Nat} {Q : Wd → Prop} (h0 : CR z G0 S la lb) (hi : Inv S) (ho : opnd z G0 la l) (hl : ∀ x ∈ l, x < sM S) (h24 : l.length ≤ 24) (hf : fo ≤ l.length) (e9 : gI G0 (z + 5) 9 = nI fo)
    (hQ : ∀ (d : Nat → Nat) (G' : Wd), chg (fun b => b = z + 10) (fun _ => False) G0 G' → dst z G' d → (∀ n, d n ≤ 100) → near S b (l.drop fo) 10 d → Q G') (n : Nat) : ∀ (t : Nat) (v1 : Int32) (d : Nat → Nat) (G : Wd), t ≤ 10 → t + n = 11 → chg (fun b => b = z + 10) (fun _ => False) G0 G → dst z G d → (∀ n, d n ≤ 100) → d b = 0 → near S b (l.drop fo) t d → (v1 = 0 → pass S d (l.drop fo) = d) → wpX9_measureDistances_23 Q n (z + 5) v1 (nI t) G := by
  induction n with
  | zero => intro t v1 d G le e; omega
  | succ n ih =>
    intro t v1 d G le e f hd h100 hb hn hz
    have h := h0.dst (f.mono (fun b q => by omega) (fun _ q => q))
    unfold wpX9_measureDistances_23
    refine ifE (fun a => ?_) (fun a => ifE (fun c => hQ d G f hd h100 (near_fix (hz c) hb 10)) (fun c => ⟨h.1.K 5 (by omega), fun x hx => ⟨l.length + 1 - fo, ?_⟩⟩))
    · rw [i_le, nI_toInt (by omega), il10] at a
      have : t = 10 := by omega
      subst this
      exact hQ d G f hd h100 hn
    · rw [i_le, nI_toInt (by omega), il10] at a
      rw [f.I (by omega), e9] at hx
      subst hx
      have ho' : opnd z G la l := ⟨by rw [f.I (by omega)]; exact ho.1, fun i hi' => by rw [f.Rf (fun q => q)]; exact ho.2 i hi'⟩
      exact C_pass (Q := Q) (k := fun y0 y1 y2 y3 => wpX9_measureDistances_23 Q n y0 y1 y2 y3) (v2 := nI t) (d0 := d) h hi ho' hl h24 (l.length + 1 - fo) fo 0 d G hf (by omega) chg.rf hd h100 (Or.inl rfl) (fun _ => rfl) (fun v G' f' d' hv' hz' => by
          have e0 := pass_le S (l.drop fo) d b
          have := ih (t + 1) v (pass S d (l.drop fo)) G' (by omega) (by omega) (f.tr f') d' (fun n => Nat.le_trans (pass_le S (l.drop fo) d n) (h100 n)) (by omega) (near_s hn hb) (fun q => by rw [hz' q]; exact hz' q)
          rw [← nI_1] at this
          exact this)
theorem X9_aim {z b fo : Nat} {G : Wd} {S : St} {la lb : Nat → Nat} {l : List Nat} {Q : Wd → Prop} (h : CR z G S la lb) (hi : Inv S) (ho : opnd z G la l) (hl : ∀ x ∈ l, x < sM S) (h24 : l.length ≤ 24) (hf : fo ≤ l.length) (hb : b < 10)
    (hQ : ∀ (d : Nat → Nat) (G' : Wd), chg (fun b => b = z + 5 ∨ b = z + 10) (fun _ => False) G G' → (∀ j, j ≠ 8 → j ≠ 9 → j ≠ 4 → gI G' (z + 5) j = gI G (z + 5) j) → gI G' (z + 5) 8 = nI b → gI G' (z + 5) 9 = nI fo → gI G' (z + 5) 4 = 0 → dst z G' d → (∀ n, d n ≤ 100) → near S b (l.drop fo) 10 d → Q G') : wpX9_aim (z + 5) (nI b) (nI fo) G Q := by
  unfold wpX9_aim
  refine ⟨h.1.K 5 (by omega), fun G1 e1 G2 e2 G3 e3 => ?_⟩
  have f3 : chg (fun b => b = z + 5 ∨ b = z + 10) (fun _ => False) G G3 := by
    rw [e3, e2, e1]
    exact ((chg.rf.wI _ _ _ (Or.inl rfl)).wI _ _ _ (Or.inl rfl)).wI _ _ _ (Or.inl rfl)
  have h3 := h.dst (f3.mono (fun b q => by omega) (fun _ q => q))
  have i8 : gI G3 (z + 5) 8 = nI b := by rw [e3, gI_uI, if_neg (by omega), e2, gI_uI, if_neg (by omega), e1, gI_uI, if_pos ⟨rfl, rfl⟩]
  have i9 : gI G3 (z + 5) 9 = nI fo := by rw [e3, gI_uI, if_neg (by omega), e2, gI_uI, if_pos ⟨rfl, rfl⟩]
  have i4 : gI G3 (z + 5) 4 = 0 := by rw [e3, gI_uI, if_pos ⟨rfl, rfl⟩]
  have ij : ∀ j, j ≠ 8 → j ≠ 9 → j ≠ 4 → gI G3 (z + 5) j = gI G (z + 5) j := fun j q8 q9 q4 => by rw [e3, gI_uI, if_neg (by omega), e2, gI_uI, if_neg (by omega), e1, gI_uI, if_neg (by omega)]
  have o3 : opnd z G3 la l := ⟨by rw [ij 1 (by omega) (by omega) (by omega)]; exact ho.1, fun i hi' => by rw [f3.Rf (fun q => q)]; exact ho.2 i hi'⟩
  unfold wpX9_measureDistances
  refine ⟨h3.1.K 5 (by omega), z + 10, h3.1.R 5 7 10 (by decide), J7_fill (h3.1.K 10 (by omega)) (h3.1.N 10 (by omega)) (by show 10 < 1000000; omega) (fun G4 f4 e4 => ?_)⟩
  have h4 := h3.dst (f4.mono (fun b q => by omega) (fun _ q => q))
  have i84 : gI G4 (z + 5) 8 = nI b := by rw [f4.I (by omega)]; exact i8
  refine ⟨h4.1.K 5 (by omega), z + 10, h4.1.R 5 7 10 (by decide), h4.1.K 10 (by omega), by rw [i84, h4.1.N 10 (by omega)]; exact vp_in_nI hb (by decide), fun G5 e5 => ⟨11, ?_⟩⟩
  rw [i84, nI_clamp (by omega)] at e5
  have f5 : chg (fun b => b = z + 10) (fun _ => False) G3 G5 := by rw [e5]; exact f4.wI _ _ _ rfl
  have h5 := h3.dst (f5.mono (fun b q => by omega) (fun _ q => q))
  have o5 : opnd z G5 la l := ⟨by rw [f5.I (by omega)]; exact o3.1, fun i hi' => by rw [f5.Rf (fun q => q)]; exact o3.2 i hi'⟩
  have d5 : dst z G5 (fun n => if n = b then 0 else 100) := fun n hn => by
    rw [e5, gI_uI]
    dsimp only
    by_cases q : n = b
    · rw [if_pos ⟨rfl, q⟩, if_pos q]; rfl
    · rw [if_neg (fun w => q w.2), if_neg q]; exact e4 n hn
  refine C_meas (b := b) h5 hi o5 hl h24 hf (by rw [f5.I (by omega)]; exact i9) (fun d G' f' hd h100 hn => ?_) 11 0 1 _ G5 (by omega) (by omega) chg.rf d5 (fun n => by show (if n = b then 0 else 100) ≤ 100; split <;> omega) (if_pos rfl) (near_0 _ _ _ _ (if_pos rfl)) (fun q => n10 q)
  have f6 := f5.tr f'
  refine hQ d G' (f3.tr (f6.mono (fun b q => Or.inr q) (fun _ q => q))) (fun j q8 q9 q4 => by rw [f6.I (by omega)]; exact ij j q8 q9 q4) (by rw [f6.I (by omega)]; exact i8) (by rw [f6.I (by omega)]; exact i9) (by rw [f6.I (by omega)]; exact i4) hd h100 hn
