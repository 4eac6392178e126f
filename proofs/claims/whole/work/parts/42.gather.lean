/-! ===== which likenesses count: gather, findCounted ===== -/
theorem nI_mod {a d : Nat} (ha : a < 2 ^ 31) (hd : d < 2 ^ 31) : nI a % nI d = nI (a % d) := by
  have hm : a % d ≤ a := Nat.mod_le a d
  rw [i_eq, Int32.toInt_mod, nI_toInt ha, nI_toInt hd, nI_toInt (by omega)]
  rfl
theorem nv_nI {n : Nat} (h : n < 2 ^ 31) : nv (nI n) = n := nI_clamp h
theorem pd_rng {v : Int32} (h : rng v 0 79999) : rng (v / 10000) 0 7 ∧ rng (v % 10000) 0 9999 := by
  have e := nI_nv h.1
  have q := nv_i h.1
  have l := h.2
  have e1 : v / 10000 = nI (nv v / 10000) := by
    have := pk_div (a := nv v) (d := 10000) (by omega) (by omega) (by omega)
    rw [← e] at this
    exact this
  have e2 : v % 10000 = nI (nv v % 10000) := by
    have := nI_mod (a := nv v) (d := 10000) (by omega) (by omega)
    rw [← e] at this
    exact this
  rw [e1, e2]
  have m := Nat.mod_lt (nv v) (show 10000 > 0 by omega)
  refine ⟨⟨?_, ?_⟩, ?_, ?_⟩
  · rw [nI_toInt (by omega)]; omega
  · rw [nI_toInt (by omega)]; omega
  · rw [nI_toInt (by omega)]; omega
  · rw [nI_toInt (by omega)]; omega
def opl (S : St) (p d : Int32) : Nat → List Nat
  | 0 => []
  | k + 1 => opl S p d k ++ (if cnt S k p d = 0 then [] else [k])
theorem opl_len (S : St) (p d : Int32) (k : Nat) : (opl S p d k).length ≤ k := by
  induction k with
  | zero => exact Nat.le_refl _
  | succ k ih =>
    unfold opl
    rw [List.length_append]
    split <;> simp <;> omega
theorem opl_lt (S : St) (p d : Int32) (k : Nat) : ∀ x ∈ opl S p d k, x < k ∧ ¬ cnt S x p d = 0 := by
  induction k with
  | zero => intro x hx; exact absurd hx (by simp [opl])
  | succ k ih =>
    intro x hx
    unfold opl at hx
    rw [List.mem_append] at hx
    rcases hx with hx | hx
    · have := ih x hx; exact ⟨by omega, this.2⟩
    · by_cases c : cnt S k p d = 0
      · rw [if_pos c] at hx; exact absurd hx (by simp)
      · rw [if_neg c] at hx
        rw [List.mem_singleton.mp hx]; exact ⟨by omega, c⟩
/-- the trail's open row holds these likenesses -/
def opnd (z : Nat) (G : Wd) (la : Nat → Nat) (l : List Nat) : Prop := gI G (z + 5) 1 = nI l.length ∧ ∀ i, i < l.length → gR G (z + 6) i = some (la (l.getD i 0))
theorem CR.opn {z : Nat} {G G' : Wd} {S : St} {la lb : Nat → Nat} (h : CR z G S la lb) (f : chg (fun b => b = z + 5) (fun b => b = z + 6) G G') : CR z G' S la lb := by
  have hap := h.A
  refine h.keep f (fun o ho q => by omega) (fun q hq => ?_) (by omega) (by omega) (fun k hk i hi => ?_) (fun j hj => ?_)
  · have hh : ∀ q ∈ cRf, q.1 ≠ 6 := by decide
    have := hh q hq
    omega
  · have := (hap.1 k hk).1; exact ⟨by omega, by omega⟩
  · have := (hap.2.1 j hj).1; exact ⟨by omega, by omega⟩
theorem C_gather_loop {z : Nat} {G0 : Wd} {S : St} {la lb : Nat → Nat} {v : Int32} {Q : Wd → Prop} (h0 : CR z G0 S la lb) (hi : Inv S) (hp : rng (v / 10000) 0 7) (hQ : ∀ G', chg (fun b => b = z + 5) (fun b => b = z + 6) G0 G' → CR z G' S la lb → opnd z G' la (opl S (v / 10000) (v % 10000) (sM S)) → Q G') (n : Nat) : ∀ (i : Nat) (G : Wd), i ≤ sM S → i + n = sM S + 1 → chg (fun b => b = z + 5) (fun b => b = z + 6) G0 G → opnd z G la (opl S (v / 10000) (v % 10000) i) → wpX10_gather_10 Q n z v (nI i) G := by
  have hM := hi.1.1
  induction n with
  | zero => intro i G le e; omega
  | succ n ih =>
    intro i G le e f ho
    have h := h0.opn f
    unfold wpX10_gather_10 wpX10_gather_55
    refine ⟨h.K, ?_⟩
    rw [h.2.2.2.1.1]
    refine ifE (fun a => ?_) (fun a => ?_)
    · rw [nI_leI (by omega) (by omega)] at a
      have e' : i = sM S := by omega
      rw [e'] at ho
      exact hQ G f h ho
    · rw [nI_leI (by omega) (by omega)] at a
      obtain ⟨a1, b1, _⟩ := h.2.2.2.2.1 i (by omega)
      refine ⟨z + 2, h.1.R 0 1 2 (by decide), h.1.K 2 (by omega), by rw [h.1.N 2 (by omega)]; exact vp_in_nI (by show i < 24; omega) (by decide), fun r hr => ?_⟩
      rw [nI_clamp (by omega), a1] at hr
      subst hr
      refine X10_countsAt h hi (by omega) hp (ifE (fun c x hx => ?_) (fun c => ⟨h.K, z + 5, h.1.R 0 6 5 (by decide), h.1.K 5 (by omega), ?_⟩))
      · rw [nI_1] at hx; subst hx
        refine ih (i + 1) G (by omega) (by omega) f ?_
        unfold opl
        rw [if_pos c, List.append_nil]
        exact ho
      · have hl := opl_len S (v / 10000) (v % 10000) i
        unfold wpX9_admit
        rw [ho.1]
        refine ⟨h.1.K 5 (by omega), ifN (by rw [i_le, il24, nI_toInt (by omega)]; omega) ⟨z + 6, h.1.R 5 0 6 (by decide), h.1.K 6 (by omega), b1, by rw [h.1.N 6 (by omega)]; exact vp_in_nI (by show _ < 24; omega) (by decide), fun G1 e1 G2 e2 x hx => ?_⟩⟩
        rw [nI_1] at hx; subst hx
        rw [nI_clamp (by omega)] at e1
        have e3 : gI G1 (z + 5) 1 = nI (opl S (v / 10000) (v % 10000) i).length := by rw [e1, gI_uR]; exact ho.1
        rw [e3, nI_1] at e2
        refine ih (i + 1) G2 (by omega) (by omega) (by rw [e2, e1]; exact (f.wR _ _ _ rfl).wI _ _ _ rfl) ?_
        unfold opl
        rw [if_neg c]
        refine ⟨by rw [e2, gI_uI, if_pos ⟨rfl, rfl⟩, List.length_append]; rfl, fun j hj => ?_⟩
        rw [List.length_append] at hj
        have hj' : j < (opl S (v / 10000) (v % 10000) i).length + 1 := hj
        rw [e2, gR_uI, e1, gR_uR]
        by_cases c' : j = (opl S (v / 10000) (v % 10000) i).length
        · rw [if_pos ⟨rfl, c'⟩, c']
          simp [List.getD]
        · rw [if_neg (fun q => c' q.2), ho.2 j (by omega)]
          simp [List.getD, List.getElem?_append_left (show j < (opl S (v / 10000) (v % 10000) i).length by omega)]
theorem X10_gather {z : Nat} {G : Wd} {S : St} {la lb : Nat → Nat} {v : Int32} {Q : Wd → Prop} (h : CR z G S la lb) (hi : Inv S) (hv : rng v 0 79999) (hQ : ∀ G', chg (fun b => b = z + 5) (fun b => b = z + 6) G G' → CR z G' S la lb → opnd z G' la (opl S (v / 10000) (v % 10000) (sM S)) → Q G') : wpX10_gather z v G Q := by
  unfold wpX10_gather
  refine ⟨h.K, z + 5, h.1.R 0 6 5 (by decide), h.1.K 5 (by omega), fun G1 e1 => ⟨sM S + 1, ?_⟩⟩
  have f : chg (fun b => b = z + 5) (fun b => b = z + 6) G G1 := by rw [e1]; exact chg.rf.wI _ _ _ rfl
  exact C_gather_loop h hi (pd_rng hv).1 hQ (sM S + 1) 0 G1 (by omega) (by omega) f ⟨by rw [e1, gI_uI, if_pos ⟨rfl, rfl⟩]; rfl, fun i hi => absurd hi (Nat.not_lt_zero _)⟩
/-- the reference's row of those that count -/
def cntd (m : Nat) (G : Wd) (S : St) (p d : Int32) (n : Nat) : Prop := ∀ k, k < n → gI G (m + 20) k = cnt S k p d
theorem M_found_loop {z : Nat} {G0 : Wd} {T S : St} {p d : Int32} {Q : Wd → Prop} (h0 : mid z G0 T S) (hi : Inv S) (hp : rng p 0 7) (hQ : ∀ G', fxM (z + 54) [] [] [20] G0 G' → mid z G' T S → cntd (z + 54) G' S p d (sM S) → Q G') (n : Nat) : ∀ (i : Nat) (G : Wd), i ≤ sM S → i + n = sM S + 1 → fxM (z + 54) [] [] [20] G0 G → cntd (z + 54) G S p d i → wpX11_findCounted_2 Q n (z + 54) p d (nI i) G := by
  have hM := hi.1.1
  induction n with
  | zero => intro i G le e; omega
  | succ n ih =>
    intro i G le e f ho
    have h := h0.fx f (fun q => nomatch q) (fun q => nomatch q) (fun o q => by rw [List.mem_singleton.mp q]; omega)
    unfold wpX11_findCounted_2
    refine ⟨h.K, ?_⟩
    rw [h.M]
    refine ifE (fun a => ?_) (fun a => ?_)
    · rw [nI_leI (by omega) (by omega)] at a
      have e' : i = sM S := by omega
      rw [e'] at ho
      exact hQ G f h ho
    · rw [nI_leI (by omega) (by omega)] at a
      obtain ⟨q1, q2, q3⟩ := h.2.1.2 20 (by omega) (by omega)
      refine ⟨z + 54 + 20, q3, X11_doesCount h hi (by rw [nI_toInt (by omega)]; omega) (by rw [nv_nI (by omega)]; omega) hp ⟨q1, by rw [q2]; exact vp_in_nI (by show i < 24; omega) (by decide), cnt_B _ _ _ _, fun G1 e1 x hx => ?_⟩⟩
      rw [nI_1] at hx; subst hx
      rw [nI_clamp (by omega), nv_nI (by omega)] at e1
      refine ih (i + 1) G1 (by omega) (by omega) (by rw [e1]; exact f.aI 20 _ _ (List.mem_singleton.mpr rfl) (by omega)) (fun k hk => ?_)
      rw [e1, gI_uI]
      by_cases c : k = i
      · rw [if_pos ⟨rfl, c⟩, c]
      · rw [if_neg (fun q => c q.2)]; exact ho k (by omega)
theorem X11_findCounted {z : Nat} {G : Wd} {T S : St} {p d : Int32} {Q : Wd → Prop} (h : mid z G T S) (hi : Inv S) (hp : rng p 0 7) (hQ : ∀ G', fxM (z + 54) [] [] [20] G G' → mid z G' T S → cntd (z + 54) G' S p d (sM S) → Q G') : wpX11_findCounted (z + 54) p d G Q :=
  ⟨sM S + 1, M_found_loop h hi hp hQ (sM S + 1) 0 G (by omega) (by omega) fxM.rf (fun k hk => absurd hk (Nat.not_lt_zero _))⟩
