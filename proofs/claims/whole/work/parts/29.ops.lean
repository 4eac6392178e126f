/-! ===== calls: literals, ifs ===== -/
theorem il0 : (0 : Int32).toInt = 0 := rfl
theorem il1 : (1 : Int32).toInt = 1 := rfl
theorem il2 : (2 : Int32).toInt = 2 := rfl
theorem il3 : (3 : Int32).toInt = 3 := rfl
theorem il4 : (4 : Int32).toInt = 4 := rfl
theorem il5 : (5 : Int32).toInt = 5 := rfl
theorem il7 : (7 : Int32).toInt = 7 := rfl
theorem il8 : (8 : Int32).toInt = 8 := rfl
theorem il10 : (10 : Int32).toInt = 10 := rfl
theorem il24 : (24 : Int32).toInt = 24 := rfl
theorem il99 : (99 : Int32).toInt = 99 := rfl
theorem il100 : (100 : Int32).toInt = 100 := rfl
theorem il500 : (500 : Int32).toInt = 500 := rfl
theorem il1000 : (1000 : Int32).toInt = 1000 := rfl
theorem il9999 : (9999 : Int32).toInt = 9999 := rfl
theorem il10000 : (10000 : Int32).toInt = 10000 := rfl
theorem il80000 : (80000 : Int32).toInt = 80000 := rfl
theorem ilm6 : (-1000000 : Int32).toInt = -1000000 := rfl
theorem il6 : (1000000 : Int32).toInt = 1000000 := rfl
theorem ll0 : (0 : Int64).toInt = 0 := rfl
theorem ll1 : (1 : Int64).toInt = 1 := rfl
theorem ll4 : (4 : Int64).toInt = 4 := rfl
theorem ll7 : (7 : Int64).toInt = 7 := rfl
theorem ll10 : (10 : Int64).toInt = 10 := rfl
theorem ll99 : (99 : Int64).toInt = 99 := rfl
theorem ll100 : (100 : Int64).toInt = 100 := rfl
theorem ll500 : (500 : Int64).toInt = 500 := rfl
theorem ll1000 : (1000 : Int64).toInt = 1000 := rfl
theorem ll9999 : (9999 : Int64).toInt = 9999 := rfl
theorem i64 (x : Int32) : x.toInt64.toInt = x.toInt := Int32.toInt_toInt64 x
theorem ifP {c : Prop} [Decidable c] {A B : Prop} (h : c) (a : A) : if c then A else B := by rw [if_pos h]; exact a
theorem ifN {c : Prop} [Decidable c] {A B : Prop} (h : ¬ c) (b : B) : if c then A else B := by rw [if_neg h]; exact b
theorem ifE {c : Prop} [Decidable c] {A B : Prop} (f : c → A) (g : ¬ c → B) : if c then A else B := by
  by_cases h : c
  · rw [if_pos h]; exact f h
  · rw [if_neg h]; exact g h
theorem nv_c (x : Int32) : x.toNatClampNeg = nv x := rfl
theorem nv_i {x : Int32} (h : 0 ≤ x.toInt) : x.toInt = (nv x : Int) := by unfold nv; omega
theorem vpn {x : Int32} {n : Nat} (h0 : 0 ≤ x.toInt) (h : x.toInt < n) : vp_in x n := vp_in_iff.mpr ⟨h0, h⟩
theorem n10 {A : Prop} (h : (1 : Int32) = 0) : A := absurd h (by decide)
/-! what arguments may be -/
theorem X11_in {x : Int32} {lo hi : Int64} {G : Wd} {Q : Int32 → Wd → Prop} (l h : Int) (e1 : lo.toInt = l) (e2 : hi.toInt = h) (h1 : rng x l h → Q 1 G) (h2 : ¬ rng x l h → Q 0 G) : wpX11_isIn x.toInt64 lo hi G Q := by
  subst e1; subst e2
  unfold wpX11_isIn
  refine ifE (fun a => h2 (fun c => ?_)) (fun a => ifE (fun b => h2 (fun c => ?_)) (fun b => h1 ⟨?_, ?_⟩))
  · rw [l_lt, i64] at a; have := c.1; omega
  · rw [l_lt, i64] at b; have := c.2; omega
  · rw [l_lt, i64] at a; omega
  · rw [l_lt, i64] at b; omega
theorem X10_isPlace {x : Int32} {G : Wd} {Q : Int32 → Wd → Prop} (h1 : rng x (0) 7 → Q 1 G) (h2 : ¬ rng x (0) 7 → Q 0 G) : wpX10_isPlace x G Q := by
  unfold wpX10_isPlace
  refine ifE (fun a => h2 (fun c => ?_)) (fun a => ifE (fun b => h2 (fun c => ?_)) (fun b => h1 ⟨?_, ?_⟩))
  · simp only [i_lt, il0, il1, il2, il3, il4, il5, il7, il8, il10, il24, il99, il100, il500, il1000, il9999, il10000, il80000, ilm6, il6, ll0, ll1, ll4, ll7, ll10, ll99, ll100, ll500, ll1000, ll9999, i64] at a; have := c.1; omega
  · simp only [i_lt, i_le, il0, il1, il2, il3, il4, il5, il7, il8, il10, il24, il99, il100, il500, il1000, il9999, il10000, il80000, ilm6, il6, ll0, ll1, ll4, ll7, ll10, ll99, ll100, ll500, ll1000, ll9999, i64] at b; have := c.2; omega
  · simp only [i_lt, il0, il1, il2, il3, il4, il5, il7, il8, il10, il24, il99, il100, il500, il1000, il9999, il10000, il80000, ilm6, il6, ll0, ll1, ll4, ll7, ll10, ll99, ll100, ll500, ll1000, ll9999, i64] at a; omega
  · simp only [i_lt, i_le, il0, il1, il2, il3, il4, il5, il7, il8, il10, il24, il99, il100, il500, il1000, il9999, il10000, il80000, ilm6, il6, ll0, ll1, ll4, ll7, ll10, ll99, ll100, ll500, ll1000, ll9999, i64] at b; omega
theorem X10_isDay {x : Int32} {G : Wd} {Q : Int32 → Wd → Prop} (h1 : rng x (0) 9999 → Q 1 G) (h2 : ¬ rng x (0) 9999 → Q 0 G) : wpX10_isDay x G Q := by
  unfold wpX10_isDay
  refine ifE (fun a => h2 (fun c => ?_)) (fun a => ifE (fun b => h2 (fun c => ?_)) (fun b => h1 ⟨?_, ?_⟩))
  · simp only [i_lt, il0, il1, il2, il3, il4, il5, il7, il8, il10, il24, il99, il100, il500, il1000, il9999, il10000, il80000, ilm6, il6, ll0, ll1, ll4, ll7, ll10, ll99, ll100, ll500, ll1000, ll9999, i64] at a; have := c.1; omega
  · simp only [i_lt, i_le, il0, il1, il2, il3, il4, il5, il7, il8, il10, il24, il99, il100, il500, il1000, il9999, il10000, il80000, ilm6, il6, ll0, ll1, ll4, ll7, ll10, ll99, ll100, ll500, ll1000, ll9999, i64] at b; have := c.2; omega
  · simp only [i_lt, il0, il1, il2, il3, il4, il5, il7, il8, il10, il24, il99, il100, il500, il1000, il9999, il10000, il80000, ilm6, il6, ll0, ll1, ll4, ll7, ll10, ll99, ll100, ll500, ll1000, ll9999, i64] at a; omega
  · simp only [i_lt, i_le, il0, il1, il2, il3, il4, il5, il7, il8, il10, il24, il99, il100, il500, il1000, il9999, il10000, il80000, ilm6, il6, ll0, ll1, ll4, ll7, ll10, ll99, ll100, ll500, ll1000, ll9999, i64] at b; omega
theorem X10_isKind {x : Int32} {G : Wd} {Q : Int32 → Wd → Prop} (h1 : rng x (0) 4 → Q 1 G) (h2 : ¬ rng x (0) 4 → Q 0 G) : wpX10_isKind x G Q := by
  unfold wpX10_isKind
  refine ifE (fun a => h2 (fun c => ?_)) (fun a => ifE (fun b => h2 (fun c => ?_)) (fun b => h1 ⟨?_, ?_⟩))
  · simp only [i_lt, il0, il1, il2, il3, il4, il5, il7, il8, il10, il24, il99, il100, il500, il1000, il9999, il10000, il80000, ilm6, il6, ll0, ll1, ll4, ll7, ll10, ll99, ll100, ll500, ll1000, ll9999, i64] at a; have := c.1; omega
  · simp only [i_lt, i_le, il0, il1, il2, il3, il4, il5, il7, il8, il10, il24, il99, il100, il500, il1000, il9999, il10000, il80000, ilm6, il6, ll0, ll1, ll4, ll7, ll10, ll99, ll100, ll500, ll1000, ll9999, i64] at b; have := c.2; omega
  · simp only [i_lt, il0, il1, il2, il3, il4, il5, il7, il8, il10, il24, il99, il100, il500, il1000, il9999, il10000, il80000, ilm6, il6, ll0, ll1, ll4, ll7, ll10, ll99, ll100, ll500, ll1000, ll9999, i64] at a; omega
  · simp only [i_lt, i_le, il0, il1, il2, il3, il4, il5, il7, il8, il10, il24, il99, il100, il500, il1000, il9999, il10000, il80000, ilm6, il6, ll0, ll1, ll4, ll7, ll10, ll99, ll100, ll500, ll1000, ll9999, i64] at b; omega
theorem X10_isPair {x : Int32} {G : Wd} {Q : Int32 → Wd → Prop} (h1 : rng x (0) 99 → Q 1 G) (h2 : ¬ rng x (0) 99 → Q 0 G) : wpX10_isPair x G Q := by
  unfold wpX10_isPair
  refine ifE (fun a => h2 (fun c => ?_)) (fun a => ifE (fun b => h2 (fun c => ?_)) (fun b => h1 ⟨?_, ?_⟩))
  · simp only [i_lt, il0, il1, il2, il3, il4, il5, il7, il8, il10, il24, il99, il100, il500, il1000, il9999, il10000, il80000, ilm6, il6, ll0, ll1, ll4, ll7, ll10, ll99, ll100, ll500, ll1000, ll9999, i64] at a; have := c.1; omega
  · simp only [i_lt, i_le, il0, il1, il2, il3, il4, il5, il7, il8, il10, il24, il99, il100, il500, il1000, il9999, il10000, il80000, ilm6, il6, ll0, ll1, ll4, ll7, ll10, ll99, ll100, ll500, ll1000, ll9999, i64] at b; have := c.2; omega
  · simp only [i_lt, il0, il1, il2, il3, il4, il5, il7, il8, il10, il24, il99, il100, il500, il1000, il9999, il10000, il80000, ilm6, il6, ll0, ll1, ll4, ll7, ll10, ll99, ll100, ll500, ll1000, ll9999, i64] at a; omega
  · simp only [i_lt, i_le, il0, il1, il2, il3, il4, il5, il7, il8, il10, il24, il99, il100, il500, il1000, il9999, il10000, il80000, ilm6, il6, ll0, ll1, ll4, ll7, ll10, ll99, ll100, ll500, ll1000, ll9999, i64] at b; omega
theorem X10_isTerm {x : Int32} {G : Wd} {Q : Int32 → Wd → Prop} (h1 : rng x (1) 1000 → Q 1 G) (h2 : ¬ rng x (1) 1000 → Q 0 G) : wpX10_isTerm x G Q := by
  unfold wpX10_isTerm
  refine ifE (fun a => h2 (fun c => ?_)) (fun a => ifE (fun b => h2 (fun c => ?_)) (fun b => h1 ⟨?_, ?_⟩))
  · simp only [i_lt, il0, il1, il2, il3, il4, il5, il7, il8, il10, il24, il99, il100, il500, il1000, il9999, il10000, il80000, ilm6, il6, ll0, ll1, ll4, ll7, ll10, ll99, ll100, ll500, ll1000, ll9999, i64] at a; have := c.1; omega
  · simp only [i_lt, i_le, il0, il1, il2, il3, il4, il5, il7, il8, il10, il24, il99, il100, il500, il1000, il9999, il10000, il80000, ilm6, il6, ll0, ll1, ll4, ll7, ll10, ll99, ll100, ll500, ll1000, ll9999, i64] at b; have := c.2; omega
  · simp only [i_lt, il0, il1, il2, il3, il4, il5, il7, il8, il10, il24, il99, il100, il500, il1000, il9999, il10000, il80000, ilm6, il6, ll0, ll1, ll4, ll7, ll10, ll99, ll100, ll500, ll1000, ll9999, i64] at a; omega
  · simp only [i_lt, i_le, il0, il1, il2, il3, il4, il5, il7, il8, il10, il24, il99, il100, il500, il1000, il9999, il10000, il80000, ilm6, il6, ll0, ll1, ll4, ll7, ll10, ll99, ll100, ll500, ll1000, ll9999, i64] at b; omega
theorem X10_isPlaceAndDay {x : Int32} {G : Wd} {Q : Int32 → Wd → Prop} (h1 : rng x (0) 79999 → Q 1 G) (h2 : ¬ rng x (0) 79999 → Q 0 G) : wpX10_isPlaceAndDay x G Q := by
  unfold wpX10_isPlaceAndDay
  refine ifE (fun a => h2 (fun c => ?_)) (fun a => ifE (fun b => h2 (fun c => ?_)) (fun b => h1 ⟨?_, ?_⟩))
  · simp only [i_lt, il0, il1, il2, il3, il4, il5, il7, il8, il10, il24, il99, il100, il500, il1000, il9999, il10000, il80000, ilm6, il6, ll0, ll1, ll4, ll7, ll10, ll99, ll100, ll500, ll1000, ll9999, i64] at a; have := c.1; omega
  · simp only [i_lt, i_le, il0, il1, il2, il3, il4, il5, il7, il8, il10, il24, il99, il100, il500, il1000, il9999, il10000, il80000, ilm6, il6, ll0, ll1, ll4, ll7, ll10, ll99, ll100, ll500, ll1000, ll9999, i64] at b; have := c.2; omega
  · simp only [i_lt, il0, il1, il2, il3, il4, il5, il7, il8, il10, il24, il99, il100, il500, il1000, il9999, il10000, il80000, ilm6, il6, ll0, ll1, ll4, ll7, ll10, ll99, ll100, ll500, ll1000, ll9999, i64] at a; omega
  · simp only [i_lt, i_le, il0, il1, il2, il3, il4, il5, il7, il8, il10, il24, il99, il100, il500, il1000, il9999, il10000, il80000, ilm6, il6, ll0, ll1, ll4, ll7, ll10, ll99, ll100, ll500, ll1000, ll9999, i64] at b; omega
theorem X10_isAmount {x : Int32} {G : Wd} {Q : Int32 → Wd → Prop} (h1 : rng x (-1000000) 1000000 → Q 1 G) (h2 : ¬ rng x (-1000000) 1000000 → Q 0 G) : wpX10_isAmount x G Q := by
  unfold wpX10_isAmount
  refine ifE (fun a => h2 (fun c => ?_)) (fun a => ifE (fun b => h2 (fun c => ?_)) (fun b => h1 ⟨?_, ?_⟩))
  · simp only [i_lt, il0, il1, il2, il3, il4, il5, il7, il8, il10, il24, il99, il100, il500, il1000, il9999, il10000, il80000, ilm6, il6, ll0, ll1, ll4, ll7, ll10, ll99, ll100, ll500, ll1000, ll9999, i64] at a; have := c.1; omega
  · simp only [i_lt, i_le, il0, il1, il2, il3, il4, il5, il7, il8, il10, il24, il99, il100, il500, il1000, il9999, il10000, il80000, ilm6, il6, ll0, ll1, ll4, ll7, ll10, ll99, ll100, ll500, ll1000, ll9999, i64] at b; have := c.2; omega
  · simp only [i_lt, il0, il1, il2, il3, il4, il5, il7, il8, il10, il24, il99, il100, il500, il1000, il9999, il10000, il80000, ilm6, il6, ll0, ll1, ll4, ll7, ll10, ll99, ll100, ll500, ll1000, ll9999, i64] at a; omega
  · simp only [i_lt, i_le, il0, il1, il2, il3, il4, il5, il7, il8, il10, il24, il99, il100, il500, il1000, il9999, il10000, il80000, ilm6, il6, ll0, ll1, ll4, ll7, ll10, ll99, ll100, ll500, ll1000, ll9999, i64] at b; omega
theorem X10_isMeasure {x : Int32} {G : Wd} {Q : Int32 → Wd → Prop} (h1 : rng x (0) 9 → Q 1 G) (h2 : ¬ rng x (0) 9 → Q 0 G) : wpX10_isMeasure x G Q := by
  unfold wpX10_isMeasure
  refine ifE (fun a => h2 (fun c => ?_)) (fun a => ifE (fun b => h2 (fun c => ?_)) (fun b => h1 ⟨?_, ?_⟩))
  · simp only [i_lt, il0, il1, il2, il3, il4, il5, il7, il8, il10, il24, il99, il100, il500, il1000, il9999, il10000, il80000, ilm6, il6, ll0, ll1, ll4, ll7, ll10, ll99, ll100, ll500, ll1000, ll9999, i64] at a; have := c.1; omega
  · simp only [i_lt, i_le, il0, il1, il2, il3, il4, il5, il7, il8, il10, il24, il99, il100, il500, il1000, il9999, il10000, il80000, ilm6, il6, ll0, ll1, ll4, ll7, ll10, ll99, ll100, ll500, ll1000, ll9999, i64] at b; have := c.2; omega
  · simp only [i_lt, il0, il1, il2, il3, il4, il5, il7, il8, il10, il24, il99, il100, il500, il1000, il9999, il10000, il80000, ilm6, il6, ll0, ll1, ll4, ll7, ll10, ll99, ll100, ll500, ll1000, ll9999, i64] at a; omega
  · simp only [i_lt, i_le, il0, il1, il2, il3, il4, il5, il7, il8, il10, il24, il99, il100, il500, il1000, il9999, il10000, il80000, ilm6, il6, ll0, ll1, ll4, ll7, ll10, ll99, ll100, ll500, ll1000, ll9999, i64] at b; omega
theorem X10_isEither {x : Int32} {G : Wd} {Q : Int32 → Wd → Prop} (h1 : rng x 0 1 → Q 1 G) (h2 : ¬ rng x 0 1 → Q 0 G) : wpX10_isEither x G Q := by
  unfold wpX10_isEither wpX10_isEither_9
  refine ifE (fun a => h1 ?_) (fun a => ifE (fun b => h1 ?_) (fun b => h2 (fun c => ?_)))
  · rw [i_eq, il0] at a; exact ⟨by omega, by omega⟩
  · rw [i_eq, il1] at b; exact ⟨by omega, by omega⟩
  · rw [i_eq, il0] at a; rw [i_eq, il1] at b; have := c.1; have := c.2; omega
theorem X11_isPlace {x : Int32} {G : Wd} {Q : Int32 → Wd → Prop} (h1 : rng x 0 7 → Q 1 G) (h2 : ¬ rng x 0 7 → Q 0 G) : wpX11_isPlace x G Q :=
  X11_in 0 7 rfl rfl (fun c => ⟨.inr rfl, h1 c⟩) (fun c => ⟨.inl rfl, h2 c⟩)
/-! ===== between calls: the class's cells hold T, the reference's S ===== -/
def mid (z : Nat) (G : Wd) (T S : St) : Prop := (∃ la lb, CR z G T la lb) ∧ MR (z + 54) G S
theorem MR.at {m : Nat} {G : Wd} {S : St} (h : MR m G S) (o f k n : Nat) (hf : mFd o = f) (hk : mKd o = k) (hn : mNs o = n) (h1 : 1 ≤ o) (h2 : o ≤ 26) {x : Int32} {P : Nat → Prop} (hx : vp_in x n) (hp : P (m + o)) : ∃ b, gR G m f = some b ∧ gK G b = k ∧ vp_in x (gN G b) ∧ P b := by
  subst hf; subst hk; subst hn
  obtain ⟨a1, a2, a3⟩ := h.1.2 o h1 h2
  exact ⟨m + o, a3, a1, by rw [a2]; exact hx, hp⟩
theorem mid.setM {z : Nat} {G : Wd} {T S : St} (h : mid z G T S) (o i : Nat) (v : Int32) (h1 : 1 ≤ o) (h2 : o ≤ 18) : mid z (uI G (z + 54 + o) i v) T (sSet S o i v) := by
  obtain ⟨⟨la, lb, hc⟩, hm⟩ := h
  have f : fxM (z + 54) [] [] [o] G (uI G (z + 54 + o) i v) := fxM.rf.aI o i v (List.mem_singleton.mpr rfl) (by omega)
  refine ⟨⟨la, lb, hc.fx f (fun o' q => by rw [List.mem_singleton.mp q]; omega)⟩, hm.1.fx f, ?_, ?_, fun o' a b i' hi' => ?_⟩
  · rw [f.I 1 (fun q => nomatch q)]; exact hm.2.1
  · rw [f.I 15 (fun q => nomatch q)]; exact hm.2.2.1
  · rw [gI_uI, sA_set]
    by_cases e : o' = o ∧ i' = i
    · rw [if_pos e, if_pos ⟨by omega, e.2⟩]
    · rw [if_neg e, if_neg (fun q => e ⟨by omega, q.2⟩)]; exact hm.2.2.2 o' a b i' hi'
theorem mid.setN {z : Nat} {G : Wd} {T S : St} (h : mid z G T S) (n : Nat) : mid z (uI G (z + 54) 1 (nI n)) T (S.1, n, S.2.2) := by
  obtain ⟨⟨la, lb, hc⟩, hm⟩ := h
  have f : fxM (z + 54) [1] [] [] G (uI G (z + 54) 1 (nI n)) := fxM.rf.wI 1 _ (List.mem_singleton.mpr rfl)
  refine ⟨⟨la, lb, hc.fx f (fun o' q => nomatch q)⟩, hm.1.fx f, ?_, ?_, fun o' a b i' hi' => ?_⟩
  · rw [gI_uI, if_pos ⟨rfl, rfl⟩]; rfl
  · rw [f.I 15 (fun q => by simp at q)]; exact hm.2.2.1
  · rw [f.AI o' i' (by omega) (fun q => nomatch q)]; exact hm.2.2.2 o' a b i' hi'
theorem mid.setL {z : Nat} {G : Wd} {T S : St} (h : mid z G T S) (n : Nat) : mid z (uI G (z + 54) 15 (nI n)) T (S.1, S.2.1, n) := by
  obtain ⟨⟨la, lb, hc⟩, hm⟩ := h
  have f : fxM (z + 54) [15] [] [] G (uI G (z + 54) 15 (nI n)) := fxM.rf.wI 15 _ (List.mem_singleton.mpr rfl)
  refine ⟨⟨la, lb, hc.fx f (fun o' q => nomatch q)⟩, hm.1.fx f, ?_, ?_, fun o' a b i' hi' => ?_⟩
  · rw [f.I 1 (fun q => by simp at q)]; exact hm.2.1
  · rw [gI_uI, if_pos ⟨rfl, rfl⟩]; rfl
  · rw [f.AI o' i' (by omega) (fun q => nomatch q)]; exact hm.2.2.2 o' a b i' hi'
theorem mid.K {z : Nat} {G : Wd} {T S : St} (h : mid z G T S) : gK G (z + 54) = 11 := h.2.1.1
theorem mid.I {z : Nat} {G : Wd} {T S : St} (h : mid z G T S) (o i : Nat) (h1 : 1 ≤ o) (h2 : o ≤ 18) (hi : i < mNs o) : gI G (z + 54 + o) i = sA S o i := h.2.2.2.2 o h1 h2 i hi
theorem mid.M {z : Nat} {G : Wd} {T S : St} (h : mid z G T S) : gI G (z + 54) 1 = nI (sM S) := h.2.2.1
theorem mid.L {z : Nat} {G : Wd} {T S : St} (h : mid z G T S) : gI G (z + 54) 15 = nI (sL S) := h.2.2.2.1
theorem CR.K {z : Nat} {G : Wd} {S : St} {la lb : Nat → Nat} (h : CR z G S la lb) : gK G z = 10 := h.1.K 0 (by omega)
theorem mid.cK {z : Nat} {G : Wd} {T S : St} (h : mid z G T S) : gK G z = 10 := by obtain ⟨⟨la, lb, hc⟩, _⟩ := h; exact hc.K
/-- what the class writes in cells below the reference or past it -/
theorem MR.chg {m : Nat} {G G' : Wd} {S : St} {P R : Nat → Prop} (h : MR m G S) (f : chg P R G G') (hp : ∀ o, o ≤ 26 → ¬ P (m + o) ∧ ¬ R (m + o)) : MR m G' S := h.keep (fun o ho => f.same (hp o ho).1 (hp o ho).2)
/-! ===== lies, within ===== -/
def oLies (S : St) (p q : Int32) : Int64 × St := if rng p 1 7 ∧ 0 ≤ q.toInt ∧ q.toInt < p.toInt then ((sA S 1 (nv p)).toInt64, sSet S 1 (nv p) q) else (-9000000000000000001, S)
theorem CR.setLies {z : Nat} {G : Wd} {S : St} {la lb : Nat → Nat} (h : CR z G S la lb) (i : Nat) (v : Int32) : CR z (uI G (z + 1) i v) (sSet S 1 i v) la lb := by
  have hap := h.2.2.2.2.2.2.1
  obtain ⟨h1, ⟨h2a, h2b⟩, h3, ⟨h4a, h4b⟩, h5, h6, h7, h8⟩ := h
  have f : chg (fun b => b = z + 1) (fun _ => False) G (uI G (z + 1) i v) := chg.rf.wI _ _ _ rfl
  refine ⟨⟨fun o ho => ⟨by rw [f.K]; exact (h1.1 o ho).1, by rw [f.N]; exact (h1.1 o ho).2⟩, fun q hq => h1.2 q hq⟩, ⟨h2a.keep f (by omega), h2b.keep f (by omega)⟩, fun i' hi => ?_, ⟨by rw [f.I (by omega)]; exact h4a, by rw [f.I (by omega)]; exact h4b⟩, fun k hk' => ?_, fun j hj => ?_, h7, fun c hc => ?_⟩
  · rw [gI_uI, sA_set]
    by_cases e : i' = i
    · rw [if_pos ⟨rfl, e⟩, if_pos ⟨rfl, e⟩]
    · rw [if_neg (fun q => e q.2), if_neg (fun q => e q.2)]; exact h3 i' hi
  · obtain ⟨a1, b1, b2, b3, b4, b5, b6, b7, b8⟩ := h5 k hk'
    have := (hap.1 k hk').1
    refine ⟨a1, b1, by rw [f.I (by omega)]; exact b2, fun g g1 g2 => ?_, fun g g1 g2 => ?_, b5, b6, b7.keep f (by omega), b8.keep f (by omega)⟩
    · rw [f.I (by omega), sA_set, if_neg (by omega)]; exact b3 g g1 g2
    · rw [f.I (by omega), sA_set, if_neg (by omega)]; exact b4 g g1 g2
  · obtain ⟨a1, b1, b2, b3, b4, b5, b6, b7, b8, b9⟩ := h6 j hj
    have := (hap.2.1 j hj).1
    exact ⟨a1, b1, by rw [f.I (by omega)]; exact b2, by rw [f.I (by omega)]; exact b3, by rw [f.I (by omega)]; exact b4, by rw [f.I (by omega)]; exact b5, b6, b7, b8, b9⟩
  · obtain ⟨a1, a2⟩ := h8 c hc
    refine ⟨by rw [f.I (by omega)]; exact a1, fun q => ⟨by rw [f.I (by omega)]; exact (a2 q).1, fun i hi => by rw [f.I (by omega)]; exact (a2 q).2 i hi⟩⟩
theorem C_lies {z : Nat} {G : Wd} {S T : St} {p q : Int32} {Q : Int64 → Wd → Prop} (h : mid z G S T) (hQ : ∀ G', mid z G' (oLies S p q).2 T → Q (oLies S p q).1 G') : wpX10_lies z p q G Q := by
  unfold oLies at hQ
  have hb : ¬ (rng p 1 7 ∧ 0 ≤ q.toInt ∧ q.toInt < p.toInt) → Q (-9000000000000000001) G := fun n => by rw [if_neg n] at hQ; exact hQ G h
  unfold wpX10_lies
  refine ifE (fun a => hb (fun c => ?_)) (fun a => ifE (fun b => hb (fun c => ?_)) (fun b => ifE (fun d => hb (fun c => ?_)) (fun d => ifE (fun e => ?_) (fun e => hb (fun c => ?_)))))
  · rw [i_lt, il1] at a; have := c.1.1; omega
  · rw [i_le, il8] at b; have := c.1.2; omega
  · rw [i_lt, il0] at d; have := c.2.1; omega
  · rw [i_lt, il1] at a; rw [i_le, il8] at b; rw [i_lt, il0] at d; rw [i_lt] at e
    rw [if_pos ⟨⟨by omega, by omega⟩, by omega, by omega⟩] at hQ
    obtain ⟨⟨la, lb, hc⟩, hm⟩ := h
    have hr : gR G z 0 = some (z + 1) := hc.1.R 0 0 1 (by decide)
    have hv : vp_in p (gN G (z + 1)) := by rw [hc.1.N 1 (by omega)]; exact vpn (by omega) (by show p.toInt < 8; omega)
    have hk : gK G (z + 1) = 20 := hc.1.K 1 (by omega)
    refine ⟨hc.K, z + 1, hr, hk, hv, fun x hx => ⟨z + 1, hr, hk, hv, fun G' hG => ?_⟩⟩
    subst hG
    have e1 : x = sA S 1 (nv p) := by rw [hx]; exact hc.2.2.1 (nv p) (by have := nv_i (x := p) (by omega); omega)
    rw [e1]
    exact hQ _ ⟨⟨la, lb, hc.setLies (nv p) q⟩, hm.chg (chg.rf.wI (P := fun b => b = z + 1) (R := fun _ => False) _ _ _ rfl) (fun o ho => ⟨by omega, fun q => q⟩)⟩
  · rw [i_lt] at e; have := c.2.2; omega
theorem M_lies {z : Nat} {G : Wd} {S T : St} {p q : Int32} {Q : Int64 → Wd → Prop} (h : mid z G T S) (hQ : ∀ G', mid z G' T (oLies S p q).2 → Q (oLies S p q).1 G') : wpX11_lies (z + 54) p q G Q := by
  unfold oLies at hQ
  have hb : ¬ (rng p 1 7 ∧ 0 ≤ q.toInt ∧ q.toInt < p.toInt) → Q (-9000000000000000001) G := fun n => by rw [if_neg n] at hQ; exact hQ G h
  unfold wpX11_lies
  refine X11_in 1 7 rfl rfl (fun a => ifN (fun e => n10 e) ?_) (fun a => ifP rfl (hb (fun c => a c.1)))
  have a1 := a.1
  have a2 := a.2
  have ep : (p - 1).toInt64.toInt = p.toInt - 1 := by
    obtain ⟨j, _, e⟩ := nI_of (x := p) (by rw [i_lt, il0]; omega)
    rw [i64, e]
    rw [e] at a1 a2
    rw [nI_toInt (by omega)] at a1 a2
    rw [show nI j - 1 = nI (j - 1) from by rw [show nI j = nI (j - 1 + 1) by rw [show j - 1 + 1 = j by omega]]; exact nI_pred _, nI_toInt (by omega), nI_toInt (by omega)]
    omega
  refine X11_in 0 (p.toInt - 1) rfl ep (fun d => ifN (fun e => n10 e) ?_) (fun d => ifP rfl (hb (fun c => d ⟨c.2.1, by have := c.2.2; omega⟩)))
  rw [if_pos ⟨a, d.1, by have := d.2; omega⟩] at hQ
  have hv : vp_in p 8 := vpn (by omega) (by show p.toInt < 8; omega)
  refine ⟨h.K, h.2.at 1 0 20 8 rfl rfl rfl (by omega) (by omega) hv (fun x hx => h.2.at 1 0 20 8 rfl rfl rfl (by omega) (by omega) hv (fun G' hG => ?_))⟩
  subst hG; subst hx
  rw [nv_c, h.I 1 (nv p) (by omega) (by omega) (by have := nv_i (x := p) (by omega); show nv p < 8; omega)]
  exact hQ _ (h.setM 1 (nv p) q (by omega) (by omega))
/-- the climb -/
def wi (S : St) : Nat → Int32 → Int32 → Int32
  | 0, _, _ => 0
  | n + 1, p, q => if p ≤ q then (if p = q then 1 else 0) else wi S n (sA S 1 (nv p)) q
theorem wi_B (S : St) (n : Nat) : ∀ p q, isB (wi S n p q) := by
  induction n with
  | zero => exact fun _ _ => .inl rfl
  | succ n ih =>
    intro p q
    unfold wi
    by_cases a : p ≤ q
    · rw [if_pos a]
      by_cases b : p = q
      · rw [if_pos b]; exact .inr rfl
      · rw [if_neg b]; exact .inl rfl
    · rw [if_neg a]; exact ih _ _
theorem C_wi {z : Nat} {G : Wd} {S : St} {la lb : Nat → Nat} {q : Int32} {Q : Int32 → Wd → Prop} (h : CR z G S la lb) (hi : Inv S) (hq : 0 ≤ q.toInt) (n : Nat) : ∀ p i : Int32, 0 ≤ p.toInt → p.toInt < n → 0 ≤ i.toInt → p.toInt + i.toInt ≤ 7 → Q (wi S n p q) G → wpX10_isWithin_5 Q n z q p i G := by
  induction n with
  | zero => intro p i h1 h2; omega
  | succ n ih =>
    intro p i h1 h2 h3 h4 hQ
    unfold wi at hQ
    unfold wpX10_isWithin_5
    refine ifN (by rw [i_le, il8]; omega) (ifE (fun a => ?_) (fun a => ?_))
    · rw [if_pos a] at hQ
      unfold wpX10_isWithin_30
      refine ifE (fun b => ?_) (fun b => ?_)
      · rw [if_pos b] at hQ; exact hQ
      · rw [if_neg b] at hQ; exact hQ
    · rw [if_neg a] at hQ
      rw [i_le] at a
      have e := nv_i h1
      obtain ⟨b1, b2⟩ := hi.2.1 (nv p) (by omega)
      have hv : vp_in p (gN G (z + 1)) := by rw [h.1.N 1 (by omega)]; exact vpn (by omega) (by show p.toInt < 8; omega)
      refine ⟨h.K, z + 1, h.1.R 0 0 1 (by decide), h.1.K 1 (by omega), hv, fun x hx y hy => ?_⟩
      have ex : x = sA S 1 (nv p) := by rw [hx]; exact h.2.2.1 (nv p) (by omega)
      have ey : y.toInt = i.toInt + 1 := by
        obtain ⟨j, _, e⟩ := nI_of (x := i) (by rw [i_lt, il0]; omega)
        rw [hy, e]
        rw [e] at h4
        rw [nI_toInt (by omega)] at h4
        rw [nI_1, nI_toInt (by omega), nI_toInt (by omega)]
        omega
      subst ex
      exact ih _ _ b1 (by omega) (by omega) (by omega) hQ
theorem M_wi {z : Nat} {G : Wd} {T S : St} {q : Int32} {Q : Int32 → Wd → Prop} (h : mid z G T S) (hi : Inv S) (hq : 0 ≤ q.toInt) (n : Nat) : ∀ p : Int32, 0 ≤ p.toInt → p.toInt < n → p.toInt ≤ 7 → Q (wi S n p q) G → wpX11_isWithin_2 Q n (z + 54) q p G := by
  induction n with
  | zero => intro p h1 h2; omega
  | succ n ih =>
    intro p h1 h2 h4 hQ
    unfold wi at hQ
    unfold wpX11_isWithin_2
    refine ifE (fun a => ?_) (fun a => ?_)
    · rw [if_pos a] at hQ
      refine ifE (fun b => ?_) (fun b => ?_)
      · rw [if_pos b] at hQ; exact hQ
      · rw [if_neg b] at hQ; exact hQ
    · rw [if_neg a] at hQ
      rw [i_le] at a
      have e := nv_i h1
      obtain ⟨b1, b2⟩ := hi.2.1 (nv p) (by omega)
      refine ⟨h.K, h.2.at 1 0 20 8 rfl rfl rfl (by omega) (by omega) (vpn (by omega) (by show p.toInt < 8; omega)) (fun x hx => ?_)⟩
      rw [nv_c, h.I 1 (nv p) (by omega) (by omega) (by show nv p < 8; omega)] at hx
      subst hx
      exact ih _ b1 (by omega) (by omega) hQ
theorem X10_isWithin {z : Nat} {G : Wd} {S : St} {la lb : Nat → Nat} {p q : Int32} {Q : Int32 → Wd → Prop} (h : CR z G S la lb) (hi : Inv S) (hp : rng p 0 7) (hq : 0 ≤ q.toInt) (hQ : Q (wi S 8 p q) G) : wpX10_isWithin z p q G Q :=
  ⟨8, C_wi h hi hq 8 p 0 hp.1 (by have := hp.2; omega) (by rw [il0]; omega) (by rw [il0]; have := hp.2; omega) hQ⟩
theorem X11_isWithin {z : Nat} {G : Wd} {T S : St} {p q : Int32} {Q : Int32 → Wd → Prop} (h : mid z G T S) (hi : Inv S) (hp : rng p 0 7) (hq : 0 ≤ q.toInt) (hQ : Q (wi S 8 p q) G) : wpX11_isWithin (z + 54) p q G Q :=
  ⟨8, M_wi h hi hq 8 p hp.1 (by have := hp.2; omega) hp.2 hQ⟩
def oWithin (S : St) (p q : Int32) : Int64 := if rng p 0 7 ∧ rng q 0 7 then (wi S 8 p q).toInt64 else -9000000000000000001
theorem b01 {x : Int32} {G : Wd} {Q : Int64 → Wd → Prop} (hx : isB x) (hQ : Q x.toInt64 G) : if x = 0 then Q 0 G else Q 1 G := by
  rcases hx with e | e
  · subst e; exact ifP rfl hQ
  · subst e; exact ifN (fun e => n10 e) hQ
theorem C_within {z : Nat} {G : Wd} {S T : St} {p q : Int32} {Q : Int64 → Wd → Prop} (h : mid z G S T) (hi : Inv S) (hQ : Q (oWithin S p q) G) : wpX10_within z p q G Q := by
  unfold oWithin at hQ
  have hb : ¬ (rng p 0 7 ∧ rng q 0 7) → Q (-9000000000000000001) G := fun n => by rw [if_neg n] at hQ; exact hQ
  unfold wpX10_within
  refine X10_isPlace (fun a => ifN (fun e => n10 e) (X10_isPlace (fun b => ifN (fun e => n10 e) ?_) (fun b => ifP rfl (hb (fun c => b c.2))))) (fun a => ifP rfl (hb (fun c => a c.1)))
  rw [if_pos ⟨a, b⟩] at hQ
  obtain ⟨⟨la, lb, hc⟩, hm⟩ := h
  exact ⟨hc.K, X10_isWithin hc hi a b.1 (b01 (wi_B S 8 p q) hQ)⟩
theorem M_within {z : Nat} {G : Wd} {S T : St} {p q : Int32} {Q : Int64 → Wd → Prop} (h : mid z G T S) (hi : Inv S) (hQ : Q (oWithin S p q) G) : wpX11_within (z + 54) p q G Q := by
  unfold oWithin at hQ
  have hb : ¬ (rng p 0 7 ∧ rng q 0 7) → Q (-9000000000000000001) G := fun n => by rw [if_neg n] at hQ; exact hQ
  unfold wpX11_within
  refine X11_isPlace (fun a => ifN (fun e => n10 e) (X11_isPlace (fun b => ifN (fun e => n10 e) ?_) (fun b => ifP rfl (hb (fun c => b c.2))))) (fun a => ifP rfl (hb (fun c => a c.1)))
  rw [if_pos ⟨a, b⟩] at hQ
  exact ⟨h.K, X11_isWithin h hi a b.1 (b01 (wi_B S 8 p q) hQ)⟩
