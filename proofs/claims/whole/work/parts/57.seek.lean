/-! ===== the reference's seek; ways, way ===== -/
theorem nI_64 {n : Nat} (h : n < 2 ^ 31) : (nI n).toInt64 = lN n := by
  rw [l_eq, i64, nI_toInt h, lT (by omega)]
theorem ab_nI {p : Int32} (h : rng p 0 99) : p / 10 = nI (nv p / 10) ∧ p % 10 = nI (nv p % 10) ∧ nv p / 10 < 10 ∧ nv p % 10 < 10 := by
  have e := nI_nv h.1
  have q := nv_i h.1
  have l := h.2
  have e1 : p / 10 = nI (nv p / 10) := by
    have := pk_div (a := nv p) (d := 10) (by omega) (by omega) (by omega)
    rw [← e] at this
    exact this
  have e2 : p % 10 = nI (nv p % 10) := by
    have := nI_mod (a := nv p) (d := 10) (by omega) (by omega)
    rw [← e] at this
    exact this
  exact ⟨e1, e2, by omega, by omega⟩
theorem X11_isPair {x : Int32} {G : Wd} {Q : Int32 → Wd → Prop} (h1 : rng x 0 99 → Q 1 G) (h2 : ¬ rng x 0 99 → Q 0 G) : wpX11_isPair x G Q :=
  X11_in 0 99 rfl rfl (fun a => ⟨Or.inr rfl, h1 a⟩) (fun a => ⟨Or.inl rfl, h2 a⟩)
theorem X11_isTime {x : Int32} {G : Wd} {Q : Int32 → Wd → Prop} (h1 : rng x 0 79999 → Q 1 G) (h2 : ¬ rng x 0 79999 → Q 0 G) : wpX11_isTime x G Q :=
  X11_in 0 79999 rfl rfl (fun a => ⟨Or.inr rfl, h1 a⟩) (fun a => ⟨Or.inl rfl, h2 a⟩)
theorem X11_isEnd {x y : Int32} {G : Wd} {Q : Int32 → Wd → Prop} (h1 : rng x 0 1 ∧ rng y 0 1 → Q 1 G) (h2 : ¬ (rng x 0 1 ∧ rng y 0 1) → Q 0 G) : wpX11_isEnd x y G Q :=
  X11_in 0 1 rfl rfl (fun a => ifN (fun e => n10 e) (X11_in 0 1 rfl rfl (fun b => ifN (fun e => n10 e) (h1 ⟨a, b⟩)) (fun b => ifP rfl (h2 (fun c => b c.2))))) (fun a => ifP rfl (h2 (fun c => a c.1)))
theorem opl_ok {S : St} (hi : Inv S) (p d : Int32) : (∀ x ∈ opl S p d (sM S), x < sM S) ∧ (opl S p d (sM S)).length ≤ 24 :=
  ⟨fun x hx => (opl_lt S p d _ x hx).1, Nat.le_trans (opl_len S p d _) hi.1.1⟩
theorem dfx_ab (S : St) (b : Nat) (l : List Nat) (j : Nat) (met pre : List Nat) : dfx S b l (j + 1) b met pre = [] := by
  unfold dfx; exact if_pos rfl
def goSI : List Nat := [22, 30, 33, 34, 36]
def goSJ : List Nat := [20, 21, 23, 24, 37, 38, 39, 40]
def skSI : List Nat := [22, 29, 30, 31, 33, 34, 35, 36]
theorem X11_seek {z a b : Nat} {G0 : Wd} {T S : St} {p d k all : Int32} {I : List (List Nat) → Wd → Prop} {hit : List (List Nat) → Bool} {Q : Wd → Prop}
    (h0 : mid z G0 T S) (hi : Inv S) (ha : a < 10) (hb : b < 10) (hB : isB all) (hc : cntd (z + 54) G0 S p d (sM S))
    (hst : ∀ h G G', I h G → fxM (z + 54) [29] [] [21, 22] G G' → I h G')
    (hv : ∀ len h pre G Q (rec : Nat → Int32 → Int32 → Wd → (Wd → Prop) → Prop), len ≤ 9 → mid z G T S → gI G (z + 54) 29 = nI len → I h G → cel G (z + 54 + 22) pre → pre.length = len → rok (sM S) pre → (∀ G', fxM (z + 54) goSI goSJ [19, 23] G G' → I (h ++ [pre]) G' → Q G') → (if (gI G (z + 54) 30) = (gI G (z + 54) 31) then (∀ G93 : Wd, G93 = uI G (z + 54) 34 1 → ∀ G95 : Wd, G95 = uI G93 (z + 54) 33 (nI len) → ∃ m, wpX11_go_41 rec Q m (z + 54) (nI len) 0 G95) else (wpX11_go_64 rec Q (z + 54) G)))
    (hkept : ∀ j G, j ≤ 10 → I (wl S b (opl S p d (sM S)) a j) G → gI G (z + 54) 34 = if hit (wl S b (opl S p d (sM S)) a j) then 1 else 0)
    (hI0 : ∀ G', fxM (z + 54) skSI goSJ [19, 21, 22, 23] G0 G' → gI G' (z + 54) 30 = 0 → gI G' (z + 54) 31 = k → gI G' (z + 54) 34 = 0 → gI G' (z + 54) 35 = all → gI G' (z + 54) 36 = 0 → gI G' (z + 54) 22 = 0 → I [] G')
    (hQ : ∀ j G', j ≤ 10 → (j = 10 ∨ (hit (wl S b (opl S p d (sM S)) a j) = true ∧ all = 0 ∧ 0 ≤ k)) → fxM (z + 54) skSI goSJ [19, 21, 22, 23] G0 G' → I (wl S b (opl S p d (sM S)) a j) G' → Q G') : wpX11_seek (z + 54) (nI a) (nI b) k all G0 Q := by
  have hAR : ∀ o ∈ [19, 21, 22, 23], 18 < o ∧ o ≤ 26 := by decide
  have loop : ∀ (n j : Nat) (G : Wd), j ≤ 10 → j + n = 11 → fxM (z + 54) skSI goSJ [19, 21, 22, 23] G0 G → gI G (z + 54) 29 = nI j → cel G (z + 54 + 21) [a] → I (wl S b (opl S p d (sM S)) a j) G → wpX11_seek_43 Q n (z + 54) (nI a) (nI b) k all G := by
    intro n
    induction n with
    | zero => intro j G le e; omega
    | succ n ih =>
      intro j G le e fx e29 cm hI
      have hm := h0.fx fx (by decide) (by decide) hAR
      have hk := hkept j G le hI
      have s86 : ∀ G1, fxM (z + 54) goSI goSJ [19, 21, 22, 23] G G1 → j < 10 → cel G1 (z + 54 + 21) [a] → I (wl S b (opl S p d (sM S)) a (j + 1)) G1 → wpX11_seek_86 Q (fun y0 y1 y2 y3 y4 y5 => wpX11_seek_43 Q n y0 y1 y2 y3 y4 y5) (z + 54) (nI a) (nI b) k all G1 := by
        intro G1 f1 lt c1 I1
        have f1' := fx.up f1 (by decide) (fun _ q => q) (fun _ q => q)
        unfold wpX11_seek_86
        refine ⟨by rw [f1.K]; exact hm.K, fun G2 e2 => ?_⟩
        rw [f1.I 29 (by decide), e29, nI_1] at e2
        have f2 : fxM (z + 54) [29] [] [21, 22] G1 G2 := by rw [e2]; exact fxM.rf.wI 29 _ (by decide)
        refine ih (j + 1) G2 (by omega) (by omega) (f1'.up f2 (by decide) (fun _ q => nomatch q) (by decide)) (by rw [e2, gI_uI, if_pos ⟨rfl, rfl⟩]) (c1.same (fun i => by rw [e2, gI_uI, if_neg (by omega)])) (hst _ _ _ I1 f2)
      have s80 : (a = b → j = 0) → j < 10 → wpX11_seek_80 Q (fun y0 y1 y2 y3 y4 y5 => wpX11_seek_43 Q n y0 y1 y2 y3 y4 y5) (z + 54) (nI a) (nI b) k all G := by
        intro hab lt
        unfold wpX11_seek_80
        refine ⟨hm.K, ?_⟩
        refine X11_go (SI := goSI) (SJ := goSJ) (I := I) (len := j) (p := p) (d := d) hm hi hb (by omega) (fun i hi' => by rw [fx.AI 20 i (by omega) (by decide)]; exact hc i hi') e29 (by decide) (by decide) (by decide) (fun h G G' q1 q2 => hst h G G' q1 (q2.mono (fun _ q => nomatch q) (fun _ q => nomatch q) (fun _ q => q))) (fun h pre G1 Q rec f1 q1 q2 q3 q4 q5 => hv j h pre G1 Q rec (by omega) (hm.fx f1 (by decide) (by decide) hAR) (by rw [f1.I 29 (by decide)]; exact e29) q1 q2 q3 q4 q5) j 12 a [] [] (wl S b (opl S p d (sM S)) a j) G _ (by omega) ha (by show 0 + j = j; omega) rfl (fun x hx => nomatch hx) (fun x hx => nomatch hx) fxM.rf hI cm (fun i hi' => absurd hi' (Nat.not_lt_zero _)) (fun _ q => hab q) (fun G1 f1 I1 c1 _ => s86 G1 f1 lt c1 I1)
      have s68 : j < 10 → wpX11_seek_68 Q (fun y0 y1 y2 y3 y4 y5 => wpX11_seek_43 Q n y0 y1 y2 y3 y4 y5) (z + 54) (nI a) (nI b) k all G := by
        intro lt
        unfold wpX11_seek_68
        refine ifE (fun c => ⟨hm.K, ifE (fun c9 => s80 (fun _ => ?_) lt) (fun c9 => ?_)⟩) (fun c => s80 (fun q => absurd (by rw [q]) c) lt)
        · rw [e29] at c9
          have c9' : nI j = nI 0 := c9
          rw [nI_eqI (by omega) (by omega)] at c9'
          exact c9'
        · rw [nI_eqI (by omega) (by omega)] at c
          have nj : j ≠ 0 := fun q => c9 (by rw [e29, q]; rfl)
          obtain ⟨i, rfl⟩ : ∃ i, j = i + 1 := ⟨j - 1, by omega⟩
          refine s86 G fxM.rf lt cm ?_
          show I (wl S b (opl S p d (sM S)) a (i + 1) ++ dfx S b (opl S p d (sM S)) (i + 1) a [a] []) G
          subst c
          rw [dfx_ab, List.append_nil]
          exact hI
      unfold wpX11_seek_43
      refine ⟨hm.K, ?_⟩
      rw [e29]
      refine ifE (fun c => ?_) (fun c => ?_)
      · rw [i_le, nI_toInt (by omega), il10] at c
        exact hQ j G le (Or.inl (by omega)) fx hI
      · rw [i_le, nI_toInt (by omega), il10] at c
        refine ifE (fun c4 => s68 (by omega)) (fun c4 => ifE (fun ca => ifE (fun ck => hQ j G le (Or.inr ⟨?_, ca, ck⟩) fx hI) (fun ck => s68 (by omega))) (fun ca => s68 (by omega)))
        cases q : hit (wl S b (opl S p d (sM S)) a j) with
        | true => rfl
        | false => rw [q] at hk; exact absurd hk c4
  unfold wpX11_seek
  refine ⟨h0.K, fun G1 e1 G2 e2 G3 e3 => ⟨hB, fun G4 e4 G5 e5 G6 e6 => ?_⟩⟩
  have f6 : fxM (z + 54) skSI goSJ [19, 21, 22, 23] G0 G6 := by
    rw [e6, e5, e4, e3, e2, e1]
    exact (((((fxM.rf.wI 30 _ (by decide)).wI 31 _ (by decide)).wI 34 _ (by decide)).wI 35 _ (by decide)).wI 36 _ (by decide)).wI 22 _ (by decide)
  obtain ⟨k21, l21, r21⟩ := h0.2.1.2 21 (by omega) (by omega)
  refine ⟨z + 54 + 21, by rw [f6.R]; exact r21, by rw [f6.K]; exact k21, by rw [f6.N, l21]; unfold vp_in; decide, fun G7 e7 G8 e8 => ⟨11, ?_⟩⟩
  have f8 : fxM (z + 54) skSI goSJ [19, 21, 22, 23] G0 G8 := by
    rw [e8, e7]
    exact (f6.aI 21 _ _ (by decide) (by omega)).wI 29 _ (by decide)
  have g8 : ∀ i, i ≠ 29 → gI G8 (z + 54) i = gI G6 (z + 54) i := fun i hi' => by rw [e8, gI_uI, if_neg (by omega), e7, gI_uI, if_neg (by omega)]
  refine loop 11 0 G8 (by omega) (by omega) f8 (by rw [e8, gI_uI, if_pos ⟨rfl, rfl⟩]; rfl) (fun i hi' => ?_) (hI0 G8 f8 ?_ ?_ ?_ ?_ ?_ ?_)
  · have e0 : i = 0 := by have : i < 1 := hi'; omega
    subst e0
    rw [e8, gI_uI, if_neg (by omega), e7, gI_uI, if_pos ⟨rfl, rfl⟩]; rfl
  · rw [g8 30 (by omega), e6, gI_uI, if_neg (by omega), e5, gI_uI, if_neg (by omega), e4, gI_uI, if_neg (by omega), e3, gI_uI, if_neg (by omega), e2, gI_uI, if_neg (by omega), e1, gI_uI, if_pos ⟨rfl, rfl⟩]
  · rw [g8 31 (by omega), e6, gI_uI, if_neg (by omega), e5, gI_uI, if_neg (by omega), e4, gI_uI, if_neg (by omega), e3, gI_uI, if_neg (by omega), e2, gI_uI, if_pos ⟨rfl, rfl⟩]
  · rw [g8 34 (by omega), e6, gI_uI, if_neg (by omega), e5, gI_uI, if_neg (by omega), e4, gI_uI, if_neg (by omega), e3, gI_uI, if_pos ⟨rfl, rfl⟩]
  · rw [g8 35 (by omega), e6, gI_uI, if_neg (by omega), e5, gI_uI, if_neg (by omega), e4, gI_uI, if_pos ⟨rfl, rfl⟩]
  · rw [g8 36 (by omega), e6, gI_uI, if_neg (by omega), e5, gI_uI, if_pos ⟨rfl, rfl⟩]
  · rw [g8 22 (by omega), e6, gI_uI, if_pos ⟨rfl, rfl⟩]
/-! the row that is kept -/
theorem M_keep {z n : Nat} {G0 : Wd} {T S : St} {pre : List Nat} {Q : Wd → Prop} {rec : Nat → Int32 → Int32 → Wd → (Wd → Prop) → Prop} (h0 : mid z G0 T S) (cp : cel G0 (z + 54 + 22) pre) (hn : pre.length = n) (h9 : n ≤ 20) (hQ : ∀ G', fxM (z + 54) [] [] [23] G0 G' → cel G' (z + 54 + 23) pre → wpX11_go_64 rec Q (z + 54) G') (f : Nat) : ∀ (i : Nat) (G : Wd), i ≤ n → i + f = n + 1 → fxM (z + 54) [] [] [23] G0 G → (∀ j, j < i → gI G (z + 54 + 23) j = nI (pre.getD j 0)) → wpX11_go_41 rec Q f (z + 54) (nI n) (nI i) G := by
  induction f with
  | zero => intro i G le e; omega
  | succ f ih =>
    intro i G le e fx hj
    have hm := h0.fx fx (fun q => nomatch q) (fun q => nomatch q) (fun o q => by rw [List.mem_singleton.mp q]; omega)
    unfold wpX11_go_41
    refine ifE (fun c => ?_) (fun c => ⟨hm.K, ?_⟩)
    · rw [nI_leI (by omega) (by omega)] at c
      exact hQ G fx (fun j hj' => hj j (by omega))
    · rw [nI_leI (by omega) (by omega)] at c
      obtain ⟨k22, l22, r22⟩ := hm.2.1.2 22 (by omega) (by omega)
      obtain ⟨k23, l23, r23⟩ := hm.2.1.2 23 (by omega) (by omega)
      refine ⟨z + 54 + 23, r23, z + 54 + 22, r22, k22, by rw [l22]; exact vp_in_nI (by show i < 25; omega) (by decide), k23, by rw [l23]; exact vp_in_nI (by show i < 25; omega) (by decide), fun G1 e1 x hx => ?_⟩
      rw [nI_1] at hx; subst hx
      rw [nI_clamp (by omega), fx.AI 22 i (by omega) (by decide), cp i (by omega)] at e1
      refine ih (i + 1) G1 (by omega) (by omega) (by rw [e1]; exact fx.aI 23 _ _ (by decide) (by omega)) (fun j hj' => ?_)
      rw [e1, gI_uI]
      by_cases q : j = i
      · rw [if_pos ⟨rfl, q⟩, q]
      · rw [if_neg (fun w => q w.2)]; exact hj j (by omega)
def hitK (k : Int32) (h : List (List Nat)) : Bool := decide (0 ≤ k ∧ nv k < h.length)
/-- what the reference holds while it looks for way k -/
def IK (z : Nat) (k : Int32) (h : List (List Nat)) (G : Wd) : Prop := (gI G (z + 54) 31 = k ∧ gI G (z + 54) 35 = 0 ∧ gI G (z + 54) 22 = 0) ∧ (h.length ≤ 1000000000 → gI G (z + 54) 30 = nI h.length ∧ gI G (z + 54) 34 = (if hitK k h then 1 else 0) ∧ ∀ row, 0 ≤ k → h[nv k]? = some row → gI G (z + 54) 33 = nI row.length ∧ cel G (z + 54 + 23) row)
theorem IK_st {z : Nat} {k : Int32} (h : List (List Nat)) (G G' : Wd) (hI : IK z k h G) (f : fxM (z + 54) [29] [] [21, 22] G G') : IK z k h G' := by
  obtain ⟨⟨a1, a2, a3⟩, a4⟩ := hI
  refine ⟨⟨by rw [f.I 31 (by decide)]; exact a1, by rw [f.I 35 (by decide)]; exact a2, by rw [f.I 22 (by decide)]; exact a3⟩, fun q => ?_⟩
  obtain ⟨b1, b2, b3⟩ := a4 q
  exact ⟨by rw [f.I 30 (by decide)]; exact b1, by rw [f.I 34 (by decide)]; exact b2, fun row k0 hr => ⟨by rw [f.I 33 (by decide)]; exact (b3 row k0 hr).1, (b3 row k0 hr).2.same (fun j => f.AI 23 j (by omega) (by decide))⟩⟩
theorem IK_visit {z : Nat} {T S : St} {k : Int32} (len : Nat) (h : List (List Nat)) (pre : List Nat) (G : Wd) (Q : Wd → Prop) (rec : Nat → Int32 → Int32 → Wd → (Wd → Prop) → Prop) (h9 : len ≤ 9) (hm : mid z G T S) (hI : IK z k h G) (cp : cel G (z + 54 + 22) pre) (hp : pre.length = len) (hQ : ∀ G', fxM (z + 54) goSI goSJ [19, 23] G G' → IK z k (h ++ [pre]) G' → Q G') : (if (gI G (z + 54) 30) = (gI G (z + 54) 31) then (∀ G93 : Wd, G93 = uI G (z + 54) 34 1 → ∀ G95 : Wd, G95 = uI G93 (z + 54) 33 (nI len) → ∃ m, wpX11_go_41 rec Q m (z + 54) (nI len) 0 G95) else (wpX11_go_64 rec Q (z + 54) G)) := by
  obtain ⟨⟨a1, a2, a3⟩, a4⟩ := hI
  have el : (h ++ [pre]).length = h.length + 1 := by rw [List.length_append]; rfl
  refine ifE (fun c G1 e1 G2 e2 => ⟨len + 1, ?_⟩) (fun c => ?_)
  · have f2 : fxM (z + 54) goSI goSJ [19, 23] G G2 := by
      rw [e2, e1]
      exact (fxM.rf.wI 34 _ (by decide)).wI 33 _ (by decide)
    have m2 := hm.fx f2 (by decide) (by decide) (by decide)
    refine M_keep m2 (cp.same (fun j => f2.AI 22 j (by omega) (by decide))) hp (by omega) (fun G3 f3 c3 => ?_) (len + 1) 0 G2 (by omega) (by omega) fxM.rf (fun j hj => absurd hj (Nat.not_lt_zero _))
    have f3' := f2.up f3 (fun _ q => nomatch q) (fun _ q => nomatch q) (by decide)
    have m3 := hm.fx f3' (by decide) (by decide) (by decide)
    have g3 : ∀ i, i ≠ 33 → i ≠ 34 → gI G3 (z + 54) i = gI G (z + 54) i := fun i q1 q2 => by rw [f3.I i (fun q => nomatch q), e2, gI_uI, if_neg (by omega), e1, gI_uI, if_neg (by omega)]
    have g33 : gI G3 (z + 54) 33 = nI len := by rw [f3.I 33 (fun q => nomatch q), e2, gI_uI, if_pos ⟨rfl, rfl⟩]
    have g34 : gI G3 (z + 54) 34 = 1 := by rw [f3.I 34 (fun q => nomatch q), e2, gI_uI, if_neg (by omega), e1, gI_uI, if_pos ⟨rfl, rfl⟩]
    unfold wpX11_go_64
    refine ⟨m3.K, ifP (by rw [g3 35 (by omega) (by omega)]; exact a2) ⟨m3.K, fun G4 e4 => ?_⟩⟩
    have g4 : ∀ i, i ≠ 30 → gI G4 (z + 54) i = gI G3 (z + 54) i := fun i q => by rw [e4, gI_uI, if_neg (by omega)]
    refine hQ G4 (by rw [e4]; exact f3'.wI 30 _ (by decide)) ⟨⟨by rw [g4 31 (by omega), g3 31 (by omega) (by omega)]; exact a1, by rw [g4 35 (by omega), g3 35 (by omega) (by omega)]; exact a2, by rw [g4 22 (by omega), g3 22 (by omega) (by omega)]; exact a3⟩, fun q => ?_⟩
    rw [el] at q
    obtain ⟨b1, b2, b3⟩ := a4 (by omega)
    rw [b1, a1] at c
    have kv : nv k = h.length := by rw [← c]; exact nv_nI (by omega)
    have k0 : (0 : Int32) ≤ k := by rw [← c, i_le, nI_toInt (by omega), il0]; omega
    refine ⟨by rw [e4, gI_uI, if_pos ⟨rfl, rfl⟩, g3 30 (by omega) (by omega), b1, el, nI_1], ?_, fun row _ hr => ?_⟩
    · rw [show hitK k (h ++ [pre]) = true from decide_eq_true ⟨k0, by rw [el, kv]; omega⟩, g4 34 (by omega), g34]; rfl
    · rw [kv, List.getElem?_append_right (Nat.le_refl _), Nat.sub_self] at hr
      have er : pre = row := Option.some.inj hr
      rw [← er, hp]
      exact ⟨by rw [g4 33 (by omega)]; exact g33, c3.same (fun j => by rw [e4, gI_uI, if_neg (by omega)])⟩
  · unfold wpX11_go_64
    refine ⟨hm.K, ifP a2 ⟨hm.K, fun G4 e4 => ?_⟩⟩
    have g4 : ∀ i, i ≠ 30 → gI G4 (z + 54) i = gI G (z + 54) i := fun i q => by rw [e4, gI_uI, if_neg (by omega)]
    refine hQ G4 (by rw [e4]; exact fxM.rf.wI 30 _ (by decide)) ⟨⟨by rw [g4 31 (by omega)]; exact a1, by rw [g4 35 (by omega)]; exact a2, by rw [g4 22 (by omega)]; exact a3⟩, fun q => ?_⟩
    rw [el] at q
    obtain ⟨b1, b2, b3⟩ := a4 (by omega)
    rw [b1, a1] at c
    have kv : (0 : Int32) ≤ k → nv k ≠ h.length := fun k0 e => c (by rw [← e]; exact (nI_nv (by rw [i_le, il0] at k0; exact k0)).symm)
    refine ⟨by rw [e4, gI_uI, if_pos ⟨rfl, rfl⟩, b1, el, nI_1], ?_, fun row k0 hr => ?_⟩
    · rw [g4 34 (by omega), b2]
      have : hitK k (h ++ [pre]) = hitK k h := by
        unfold hitK
        refine decide_eq_decide.mpr ⟨fun w => ⟨w.1, ?_⟩, fun w => ⟨w.1, by rw [el]; omega⟩⟩
        have w1 := kv w.1
        have w2 := w.2
        rw [el] at w2
        omega
      rw [this]
    · have hlt : nv k < h.length := by
        have w1 := kv k0
        have w2 := (List.getElem?_eq_some_iff.mp hr).1
        rw [el] at w2
        omega
      rw [List.getElem?_append_left hlt] at hr
      obtain ⟨c1, c2⟩ := b3 row k0 hr
      exact ⟨by rw [g4 33 (by omega)]; exact c1, c2.same (fun j => by rw [e4, gI_uI, if_neg (by omega)])⟩
/-- seek for way k (or, with k below 0, for all): what it leaves -/
theorem X11_seekK {z a b : Nat} {G : Wd} {T S : St} {p d k : Int32} {Q : Wd → Prop} (h : mid z G T S) (hi : Inv S) (ha : a < 10) (hb : b < 10) (hc : cntd (z + 54) G S p d (sM S))
    (hQ : ∀ G', fxM (z + 54) skSI goSJ [19, 21, 22, 23] G G' → gI G' (z + 54) 22 = 0 → (k < 0 → gI G' (z + 54) 30 = nI (wl S b (opl S p d (sM S)) a 10).length) → (0 ≤ k → (wl S b (opl S p d (sM S)) a 10)[nv k]? = none → gI G' (z + 54) 34 = 0) → (∀ row, 0 ≤ k → (wl S b (opl S p d (sM S)) a 10)[nv k]? = some row → gI G' (z + 54) 34 = 1 ∧ gI G' (z + 54) 33 = nI row.length ∧ cel G' (z + 54 + 23) row) → Q G') : wpX11_seek (z + 54) (nI a) (nI b) k 0 G Q := by
  obtain ⟨hl, h24⟩ := opl_ok hi p d
  refine X11_seek (I := IK z k) (hit := hitK k) (p := p) (d := d) h hi ha hb (Or.inl rfl) hc IK_st (fun len h pre G Q rec q1 q2 _ q4 q5 q6 _ q8 => IK_visit len h pre G Q rec q1 q2 q4 q5 q6 q8) (fun j G hj hI => ?_) (fun G' f e30 e31 e34 e35 e36 e22 => ⟨⟨e31, e35, e22⟩, fun _ => ⟨e30, ?_, fun row _ hr => nomatch hr⟩⟩) (fun j G' hj hh f hI => ?_)
  · have := wl_many S b (opl S p d (sM S)) a j hj h24
    exact (hI.2 (by omega)).2.1
  · rw [e34, show hitK k [] = false from decide_eq_false (fun q => absurd q.2 (Nat.not_lt_zero _))]; rfl
  · have hw := wl_many S b (opl S p d (sM S)) a j hj h24
    obtain ⟨b1, b2, b3⟩ := hI.2 (by omega)
    obtain ⟨m, hm⟩ := wl_pre S b (opl S p d (sM S)) a j (10 - j)
    rw [show j + (10 - j) = 10 by omega] at hm
    have hkk : (0 : Int32) ≤ k → ∀ row, (wl S b (opl S p d (sM S)) a 10)[nv k]? = some row → (wl S b (opl S p d (sM S)) a j)[nv k]? = some row := by
      intro k0 row hr
      rcases hh with q | q
      · rw [q]; exact hr
      · have := (of_decide_eq_true q.1).2
        rw [hm, List.getElem?_append_left this] at hr
        exact hr
    refine hQ G' f hI.1.2.2 (fun kn => ?_) (fun k0 hn => ?_) (fun row k0 hr => ?_)
    · rcases hh with q | q
      · rw [q] at b1; exact b1
      · have := q.2.2
        rw [i_le, il0] at this
        rw [i_lt, il0] at kn
        omega
    · rcases hh with q | q
      · rw [q] at b2
        rw [b2, show hitK k (wl S b (opl S p d (sM S)) a 10) = false from decide_eq_false (fun w => by
          have := List.getElem?_eq_none_iff.mp hn
          have := w.2
          omega)]; rfl
      · have := (of_decide_eq_true q.1).2
        rw [hm, List.getElem?_append_left this] at hn
        have := List.getElem?_eq_none_iff.mp hn
        omega
    · have hr' := hkk k0 row hr
      obtain ⟨c1, c2⟩ := b3 row k0 hr'
      refine ⟨?_, c1, c2⟩
      rw [b2, show hitK k (wl S b (opl S p d (sM S)) a j) = true from decide_eq_true ⟨k0, (List.getElem?_eq_some_iff.mp hr').1⟩]; rfl
/-! ways -/
abbrev awl (S : St) (p q : Int32) : List (List Nat) := wl S (nv p % 10) (opl S (q / 10000) (q % 10000) (sM S)) (nv p / 10) 10
def oWays (S : St) (p q : Int32) : Int64 := if rng p 0 99 ∧ rng q 0 79999 then lN (awl S p q).length else -9000000000000000001
theorem mid.cls {z : Nat} {G G' : Wd} {S T : St} {la lb : Nat → Nat} {P R : Nat → Prop} (hc : CR z G' S la lb) (hm : MR (z + 54) G T) (f : chg P R G G') (hp : ∀ b, z + 54 ≤ b → b ≤ z + 80 → ¬ P b ∧ ¬ R b) : mid z G' S T :=
  ⟨⟨la, lb, hc⟩, hm.chg f (fun o ho => hp _ (by omega) (by omega))⟩
theorem C_ways {z : Nat} {G : Wd} {S T : St} {p q : Int32} {Q : Int64 → Wd → Prop} (h : mid z G S T) (hi : Inv S) (hQ : ∀ G', mid z G' S T → Q (oWays S p q) G') : wpX10_ways z p q G Q := by
  unfold oWays at hQ
  have hb : ¬ (rng p 0 99 ∧ rng q 0 79999) → Q (-9000000000000000001) G := fun n => by have := hQ G h; rw [if_neg n] at this; exact this
  obtain ⟨⟨la, lb, hc⟩, hm⟩ := h
  unfold wpX10_ways
  refine X10_isPair (fun a => ifN (fun e => n10 e) (X10_isPlaceAndDay (fun b => ifN (fun e => n10 e) ⟨hc.K, ?_⟩) (fun b => ifP rfl (hb (fun c => b c.2))))) (fun a => ifP rfl (hb (fun c => a c.1)))
  rw [if_pos ⟨a, b⟩] at hQ
  obtain ⟨ea, eb, la10, lb10⟩ := ab_nI a
  obtain ⟨hl, h24⟩ := opl_ok hi (q / 10000) (q % 10000)
  refine X10_gather hc hi b (fun G1 f1 c1 o1 => ⟨c1.K, z + 33, c1.1.R 0 7 33 (by decide), c1.1.K 33 (by omega), fun G2 e2 => ?_⟩)
  have f2 : chg (fun b => b = z + 33) (fun _ => False) G1 G2 := by rw [e2]; exact chg.rf.wJ _ _ _ rfl
  have c2 := c1.dst (f2.mono (fun b q => by omega) (fun _ q => q))
  have o2 : opnd z G2 la (opl S (q / 10000) (q % 10000) (sM S)) := ⟨by rw [f2.I (by omega)]; exact o1.1, fun i hi' => by rw [f2.Rf (fun q => q)]; exact o1.2 i hi'⟩
  refine ⟨z + 5, c2.1.R 0 6 5 (by decide), z + 33, c2.1.R 0 7 33 (by decide), c2.1.K 5 (by omega), ?_⟩
  rw [ea, eb]
  refine X9_seekWays (σ := Nat) (step := fun n _ => n + 1) (stop := fun _ => false) (I := fun n G => gJ G (z + 33) 0 = lN n) c2 hi o2 hl h24 la10 lb10 (fun s G G' _ q2 q3 => by rw [q3.J (by omega)]; exact q2) (fun s pre G Q _ hc' hp hr h9 hI' ho' hQ' G25 e25 => ?_) (s := 0) rfl (by rw [e2, gJ_uJ, if_pos ⟨rfl, rfl⟩]; rfl) (fun G3 f3 I3 => ?_)
  · have f5 : chg (fun b => b = z + 5 ∨ b = z + 33) (fun _ => False) G G25 := by rw [e25]; exact chg.rf.wI _ _ _ (Or.inl rfl)
    refine Or.inl ⟨by rw [f5.K]; exact hc'.1.K 33 (by omega), by rw [f5.K]; exact hc'.1.K 33 (by omega), fun G6 e6 => ?_⟩
    have f6 : chg (fun b => b = z + 5 ∨ b = z + 33) (fun _ => False) G G6 := by rw [e6]; exact f5.wJ _ _ _ (Or.inr rfl)
    refine hQ' G6 ⟨f6.mono (fun b q => by omega) (fun _ q => q), fun j j3 j4 => by rw [e6, gI_uJ, e25, gI_uI, if_neg (by omega)]⟩ (f6.mono (fun b q => by omega) (fun _ q => q)) ?_ ?_
    · rw [e6, gJ_uJ, if_pos ⟨rfl, rfl⟩, e25, gJ_uI, hI']
      exact lN_addI
    · unfold ovr
      rw [e6, gI_uJ, e25, gI_uI, if_neg (by omega)]; exact ho'
  · have c3 := c2.dst f3
    have er : ∀ (L : List (List Nat)) (n : Nat), run (fun (n : Nat) _ => n + 1) (fun _ => false) n L = n + L.length := by
      intro L
      induction L with
      | nil => intro n; rfl
      | cons r L ih => intro n; show run _ _ (n + 1) L = _; rw [ih, List.length_cons]; omega
    rw [er, Nat.zero_add, ← wl_10] at I3
    refine ⟨c3.K, z + 33, c3.1.R 0 7 33 (by decide), c3.1.K 33 (by omega), ?_⟩
    rw [I3]
    refine hQ G3 (mid.cls c3 hm ((f1.mono (P' := fun b => z + 5 ≤ b ∧ b ≤ z + 45) (R' := fun b => b = z + 6) (fun b q => by omega) (fun _ q => q)).tr ((f2.mono (fun b q => by omega) (fun _ q => absurd q id)).tr (f3.mono (fun b q => by omega) (fun _ q => absurd q id)))) (fun b q1 q2 => ⟨by omega, by omega⟩))
theorem M_ways {z : Nat} {G : Wd} {S T : St} {p q : Int32} {Q : Int64 → Wd → Prop} (h : mid z G T S) (hi : Inv S) (hQ : ∀ G', mid z G' T S → Q (oWays S p q) G') : wpX11_ways (z + 54) p q G Q := by
  unfold oWays at hQ
  have hb : ¬ (rng p 0 99 ∧ rng q 0 79999) → Q (-9000000000000000001) G := fun n => by have := hQ G h; rw [if_neg n] at this; exact this
  unfold wpX11_ways
  refine X11_isPair (fun a => ifN (fun e => n10 e) (X11_isTime (fun b => ifN (fun e => n10 e) ⟨h.K, ?_⟩) (fun b => ifP rfl (hb (fun c => b c.2))))) (fun a => ifP rfl (hb (fun c => a c.1)))
  rw [if_pos ⟨a, b⟩] at hQ
  obtain ⟨ea, eb, la10, lb10⟩ := ab_nI a
  obtain ⟨hl, h24⟩ := opl_ok hi (q / 10000) (q % 10000)
  refine X11_findCounted h hi (pd_rng b).1 (fun G1 f1 h1 c1 => ⟨h1.K, ?_⟩)
  rw [ea, eb]
  refine X11_seekK h1 hi la10 lb10 c1 (fun G2 f2 _ e30 _ _ => ?_)
  have h2 := h1.fx f2 (by decide) (by decide) (by decide)
  refine ⟨h2.K, ?_⟩
  have hw := wl_many S (nv p % 10) (opl S (q / 10000) (q % 10000) (sM S)) (nv p / 10) 10 (by omega) h24
  rw [e30 (by decide), nI_64 (by omega)]
  exact hQ G2 h2
theorem ok_ways : ok2 wpX10_ways wpX11_ways := ⟨fun S p q => (oWays S p q, S), fun _ _ _ _ _ _ _ h hi hQ => C_ways h hi hQ, fun _ _ _ _ _ _ _ h hi hQ => M_ways h hi hQ, fun _ _ _ hi => hi⟩
/-! way -/
def oWay (S : St) (p q k i : Int32) : Int64 := if rng p 0 99 ∧ rng q 0 79999 ∧ 0 ≤ k ∧ 0 ≤ i then (match (awl S p q)[nv k]? with | none => -9000000000000000005 | some row => if nv i < row.length then lN (row.getD (nv i) 0) else -9000000000000000005) else -9000000000000000001
theorem C_way {z : Nat} {G : Wd} {S T : St} {p q k i : Int32} {Q : Int64 → Wd → Prop} (h : mid z G S T) (hi : Inv S) (hQ : ∀ G', mid z G' S T → Q (oWay S p q k i) G') : wpX10_way z p q k i G Q := by
  unfold oWay at hQ
  have hb : ¬ (rng p 0 99 ∧ rng q 0 79999 ∧ 0 ≤ k ∧ 0 ≤ i) → Q (-9000000000000000001) G := fun n => by have := hQ G h; rw [if_neg n] at this; exact this
  obtain ⟨⟨la, lb, hc⟩, hm⟩ := h
  unfold wpX10_way
  refine X10_isPair (fun a => ifN (fun e => n10 e) (X10_isPlaceAndDay (fun b => ifN (fun e => n10 e) (ifE (fun ck => hb (fun c => ?_)) (fun ck => ifE (fun ci => ⟨hc.K, ?_⟩) (fun ci => hb (fun c => ci c.2.2.2))))) (fun b => ifP rfl (hb (fun c => b c.2.1))))) (fun a => ifP rfl (hb (fun c => a c.1)))
  · have := c.2.2.1
    rw [i_le, il0] at this
    rw [i_lt, il0] at ck
    omega
  have k0 : (0 : Int32) ≤ k := by rw [i_le, il0]; rw [i_lt, il0] at ck; omega
  rw [if_pos ⟨a, b, k0, ci⟩] at hQ
  obtain ⟨ea, eb, la10, lb10⟩ := ab_nI a
  obtain ⟨hl, h24⟩ := opl_ok hi (q / 10000) (q % 10000)
  have k0' : 0 ≤ k.toInt := by rw [i_le, il0] at k0; exact k0
  have i0' : 0 ≤ i.toInt := by rw [i_le, il0] at ci; exact ci
  have kr := i_rng k
  have ir := i_rng i
  have kv := nv_i k0'
  have iv := nv_i i0'
  refine X10_gather hc hi b (fun G1 f1 c1 o1 => ⟨c1.K, z + 5, c1.1.R 0 6 5 (by decide), z + 34, c1.1.R 0 8 34 (by decide), c1.1.K 5 (by omega), ?_⟩)
  rw [ea, eb]
  have fin : ∀ G2, chg (aP z) (fun _ => False) G1 G2 → mid z G2 S T := fun G2 f2 => mid.cls (c1.dst f2) hm ((f1.mono (P' := fun b => z + 5 ≤ b ∧ b ≤ z + 45) (R' := fun b => b = z + 6) (fun b q => by omega) (fun _ q => q)).tr (f2.mono (fun b q => by omega) (fun _ q => absurd q id))) (fun b q1 q2 => ⟨by omega, by omega⟩)
  refine X9_pickWay (k := nv k) c1 hi o1 hl h24 la10 lb10 (by omega) (nI_nv k0') (fun hn G2 f2 => ifP rfl ?_) (fun row hr G2 f2 p2 e3 => ifN (fun e => n10 e) ?_)
  · have := hQ G2 (fin G2 f2)
    have hn' : (awl S p q)[nv k]? = none := hn
    rw [hn'] at this
    exact this
  · have := hQ G2 (fin G2 f2)
    have hr' : (awl S p q)[nv k]? = some row := hr
    have hrow := wl_row (S := S) (b := nv p % 10) (a := nv p / 10) (j := 10) hi.1.1 hl (by omega) row (List.mem_of_getElem? hr')
    rw [hr'] at this
    have c2 := c1.dst f2
    refine ⟨c2.K, z + 5, c2.1.R 0 6 5 (by decide), c2.1.K 5 (by omega), ?_⟩
    rw [e3]
    refine ifE (fun c => ⟨z + 5, c2.1.R 0 6 5 (by decide), c2.1.K 5 (by omega), z + 7, c2.1.R 5 2 7 (by decide), c2.1.K 7 (by omega), ?_⟩) (fun c => ?_)
    · rw [i_lt, nI_toInt (by omega)] at c
      refine ⟨by rw [c2.1.N 7 (by omega)]; exact vpn i0' (by show i.toInt < (10 : Nat); omega), ?_⟩
      have hx := (hrow.1 _ (getD_mem (l := row) (i := nv i) (by omega))).2
      rw [nv_c, p2.1 (nv i) (by omega), nI_64 (by omega)]
      dsimp only at this
      rw [if_pos (by omega)] at this
      exact this
    · rw [i_lt, nI_toInt (by omega)] at c
      dsimp only at this
      rw [if_neg (by omega)] at this
      exact this
theorem M_way {z : Nat} {G : Wd} {S T : St} {p q k i : Int32} {Q : Int64 → Wd → Prop} (h : mid z G T S) (hi : Inv S) (hQ : ∀ G', mid z G' T S → Q (oWay S p q k i) G') : wpX11_way (z + 54) p q k i G Q := by
  unfold oWay at hQ
  have hb : ¬ (rng p 0 99 ∧ rng q 0 79999 ∧ 0 ≤ k ∧ 0 ≤ i) → Q (-9000000000000000001) G := fun n => by have := hQ G h; rw [if_neg n] at this; exact this
  unfold wpX11_way
  refine X11_isPair (fun a => ifN (fun e => n10 e) (X11_isTime (fun b => ifN (fun e => n10 e) (ifE (fun ck => hb (fun c => ?_)) (fun ck => ifE (fun ci => ⟨h.K, ?_⟩) (fun ci => hb (fun c => ci c.2.2.2))))) (fun b => ifP rfl (hb (fun c => b c.2.1))))) (fun a => ifP rfl (hb (fun c => a c.1)))
  · have := c.2.2.1
    rw [i_le, il0] at this
    rw [i_lt, il0] at ck
    omega
  have k0 : (0 : Int32) ≤ k := by rw [i_le, il0]; rw [i_lt, il0] at ck; omega
  rw [if_pos ⟨a, b, k0, ci⟩] at hQ
  obtain ⟨ea, eb, la10, lb10⟩ := ab_nI a
  obtain ⟨hl, h24⟩ := opl_ok hi (q / 10000) (q % 10000)
  have i0' : 0 ≤ i.toInt := by rw [i_le, il0] at ci; exact ci
  have ir := i_rng i
  have iv := nv_i i0'
  refine X11_findCounted h hi (pd_rng b).1 (fun G1 f1 h1 c1 => ⟨h1.K, ?_⟩)
  rw [ea, eb]
  refine X11_seekK h1 hi la10 lb10 c1 (fun G2 f2 _ _ hn hs => ?_)
  have h2 := h1.fx f2 (by decide) (by decide) (by decide)
  have fin := hQ G2 h2
  refine ⟨h2.K, ?_⟩
  cases e : (awl S p q)[nv k]? with
  | none =>
    rw [e] at fin
    exact ifP (hn k0 e) fin
  | some row =>
    rw [e] at fin
    obtain ⟨b1, b2, b3⟩ := hs row k0 e
    have hrow := wl_row (S := S) (b := nv p % 10) (a := nv p / 10) (j := 10) hi.1.1 hl (by omega) row (List.mem_of_getElem? e)
    rw [b1, b2]
    refine ifN (fun e => n10 e) (ifE (fun c => ?_) (fun c => ?_))
    · rw [i_le, nI_toInt (by omega)] at c
      dsimp only at fin
      rw [if_neg (by omega)] at fin
      exact fin
    · rw [i_le, nI_toInt (by omega)] at c
      dsimp only at fin
      rw [if_pos (by omega)] at fin
      refine h2.2.at 23 32 20 25 rfl rfl rfl (by omega) (by omega) (vpn i0' (by show i.toInt < (25 : Nat); omega)) ?_
      have hx := (hrow.1 _ (getD_mem (l := row) (i := nv i) (by omega))).2
      rw [nv_c, b3 (nv i) (by omega), nI_64 (by omega)]
      exact fin
theorem ok_way : ok4 wpX10_way wpX11_way := ⟨fun S p q k i => (oWay S p q k i, S), fun _ _ _ _ _ _ _ _ _ h hi hQ => C_way h hi hQ, fun _ _ _ _ _ _ _ _ _ h hi hQ => M_way h hi hQ, fun _ _ _ _ _ hi => hi⟩
