/-! ===== reading a world behind a write ===== -/
section WR
variable (G : Wd) (a k b j : Nat)
theorem gI_uI (v : Int32) : gI (uI G a k v) b j = if b = a ∧ j = k then v else gI G b j := rfl
theorem gJ_uJ (v : Int64) : gJ (uJ G a k v) b j = if b = a ∧ j = k then v else gJ G b j := rfl
theorem gR_uR (v : Option Nat) : gR (uR G a k v) b j = if b = a ∧ j = k then v else gR G b j := rfl
theorem gI_uJ (v : Int64) : gI (uJ G a k v) = gI G := rfl
theorem gI_uR (v : Option Nat) : gI (uR G a k v) = gI G := rfl
theorem gJ_uI (v : Int32) : gJ (uI G a k v) = gJ G := rfl
theorem gJ_uR (v : Option Nat) : gJ (uR G a k v) = gJ G := rfl
theorem gR_uI (v : Int32) : gR (uI G a k v) = gR G := rfl
theorem gR_uJ (v : Int64) : gR (uJ G a k v) = gR G := rfl
theorem gK_uI (v : Int32) : gK (uI G a k v) = gK G := rfl
theorem gK_uJ (v : Int64) : gK (uJ G a k v) = gK G := rfl
theorem gK_uR (v : Option Nat) : gK (uR G a k v) = gK G := rfl
theorem gN_uI (v : Int32) : gN (uI G a k v) = gN G := rfl
theorem gN_uJ (v : Int64) : gN (uJ G a k v) = gN G := rfl
theorem gN_uR (v : Option Nat) : gN (uR G a k v) = gN G := rfl
theorem gZ_uI (v : Int32) : gZ (uI G a k v) = gZ G := rfl
theorem gZ_uJ (v : Int64) : gZ (uJ G a k v) = gZ G := rfl
theorem gZ_uR (v : Option Nat) : gZ (uR G a k v) = gZ G := rfl
end WR
/-! ===== fractions of the class: none is LARGE ===== -/
abbrev Fr : Type := Option (Int64 × Int64)
/-- the cell of a fraction holds it -/
def isF (G : Wd) (a : Nat) (o : Fr) : Prop := gK G a = 3 ∧ match o with
  | none => gI G a 2 = 1 ∧ gJ G a 0 = 0 ∧ gJ G a 1 = 1
  | some q => gI G a 2 = 0 ∧ gJ G a 0 = q.1 ∧ gJ G a 1 = q.2
def wF (G : Wd) (a : Nat) (o : Fr) : Wd := match o with
  | none => uJ (uJ (uI G a 2 1) a 0 0) a 1 1
  | some q => uJ (uJ (uI G a 2 0) a 0 q.1) a 1 q.2
theorem isF_wF {G : Wd} {a : Nat} (hk : gK G a = 3) (o : Fr) : isF (wF G a o) a o := by
  cases o <;> simp [isF, wF, gK_uJ, gK_uI, gI_uJ, gI_uI, gJ_uJ, hk]
theorem wF_K (G : Wd) (a : Nat) (o : Fr) : gK (wF G a o) = gK G := by cases o <;> rfl
theorem wF_N (G : Wd) (a : Nat) (o : Fr) : gN (wF G a o) = gN G := by cases o <;> rfl
theorem wF_Z (G : Wd) (a : Nat) (o : Fr) : gZ (wF G a o) = gZ G := by cases o <;> rfl
theorem wF_R (G : Wd) (a : Nat) (o : Fr) : gR (wF G a o) = gR G := by cases o <;> rfl
theorem wF_I {G : Wd} {a b : Nat} {o : Fr} {j : Nat} (h : b ≠ a) : gI (wF G a o) b j = gI G b j := by
  cases o <;> simp [wF, gI_uJ, gI_uI, h]
theorem wF_J {G : Wd} {a b : Nat} {o : Fr} {j : Nat} (h : b ≠ a) : gJ (wF G a o) b j = gJ G b j := by
  cases o <;> simp [wF, gJ_uJ, gJ_uI, h]
theorem wF_same {G : Wd} {a b : Nat} {o : Fr} (h : b ≠ a) : sameAt G (wF G a o) b := ⟨by rw [wF_K], by rw [wF_N], fun _ => wF_I h, fun _ => wF_J h, fun _ => by rw [wF_R]⟩
theorem X2_settle {G : Wd} {a : Nat} {f : Int32} {u d : Int64} {Q : Wd → Prop} (hk : gK G a = 3) (hB : isB f) (h : Q (wF G a (if f = 0 then some (u, d) else none))) : wpX2_settle a f u d G Q := by
  unfold wpX2_settle
  refine ⟨hk, hB, fun G6 h6 => ?_⟩
  rcases hB with hB | hB
  · subst hB; subst h6
    rw [if_pos rfl] at h ⊢
    refine ⟨hk, fun G4 h4 => ?_⟩
    rw [if_pos rfl]
    refine ⟨by rw [h4]; exact hk, fun G2 h2 => ?_⟩
    subst h2; subst h4
    exact h
  · subst hB; subst h6
    rw [if_neg (by decide)] at h ⊢
    refine ⟨hk, fun G4 h4 => ?_⟩
    rw [if_neg (by decide)]
    refine ⟨by rw [h4]; exact hk, fun G2 h2 => ?_⟩
    subst h2; subst h4
    exact h
theorem X2_become {G : Wd} {a : Nat} {u d : Int64} {Q : Wd → Prop} (hk : gK G a = 3) (hu : -9223372036854775808 < u.toInt) (hd : -9223372036854775808 < d.toInt) (h : Q (wF G a (some (u / lN (max (jg u d) 1), d / lN (max (jg u d) 1))))) : wpX2_become a u d G Q := by
  unfold wpX2_become
  have hg : ¬ lN (max (jg u d) 1) = 0 := by
    have h1 : jg u d ≤ 9223372036854775807 := by
      unfold jg
      by_cases h0 : nA u = 0
      · rw [h0]; simp; have := nA_lt hd; omega
      · have := Nat.gcd_le_left (nA d) (show 0 < nA u by omega)
        have := nA_lt hu
        omega
    rw [lN_z (by omega)]
    omega
  refine X2_cd hu hd ⟨hk, fun G4 h4 => ⟨hg, fun G7 h7 => ⟨hg, fun G10 h10 => ?_⟩⟩⟩
  subst h10; subst h7; subst h4
  exact h
theorem X2_copy {G : Wd} {a b : Nat} {o : Fr} {Q : Wd → Prop} (hk : gK G a = 3) (hb : isF G b o) (hab : b ≠ a) (h : Q (wF G a o)) : wpX2_become_ a b G Q := by
  unfold wpX2_become_
  obtain ⟨kb, hb⟩ := hb
  cases o with
  | none =>
    obtain ⟨h1, h2, h3⟩ := hb
    refine ⟨kb, hk, by rw [h1]; exact Or.inr rfl, fun G3 h3' G7 h7 G10 h10 => ?_⟩
    subst h10; subst h7; subst h3'
    simp only [gJ_uJ, gJ_uI, h1, h2, h3, hab, false_and, if_false]
    exact h
  | some q =>
    obtain ⟨h1, h2, h3⟩ := hb
    refine ⟨kb, hk, by rw [h1]; exact Or.inl rfl, fun G3 h3' G7 h7 G10 h10 => ?_⟩
    subst h10; subst h7; subst h3'
    simp only [gJ_uJ, gJ_uI, h1, h2, h3, hab, false_and, if_false]
    exact h
/-! the product, as both work it out -/
def T15 : Nat := 1000000000000000
def g1 (x y : Int64) : Int64 := lN (max (jg x y) 1)
theorem g1_ne {x y : Int64} (hx : -9223372036854775808 < x.toInt) (hy : -9223372036854775808 < y.toInt) : ¬ g1 x y = 0 := by
  unfold g1
  have h1 : jg x y ≤ 9223372036854775807 := by
    unfold jg
    by_cases h0 : nA x = 0
    · rw [h0]; simp; have := nA_lt hy; omega
    · have := Nat.gcd_le_left (nA y) (show 0 < nA x by omega)
      have := nA_lt hx
      omega
  rw [lN_z (by omega)]
  omega
def fmul (o : Fr) (a b : Int64) : Fr := match o with
  | none => none
  | some q => if T15 ≤ nA (q.1 / g1 q.1 b) * nA (a / g1 q.2 a) ∨ T15 ≤ nA (q.2 / g1 q.2 a) * nA (b / g1 q.1 b) then none
    else some (q.1 / g1 q.1 b * (a / g1 q.2 a), q.2 / g1 q.2 a * (b / g1 q.1 b))
/-- not the least long -/
def nm (x : Int64) : Prop := -9223372036854775808 < x.toInt
theorem nm_div {x y : Int64} (hx : nm x) : nm (x / y) := by
  unfold nm at *
  have e : (x / y).toInt = x.toInt.tdiv y.toInt := by
    refine Int64.toInt_div_of_ne_left x y (fun h => ?_)
    rw [h] at hx
    exact absurd hx (by decide)
  have := (l_rng x).2
  have h1 : (x.toInt.tdiv y.toInt).natAbs ≤ x.toInt.natAbs := by
    rw [Int.natAbs_tdiv]; exact Nat.div_le_self _ _
  rw [e]
  omega
def okF (o : Fr) : Prop := match o with
  | none => True
  | some q => nm q.1 ∧ nm q.2
theorem X2_prod {G : Wd} {a b : Nat} {o : Fr} {x y : Int64} {Q : Wd → Prop} (hk : gK G a = 3) (hb : isF G b o) (ho : okF o) (hx : nm x) (hy : nm y) (h : Q (wF G a (fmul o x y))) : wpX2_becomeProduct a b x y G Q := by
  unfold wpX2_becomeProduct
  obtain ⟨kb, hb⟩ := hb
  have h75 : ∀ (f : Int32) (u d : Int64), gJ G b 0 = u → gJ G b 1 = d → nm u → nm d → isB f → Q (wF G a (if f = 0 then some (u / g1 u y * (x / g1 d x), d / g1 d x * (y / g1 u y)) else none)) → wpX2_becomeProduct_75 Q b x y (g1 u y) (g1 d x) a f G := by
    intro f u d e1 e2 hu hd hf hq
    unfold wpX2_becomeProduct_75
    refine ⟨kb, g1_ne hu hy, g1_ne hd hx, g1_ne hd hx, g1_ne hu hy, hk, ?_⟩
    rw [e1, e2]
    exact X2_settle hk hf hq
  cases o with
  | none =>
    obtain ⟨h1, h2, h3⟩ := hb
    have n0 : nm 0 := by unfold nm; decide
    have n1 : nm 1 := by unfold nm; decide
    refine ⟨kb, ?_⟩
    rw [h2]
    refine X2_cd n0 hy ⟨kb, ?_⟩
    rw [h3]
    refine X2_cd n1 hx ⟨kb, ?_⟩
    rw [h1, if_neg (by decide)]
    exact h75 1 0 1 h2 h3 n0 n1 (Or.inr rfl) (by rw [if_neg (by decide)]; exact h)
  | some q =>
    obtain ⟨u, d⟩ := q
    obtain ⟨h1, h2, h3⟩ := hb
    obtain ⟨hu, hd⟩ := ho
    simp only at h2 h3 hu hd
    refine ⟨kb, ?_⟩
    rw [h2]
    refine X2_cd hu hy ⟨kb, ?_⟩
    rw [h3]
    refine X2_cd hd hx ⟨kb, ?_⟩
    rw [h1, if_pos rfl]
    refine ⟨g1_ne hu hy, g1_ne hd hx, ?_⟩
    rw [h2]
    refine X2_reaches (t := T15) (nm_div hu) (nm_div hx) rfl (by decide) (by decide) ?_
    change Q (wF G a (if T15 ≤ nA (u / g1 u y) * nA (x / g1 d x) ∨ T15 ≤ nA (d / g1 d x) * nA (y / g1 u y) then none else some (u / g1 u y * (x / g1 d x), d / g1 d x * (y / g1 u y)))) at h
    by_cases c1 : T15 ≤ nA (u / g1 u y) * nA (x / g1 d x)
    · rw [if_pos (Or.inl c1)] at h
      show if (if T15 ≤ nA (u / g1 u y) * nA (x / g1 d x) then (1 : Int32) else 0) = 0 then _ else _
      rw [if_pos c1, if_neg (by decide)]
      exact h75 1 u d h2 h3 hu hd (Or.inr rfl) (by rw [if_neg (by decide)]; exact h)
    · show if (if T15 ≤ nA (u / g1 u y) * nA (x / g1 d x) then (1 : Int32) else 0) = 0 then _ else _
      rw [if_neg c1, if_pos rfl]
      refine ⟨kb, g1_ne hd hx, g1_ne hu hy, ?_⟩
      rw [h3]
      refine X2_reaches (t := T15) (nm_div hd) (nm_div hy) rfl (by decide) (by decide) ?_
      show if (if T15 ≤ nA (d / g1 d x) * nA (y / g1 u y) then (1 : Int32) else 0) = 0 then _ else _
      by_cases c2 : T15 ≤ nA (d / g1 d x) * nA (y / g1 u y)
      · rw [if_pos (Or.inr c2)] at h
        rw [if_pos c2, if_neg (by decide)]
        exact h75 1 u d h2 h3 hu hd (Or.inr rfl) (by rw [if_neg (by decide)]; exact h)
      · rw [if_neg (fun q => q.elim c1 c2)] at h
        rw [if_neg c2, if_pos rfl]
        exact h75 0 u d h2 h3 hu hd (Or.inl rfl) (by rw [if_pos rfl]; exact h)
