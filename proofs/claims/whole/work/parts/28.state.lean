/-! ===== the state: what the reference's rows hold (by their offsets: 1 lies, 2 kind, 3 from, 4 to, 5 over, 6 under, 7 place, 8 first, 9 last, 10 worth, 11 spread, 12 dropped, 13 customs, 14 steps, 15 amounts, 16 measures, 17 where, 18 when), how many likenesses, how many lines ===== -/
abbrev St : Type := (Nat → Nat → Int32) × Nat × Nat
def sA (S : St) (o i : Nat) : Int32 := S.1 o i
def sM (S : St) : Nat := S.2.1
def sL (S : St) : Nat := S.2.2
def sSet (S : St) (o i : Nat) (v : Int32) : St := (u2 S.1 o i v, S.2.1, S.2.2)
theorem sA_set (S : St) (o i : Nat) (v : Int32) (o' i' : Nat) : sA (sSet S o i v) o' i' = if o' = o ∧ i' = i then v else sA S o' i' := rfl
/-- the reference's rows: kinds, lengths, fields -/
def mKd (o : Nat) : Nat := match o with
  | 12 => 22 | 19 => 21 | 20 => 22 | 24 => 22 | 26 => 21 | _ => 20
def mNs (o : Nat) : Nat := match o with
  | 1 => 8 | 13 => 4 | 14 => 20 | 15 => 20 | 16 => 20 | 17 => 20 | 18 => 20 | 19 => 12 | 21 => 11 | 22 => 25 | 23 => 25 | 24 => 1024 | 26 => 80 | _ => 24
def mFd (o : Nat) : Nat := match o with
  | 1 => 0 | 15 => 16 | 16 => 17 | 17 => 18 | 18 => 19 | 19 => 25 | 20 => 26 | 21 => 27 | 22 => 28 | 23 => 32 | 24 => 42 | 25 => 43 | 26 => 45 | o => o
def msh (m : Nat) (G : Wd) : Prop := gK G m = 11 ∧ ∀ o, 1 ≤ o → o ≤ 26 → gK G (m + o) = mKd o ∧ gN G (m + o) = mNs o ∧ gR G m (mFd o) = some (m + o)
/-- the reference's cells hold the state -/
def MR (m : Nat) (G : Wd) (S : St) : Prop := msh m G ∧ gI G m 1 = nI (sM S) ∧ gI G m 15 = nI (sL S) ∧ ∀ o, 1 ≤ o → o ≤ 18 → ∀ i, i < mNs o → gI G (m + o) i = sA S o i
theorem msh.fx {m : Nat} {G G' : Wd} {SI SJ AR : List Nat} (h : msh m G) (f : fxM m SI SJ AR G G') : msh m G' :=
  ⟨by rw [f.K]; exact h.1, fun o h1 h2 => ⟨by rw [f.K]; exact (h.2 o h1 h2).1, by rw [f.N]; exact (h.2 o h1 h2).2.1, by rw [f.R]; exact (h.2 o h1 h2).2.2⟩⟩
/-- what is scratch may change -/
theorem MR.fx {m : Nat} {G G' : Wd} {S : St} {SI SJ AR : List Nat} (h : MR m G S) (f : fxM m SI SJ AR G G') (h1 : 1 ∉ SI) (h2 : 15 ∉ SI) (h3 : ∀ o ∈ AR, 18 < o) : MR m G' S := by
  refine ⟨h.1.fx f, by rw [f.I 1 h1]; exact h.2.1, by rw [f.I 15 h2]; exact h.2.2.1, fun o a b i hi => ?_⟩
  rw [f.AI o i (by omega) (fun z => by have := h3 o z; omega)]
  exact h.2.2.2 o a b i hi
/-! ===== the class's cells ===== -/
def cKd (o : Nat) : Nat := match o with
  | 0 => 10 | 1 => 20 | 2 => 25 | 3 => 23 | 4 => 26 | 5 => 9 | 6 => 25 | 7 => 20 | 8 => 24 | 9 => 24 | 10 => 20 | 33 => 1 | 34 => 7 | 35 => 8 | 38 => 4 | 39 => 20 | 40 => 25 | 41 => 20 | 42 => 22 | 46 => 2 | 47 => 20 | 48 => 2 | 49 => 20 | 50 => 2 | 51 => 20 | 52 => 2 | 53 => 20 | _ => 3
def cNs (o : Nat) : Nat := match o with
  | 1 => 8 | 2 => 24 | 3 => 4 | 4 => 20 | 6 => 24 | 7 => 10 | 8 => 11 | 9 => 11 | 10 => 10 | 39 => 10 | 40 => 10 | 41 => 24 | 42 => 1024 | 47 => 5 | 49 => 5 | 51 => 5 | 53 => 5 | _ => 0
def cRf : List (Nat × Nat × Nat) := [(0, 0, 1), (0, 1, 2), (0, 3, 3), (0, 4, 4), (0, 6, 5), (0, 7, 33), (0, 8, 34), (0, 9, 35), (0, 10, 38), (0, 11, 43), (0, 12, 44), (0, 13, 45),
  (5, 0, 6), (5, 2, 7), (5, 5, 8), (5, 6, 9), (5, 7, 10),
  (8, 0, 11), (9, 0, 12), (8, 1, 13), (9, 1, 14), (8, 2, 15), (9, 2, 16), (8, 3, 17), (9, 3, 18), (8, 4, 19), (9, 4, 20), (8, 5, 21), (9, 5, 22), (8, 6, 23), (9, 6, 24), (8, 7, 25), (9, 7, 26), (8, 8, 27), (9, 8, 28), (8, 9, 29), (9, 9, 30), (8, 10, 31), (9, 10, 32),
  (35, 0, 36), (35, 1, 37), (38, 0, 39), (38, 3, 40), (38, 5, 41), (38, 6, 42), (3, 0, 46), (3, 1, 48), (3, 2, 50), (3, 3, 52), (46, 0, 47), (48, 0, 49), (50, 0, 51), (52, 0, 53)]
def csh (z : Nat) (G : Wd) : Prop := (∀ o, o < 54 → gK G (z + o) = cKd o ∧ gN G (z + o) = cNs o) ∧ ∀ q ∈ cRf, gR G (z + q.1) q.2.1 = some (z + q.2.2)
theorem csh.K {z : Nat} {G : Wd} (h : csh z G) (o : Nat) (ho : o < 54) : gK G (z + o) = cKd o := (h.1 o ho).1
theorem csh.N {z : Nat} {G : Wd} (h : csh z G) (o : Nat) (ho : o < 54) : gN G (z + o) = cNs o := (h.1 o ho).2
theorem csh.R {z : Nat} {G : Wd} (h : csh z G) (o k p : Nat) (hq : (o, k, p) ∈ cRf) : gR G (z + o) k = some (z + p) := h.2 (o, k, p) hq
/-! the ends of a likeness -/
def red (n d : Nat) : Int64 × Int64 := (lN (n / Nat.gcd n d), lN (d / Nat.gcd n d))
def nv (x : Int32) : Nat := x.toInt.toNat
def isDb (k : Nat) : Bool := k == 2 || k == 4
def isHp (k : Nat) : Bool := k == 1 || k == 3
def lsh (S : St) (k : Nat) : Nat := if isDb (nv (sA S 2 k)) then 1000 - nv (sA S 11 k) else if isHp (nv (sA S 2 k)) then 1000 + nv (sA S 11 k) else 1000
def hsh (S : St) (k : Nat) : Nat := if isDb (nv (sA S 2 k)) || isHp (nv (sA S 2 k)) then 1000 + nv (sA S 11 k) else 1000
def wid (S : St) (k : Nat) : Nat := if nv (sA S 2 k) = 4 then 2 else 1
def endL (S : St) (k : Nat) : Int64 × Int64 := red (nv (sA S 5 k) * lsh S k) (nv (sA S 6 k) * 1000 * wid S k)
def endH (S : St) (k : Nat) : Int64 × Int64 := red (nv (sA S 5 k) * hsh S k * wid S k) (nv (sA S 6 k) * 1000)
/-- a likeness's three cells -/
def lkAt (G : Wd) (S : St) (a k : Nat) : Prop := gK G a = 5 ∧ gI G a 0 = nI k ∧ (∀ f, 1 ≤ f → f ≤ 5 → gI G a f = sA S (f + 1) k) ∧ (∀ f, 8 ≤ f → f ≤ 13 → gI G a f = sA S (f - 1) k) ∧ gR G a 6 = some (a + 1) ∧ gR G a 7 = some (a + 2) ∧ isF G (a + 1) (some (endL S k)) ∧ isF G (a + 2) (some (endH S k))
/-- a line's three cells -/
def lnAt (G : Wd) (S : St) (b j : Nat) : Prop := gK G b = 6 ∧ gI G b 0 = sA S 16 j ∧ gI G b 1 = sA S 17 j ∧ gI G b 2 = sA S 18 j ∧ gI G b 5 = sA S 15 j ∧ gR G b 3 = some (b + 1) ∧ gR G b 4 = some (b + 2) ∧ gK G (b + 1) = 3 ∧ gK G (b + 2) = 3
/-- where the likenesses (la) and lines (lb) lie: three cells each, apart -/
def apart (z Z M N : Nat) (la lb : Nat → Nat) : Prop := (∀ k, k < M → z + 81 ≤ la k ∧ la k + 3 ≤ Z) ∧ (∀ j, j < N → z + 81 ≤ lb j ∧ lb j + 3 ≤ Z) ∧ (∀ k k', k < k' → k' < M → la k + 3 ≤ la k') ∧ (∀ j j', j < j' → j' < N → lb j + 3 ≤ lb j') ∧ (∀ k j, k < M → j < N → la k + 3 ≤ lb j ∨ lb j + 3 ≤ la k) ∧ z + 81 ≤ Z
def cuAt (z : Nat) (G : Wd) (S : St) : Prop := ∀ c, c < 4 → gI G (z + (46 + 2 * c)) 2 = (if sA S 13 c < 0 then 1 else 0) ∧ (¬ sA S 13 c < 0 → gI G (z + (46 + 2 * c)) 1 = sA S 13 c ∧ ∀ i, i < 5 → gI G (z + (47 + 2 * c)) i = sA S 14 (5 * c + i))
/-- the class's cells hold the state -/
def CR (z : Nat) (G : Wd) (S : St) (la lb : Nat → Nat) : Prop := csh z G ∧ (isF G (z + 11) (some (1, 1)) ∧ isF G (z + 12) (some (1, 1))) ∧ (∀ i, i < 8 → gI G (z + 1) i = sA S 1 i) ∧ (gI G z 2 = nI (sM S) ∧ gI G z 5 = nI (sL S)) ∧ (∀ k, k < sM S → gR G (z + 2) k = some (la k) ∧ lkAt G S (la k) k) ∧ (∀ j, j < sL S → gR G (z + 4) j = some (lb j) ∧ lnAt G S (lb j) j) ∧ apart z (gZ G) (sM S) (sL S) la lb ∧ cuAt z G S
/-- ranges -/
abbrev rng (x : Int32) (lo hi : Int) : Prop := lo ≤ x.toInt ∧ x.toInt ≤ hi
def Inv (S : St) : Prop := (sM S ≤ 24 ∧ sL S ≤ 20) ∧ (∀ p, p < 8 → 0 ≤ (sA S 1 p).toInt ∧ ((sA S 1 p).toInt < p ∨ p = 0 ∧ (sA S 1 p).toInt = 0)) ∧
  (∀ k, k < sM S → rng (sA S 2 k) 0 4 ∧ rng (sA S 3 k) 0 9 ∧ rng (sA S 4 k) 0 9 ∧ rng (sA S 5 k) 1 1000 ∧ rng (sA S 6 k) 1 1000 ∧ rng (sA S 7 k) 0 7 ∧ rng (sA S 8 k) 0 9999 ∧ rng (sA S 9 k) 0 9999 ∧ rng (sA S 10 k) 0 100 ∧ rng (sA S 11 k) 0 500 ∧ rng (sA S 12 k) 0 1) ∧
  (∀ c, c < 4 → rng (sA S 13 c) (-1) 5) ∧ (∀ c i, c < 4 → i < 5 → ¬ sA S 13 c < 0 → rng (sA S 14 (5 * c + i)) 2 1000) ∧
  (∀ j, j < sL S → rng (sA S 15 j) (-1000000) 1000000 ∧ rng (sA S 16 j) 0 9 ∧ rng (sA S 17 j) 0 7 ∧ rng (sA S 18 j) 0 9999)
/-! ===== what changes ===== -/
/-- ints and longs of the cells P alone, references of the cells R alone -/
def chg (P R : Nat → Prop) (G G' : Wd) : Prop := (gZ G' = gZ G ∧ gK G' = gK G ∧ gN G' = gN G) ∧ (∀ b, ¬ P b → (∀ j, gI G' b j = gI G b j) ∧ ∀ j, gJ G' b j = gJ G b j) ∧ ∀ b, ¬ R b → ∀ j, gR G' b j = gR G b j
theorem chg.rf {P R : Nat → Prop} {G : Wd} : chg P R G G := ⟨⟨rfl, rfl, rfl⟩, fun _ _ => ⟨fun _ => rfl, fun _ => rfl⟩, fun _ _ _ => rfl⟩
theorem chg.tr {P R : Nat → Prop} {G G1 G2 : Wd} (h : chg P R G G1) (h' : chg P R G1 G2) : chg P R G G2 :=
  ⟨⟨h'.1.1.trans h.1.1, h'.1.2.1.trans h.1.2.1, h'.1.2.2.trans h.1.2.2⟩, fun b hb => ⟨fun j => ((h'.2.1 b hb).1 j).trans ((h.2.1 b hb).1 j), fun j => ((h'.2.1 b hb).2 j).trans ((h.2.1 b hb).2 j)⟩, fun b hb j => (h'.2.2 b hb j).trans (h.2.2 b hb j)⟩
theorem chg.mono {P R P' R' : Nat → Prop} {G G1 : Wd} (h : chg P R G G1) (hp : ∀ b, P b → P' b) (hr : ∀ b, R b → R' b) : chg P' R' G G1 :=
  ⟨h.1, fun b hb => h.2.1 b (fun q => hb (hp b q)), fun b hb => h.2.2 b (fun q => hb (hr b q))⟩
theorem chg.wI {P R : Nat → Prop} {G G1 : Wd} (h : chg P R G G1) (a k : Nat) (v : Int32) (ha : P a) : chg P R G (uI G1 a k v) :=
  h.tr ⟨⟨rfl, rfl, rfl⟩, fun b hb => ⟨fun j => by rw [gI_uI, if_neg (fun q => hb (by rw [q.1]; exact ha))], fun _ => rfl⟩, fun _ _ _ => rfl⟩
theorem chg.wJ {P R : Nat → Prop} {G G1 : Wd} (h : chg P R G G1) (a k : Nat) (v : Int64) (ha : P a) : chg P R G (uJ G1 a k v) :=
  h.tr ⟨⟨rfl, rfl, rfl⟩, fun b hb => ⟨fun _ => rfl, fun j => by rw [gJ_uJ, if_neg (fun q => hb (by rw [q.1]; exact ha))]⟩, fun _ _ _ => rfl⟩
theorem chg.wR {P R : Nat → Prop} {G G1 : Wd} (h : chg P R G G1) (a k : Nat) (v : Option Nat) (ha : R a) : chg P R G (uR G1 a k v) :=
  h.tr ⟨⟨rfl, rfl, rfl⟩, fun b hb => ⟨fun _ => rfl, fun _ => rfl⟩, fun b hb j => by rw [gR_uR, if_neg (fun q => hb (by rw [q.1]; exact ha))]⟩
theorem chg.wF {P R : Nat → Prop} {G G1 : Wd} (h : chg P R G G1) (a : Nat) (o : Fr) (ha : P a) : chg P R G (wF G1 a o) :=
  h.tr ⟨⟨wF_Z _ _ _, wF_K _ _ _, wF_N _ _ _⟩, fun b hb => ⟨fun j => wF_I (fun e => hb (by rw [e]; exact ha)), fun j => wF_J (fun e => hb (by rw [e]; exact ha))⟩, fun _ _ _ => by rw [wF_R]⟩
theorem chg.K {P R : Nat → Prop} {G G1 : Wd} (h : chg P R G G1) (b : Nat) : gK G1 b = gK G b := by rw [h.1.2.1]
theorem chg.N {P R : Nat → Prop} {G G1 : Wd} (h : chg P R G G1) (b : Nat) : gN G1 b = gN G b := by rw [h.1.2.2]
theorem chg.I {P R : Nat → Prop} {G G1 : Wd} (h : chg P R G G1) {b : Nat} (hb : ¬ P b) (j : Nat) : gI G1 b j = gI G b j := (h.2.1 b hb).1 j
theorem chg.J {P R : Nat → Prop} {G G1 : Wd} (h : chg P R G G1) {b : Nat} (hb : ¬ P b) (j : Nat) : gJ G1 b j = gJ G b j := (h.2.1 b hb).2 j
theorem chg.Rf {P R : Nat → Prop} {G G1 : Wd} (h : chg P R G G1) {b : Nat} (hb : ¬ R b) (j : Nat) : gR G1 b j = gR G b j := h.2.2 b hb j
theorem fxM.chg {m : Nat} {SI SJ AR : List Nat} {G G' : Wd} (h : fxM m SI SJ AR G G') (ha : ∀ o ∈ AR, o ≤ 26) : chg (fun b => m ≤ b ∧ b ≤ m + 26) (fun _ => False) G G' :=
  ⟨⟨h.1.1, h.1.2.1, h.1.2.2.1⟩, fun b hb => h.2.2.2 b (fun e => hb ⟨by omega, by omega⟩) (fun o ho e => hb ⟨by omega, by have := ha o ho; omega⟩), fun b _ j => by rw [h.1.2.2.2]⟩
theorem isF.keep {P R : Nat → Prop} {G G' : Wd} {a : Nat} {o : Fr} (h : isF G a o) (f : chg P R G G') (ha : ¬ P a) : isF G' a o := by
  obtain ⟨h1, h2⟩ := h
  refine ⟨by rw [f.K]; exact h1, ?_⟩
  cases o with
  | none => exact ⟨by rw [f.I ha]; exact h2.1, by rw [f.J ha]; exact h2.2.1, by rw [f.J ha]; exact h2.2.2⟩
  | some q => exact ⟨by rw [f.I ha]; exact h2.1, by rw [f.J ha]; exact h2.2.1, by rw [f.J ha]; exact h2.2.2⟩
/-- the class's state stays, if none of its own cells was written: the scratch (trail, goals, sums) may be, and the lines' fractions -/
def scr (z : Nat) (b : Nat) : Prop := z + 5 ≤ b ∧ b ≤ z + 45 ∧ b ≠ z + 11 ∧ b ≠ z + 12
theorem CR.keep {z : Nat} {G G' : Wd} {S : St} {la lb : Nat → Nat} {P R : Nat → Prop} (h : CR z G S la lb) (f : chg P R G G')
    (hz : ∀ o, o < 54 → (o ≤ 4 ∨ o = 11 ∨ o = 12 ∨ 46 ≤ o) → ¬ P (z + o)) (hr : ∀ q ∈ cRf, ¬ R (z + q.1)) (hr2 : ¬ R (z + 2)) (hr4 : ¬ R (z + 4))
    (hk : ∀ k, k < sM S → ∀ i, i < 3 → ¬ P (la k + i) ∧ ¬ R (la k + i)) (hl : ∀ j, j < sL S → ¬ P (lb j) ∧ ¬ R (lb j)) : CR z G' S la lb := by
  obtain ⟨h1, ⟨h2a, h2b⟩, h3, ⟨h4a, h4b⟩, h5, h6, h7, h8⟩ := h
  have hz0 : ¬ P z := hz 0 (by omega) (by omega)
  refine ⟨⟨fun o ho => ⟨by rw [f.K]; exact (h1.1 o ho).1, by rw [f.N]; exact (h1.1 o ho).2⟩, fun q hq => by rw [f.Rf (hr q hq)]; exact h1.2 q hq⟩, ⟨h2a.keep f (hz 11 (by omega) (by omega)), h2b.keep f (hz 12 (by omega) (by omega))⟩, fun i hi => by rw [f.I (hz 1 (by omega) (by omega))]; exact h3 i hi, ⟨by rw [f.I hz0]; exact h4a, by rw [f.I hz0]; exact h4b⟩, fun k hk' => ?_, fun j hj => ?_, by rw [f.1.1]; exact h7, fun c hc => ?_⟩
  · obtain ⟨a1, b1, b2, b3, b4, b5, b6, b7, b8⟩ := h5 k hk'
    have n0 : ¬ P (la k) ∧ ¬ R (la k) := hk k hk' 0 (by omega)
    have n1 := hk k hk' 1 (by omega)
    have n2 := hk k hk' 2 (by omega)
    exact ⟨by rw [f.Rf hr2]; exact a1, by rw [f.K]; exact b1, by rw [f.I n0.1]; exact b2, fun g g1 g2 => by rw [f.I n0.1]; exact b3 g g1 g2, fun g g1 g2 => by rw [f.I n0.1]; exact b4 g g1 g2, by rw [f.Rf n0.2]; exact b5, by rw [f.Rf n0.2]; exact b6, b7.keep f n1.1, b8.keep f n2.1⟩
  · obtain ⟨a1, b1, b2, b3, b4, b5, b6, b7, b8, b9⟩ := h6 j hj
    have n0 := hl j hj
    exact ⟨by rw [f.Rf hr4]; exact a1, by rw [f.K]; exact b1, by rw [f.I n0.1]; exact b2, by rw [f.I n0.1]; exact b3, by rw [f.I n0.1]; exact b4, by rw [f.I n0.1]; exact b5, by rw [f.Rf n0.2]; exact b6, by rw [f.Rf n0.2]; exact b7, by rw [f.K]; exact b8, by rw [f.K]; exact b9⟩
  · obtain ⟨a1, a2⟩ := h8 c hc
    have n1 := hz (46 + 2 * c) (by omega) (by omega)
    have n2 := hz (47 + 2 * c) (by omega) (by omega)
    exact ⟨by rw [f.I n1]; exact a1, fun q => ⟨by rw [f.I n1]; exact (a2 q).1, fun i hi => by rw [f.I n2]; exact (a2 q).2 i hi⟩⟩
/-- what the reference does leaves the class's state -/
theorem CR.fx {z : Nat} {G G' : Wd} {S : St} {la lb : Nat → Nat} {SI SJ AR : List Nat} (h : CR z G S la lb) (f : fxM (z + 54) SI SJ AR G G') (ha : ∀ o ∈ AR, o ≤ 26) : CR z G' S la lb := by
  have hap := h.2.2.2.2.2.2.1
  refine h.keep (f.chg ha) (fun o ho _ q => by omega) (fun _ _ q => q) (fun q => q) (fun q => q) (fun k hk i hi => ⟨fun q => ?_, fun q => q⟩) (fun j hj => ⟨fun q => ?_, fun q => q⟩)
  · have := (hap.1 k hk).1; omega
  · have := (hap.2.1 j hj).1; omega
/-- what the class does leaves the reference's state -/
theorem MR.keep {m : Nat} {G G' : Wd} {S : St} (h : MR m G S) (f : ∀ o, o ≤ 26 → sameAt G G' (m + o)) : MR m G' S := by
  obtain ⟨⟨h1, h1'⟩, h2, h3, h4⟩ := h
  have f0 : sameAt G G' m := f 0 (by omega)
  refine ⟨⟨f0.1.trans h1, fun o a b => ?_⟩, (f0.2.2.1 1).trans h2, (f0.2.2.1 15).trans h3, fun o a b i hi => ((f o (by omega)).2.2.1 i).trans (h4 o a b i hi)⟩
  obtain ⟨q1, q2, q3⟩ := h1' o a b
  exact ⟨(f o b).1.trans q1, (f o b).2.1.trans q2, (f0.2.2.2.2 _).trans q3⟩
theorem chg.same {P R : Nat → Prop} {G G' : Wd} (h : chg P R G G') {b : Nat} (hp : ¬ P b) (hr : ¬ R b) : sameAt G G' b := ⟨h.K b, h.N b, fun j => h.I hp j, fun j => h.J hp j, fun j => h.Rf hr j⟩
