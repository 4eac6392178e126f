/-! ===== one step of a row: take ===== -/
theorem red_pos {n d : Nat} (hn : 0 < n) (h0 : 0 < d) (ln : n < 1000000000000000) : 0 < (red n d).1.toInt := by
  have gl := Nat.gcd_le_left d hn
  have gp := Nat.gcd_pos_of_pos_right n h0
  have l1 : n / Nat.gcd n d ≤ n := Nat.div_le_self _ _
  have l3 : 0 < n / Nat.gcd n d := Nat.div_pos gl gp
  unfold red
  rw [lT (by omega)]
  omega
theorem lsh_rng {S : St} {k : Nat} (h : rng (sA S 11 k) 0 500) : (500 ≤ lsh S k ∧ lsh S k ≤ 1500) ∧ (1000 ≤ hsh S k ∧ hsh S k ≤ 1500) ∧ 1 ≤ wid S k ∧ wid S k ≤ 2 := by
  have e := nv_i h.1
  have l := h.2
  unfold lsh hsh wid
  refine ⟨?_, ?_, ?_⟩
  · split
    · omega
    · split <;> omega
  · split <;> omega
  · split <;> omega
theorem ends_wf {S : St} (hi : Inv S) {k : Nat} (hk : k < sM S) : (wfF (some (endL S k)) ∧ 0 < (endL S k).1.toInt) ∧ wfF (some (endH S k)) ∧ 0 < (endH S k).1.toInt := by
  have hr := hi.2.2.1 k hk
  have g5 := hr.2.2.2.1
  have g6 := hr.2.2.2.2.1
  obtain ⟨⟨a1, a2⟩, ⟨b1, b2⟩, c1, c2⟩ := lsh_rng (S := S) (k := k) hr.2.2.2.2.2.2.2.2.2.1
  have v5 := nv_i (x := sA S 5 k) (by have := g5.1; omega)
  have v6 := nv_i (x := sA S 6 k) (by have := g6.1; omega)
  have b5 := g5.2
  have b5' := g5.1
  have b6 := g6.1
  have b6' := g6.2
  have m1 : nv (sA S 5 k) * lsh S k ≤ 1000 * 1500 := Nat.mul_le_mul (by omega) a2
  have m2 : nv (sA S 6 k) * 1000 * wid S k ≤ 1000 * 1000 * 2 := Nat.mul_le_mul (by omega) c2
  have m3 : nv (sA S 5 k) * hsh S k * wid S k ≤ 1000 * 1500 * 2 := Nat.mul_le_mul (Nat.mul_le_mul (by omega) b2) c2
  have m4 : 0 < nv (sA S 5 k) * lsh S k := Nat.mul_pos (by omega) (by omega)
  have m5 : 0 < nv (sA S 6 k) * 1000 * wid S k := Nat.mul_pos (by omega) (by omega)
  have m6 : 0 < nv (sA S 5 k) * hsh S k * wid S k := Nat.mul_pos (Nat.mul_pos (by omega) (by omega)) (by omega)
  unfold endL endH
  exact ⟨⟨wfF_red m5 (by omega) (by omega), red_pos m4 m5 (by omega)⟩, wfF_red (by omega) (by omega) (by omega), red_pos m6 (by omega) (by omega)⟩
/-- a fraction times another one, or by another one -/
def fby (o : Fr) (t : Bool) (q : Int64 × Int64) : Fr := if t then fmul o q.2 q.1 else fmul o q.1 q.2
theorem wfF.by {o : Fr} (h : wfF o) (t : Bool) {q : Int64 × Int64} (hq : wfF (some q)) (hp : 0 < q.1.toInt) : wfF (fby o t q) := by
  have ok := hq.ok
  obtain ⟨h1, h2, h3, h4⟩ := hq q rfl
  cases t with
  | false => exact h.mul ok.1 ok.2 h3 h4
  | true => exact h.mul ok.2 ok.1 hp (by rw [Nat.gcd_comm]; exact h4)
def lowX (S : St) (o : Fr) (k : Nat) (t : Bool) : Fr := fby o t (if t then endH S k else endL S k)
def highX (S : St) (o : Fr) (k : Nat) (t : Bool) : Fr := fby o t (if t then endL S k else endH S k)
theorem csh.T {z : Nat} {G : Wd} (h : csh z G) {i : Nat} (hi : i < 11) : gR G (z + 8) i = some (z + (11 + 2 * i)) ∧ gR G (z + 9) i = some (z + (12 + 2 * i)) ∧ gK G (z + (11 + 2 * i)) = 3 ∧ gK G (z + (12 + 2 * i)) = 3 := by
  have hh : ∀ i, i < 11 → (8, i, 11 + 2 * i) ∈ cRf ∧ (9, i, 12 + 2 * i) ∈ cRf ∧ cKd (11 + 2 * i) = 3 ∧ cKd (12 + 2 * i) = 3 := by decide
  obtain ⟨a, b, c, d⟩ := hh i hi
  exact ⟨h.R 8 i _ a, h.R 9 i _ b, by rw [h.K _ (by omega)]; exact c, by rw [h.K _ (by omega)]; exact d⟩
/-- the world after take -/
def tkW (z : Nat) (G : Wd) (n : Nat) (x : Int32) (l h : Fr) : Wd := wF (wF (uI G (z + 7) n x) (z + (13 + 2 * n)) l) (z + (14 + 2 * n)) h
theorem X9_take {z n k : Nat} {G : Wd} {S : St} {la lb : Nat → Nat} {o o' : Fr} {t : Bool} {tv : Int32} {Q : Wd → Prop} (h : CR z G S la lb) (hi : Inv S) (hk : k < sM S) (hn : n < 10) (et : tv = if t then 1 else 0) (h1 : isF G (z + (11 + 2 * n)) o) (h2 : isF G (z + (12 + 2 * n)) o') (w1 : wfF o) (w2 : wfF o')
    (hQ : Q (tkW z G n (nI (if t then k + 100 else k)) (lowX S o k t) (highX S o' k t))) : wpX9_take (z + 5) (la k) tv (nI n) G Q := by
  have hM := hi.1.1
  obtain ⟨⟨wl, pl⟩, wh, ph⟩ := ends_wf hi hk
  have okl := wl.ok
  have okh := wh.ok
  obtain ⟨b1, b2, b3, b4, b5, b6, b7, b8⟩ := (h.2.2.2.2.1 k hk).2
  have hA := (h.A.1 k hk).1
  obtain ⟨p1, p2, p3, p4⟩ := h.1.T (i := n) (by omega)
  obtain ⟨q1, q2, q3, q4⟩ := h.1.T (i := n + 1) (by omega)
  have R5 : gR G (z + 5) 5 = some (z + 8) := h.1.R 5 5 8 (by decide)
  have R6 : gR G (z + 5) 6 = some (z + 9) := h.1.R 5 6 9 (by decide)
  have R2 : gR G (z + 5) 2 = some (z + 7) := h.1.R 5 2 7 (by decide)
  have K5 : gK G (z + 5) = 9 := h.1.K 5 (by omega)
  have K8 : gK G (z + 8) = 24 := h.1.K 8 (by omega)
  have K9 : gK G (z + 9) = 24 := h.1.K 9 (by omega)
  have N8 : gN G (z + 8) = 11 := h.1.N 8 (by omega)
  have N9 : gN G (z + 9) = 11 := h.1.N 9 (by omega)
  have e13 : 11 + 2 * (n + 1) = 13 + 2 * n := by omega
  have e14 : 12 + 2 * (n + 1) = 14 + 2 * n := by omega
  rw [e13] at q1 q3
  rw [e14] at q2 q4
  have v0 : vp_in (nI n) 11 := vp_in_nI (by omega) (by decide)
  have v1 : vp_in (nI (n + 1)) 11 := vp_in_nI (by omega) (by decide)
  have run : ∀ x : Int32, Q (tkW z G n x (lowX S o k t) (highX S o' k t)) → wpX9_take_23 Q (z + 5) (la k) tv (nI n) (z + 7) (nI n) x G := by
    intro x hQ
    unfold wpX9_take_23
    rw [nI_1, nI_clamp (show n < 2 ^ 31 by omega), nI_clamp (show n + 1 < 2 ^ 31 by omega)]
    refine ⟨h.1.K 7 (by omega), by rw [h.1.N 7 (by omega)]; exact vp_in_nI (by show n < 10; omega) (by decide), fun G3 e3 => ?_⟩
    have f3 : chg (fun b => b = z + 7) (fun _ => False) G G3 := by rw [e3]; exact chg.rf.wI _ _ _ rfl
    have l3 := b7.keep f3 (by omega)
    have r3 := b8.keep f3 (by omega)
    have o3 := h1.keep f3 (by omega)
    have o3' := h2.keep f3 (by omega)
    have hK : ∀ b, gK G3 b = gK G b := fun b => f3.K b
    have hN : ∀ b, gN G3 b = gN G b := fun b => f3.N b
    have hR : ∀ b j, gR G3 b j = gR G b j := fun b j => f3.Rf (fun q => q) j
    have hQ3 : Q (wF (wF G3 (z + (13 + 2 * n)) (lowX S o k t)) (z + (14 + 2 * n)) (highX S o' k t)) := by rw [e3]; exact hQ
    cases t with
    | false =>
      subst et
      refine ifP rfl ?_
      refine ⟨by rw [hK]; exact K5, z + 8, by rw [hR]; exact R5, by rw [hK]; exact K8, by rw [hN, N8]; exact v1, z + (13 + 2 * n), by rw [hR]; exact q1, z + 8, by rw [hR]; exact R5, by rw [hK]; exact K8, by rw [hN, N8]; exact v0, z + (11 + 2 * n), by rw [hR]; exact p1, by rw [hK]; exact b1, la k + 1, by rw [hR]; exact b5, l3.1, la k + 1, by rw [hR]; exact b5, l3.1, by rw [hK]; exact q3, ?_⟩
      rw [l3.2.2.1, l3.2.2.2]
      refine X2_prod (by rw [hK]; exact q3) o3 w1.ok okl.1 okl.2 ?_
      have f4 : chg (fun b => b = z + (13 + 2 * n)) (fun _ => False) G3 (wF G3 (z + (13 + 2 * n)) (fmul o (endL S k).1 (endL S k).2)) := chg.rf.wF _ _ rfl
      have hQ4 : Q (wF (wF G3 (z + (13 + 2 * n)) (fmul o (endL S k).1 (endL S k).2)) (z + (14 + 2 * n)) (fmul o' (endH S k).1 (endH S k).2)) := hQ3
      generalize wF G3 (z + (13 + 2 * n)) (fmul o (endL S k).1 (endL S k).2) = G4 at f4 hQ4
      have r4 := r3.keep f4 (by omega)
      have o4' := o3'.keep f4 (by omega)
      have jK : ∀ b, gK G4 b = gK G b := fun b => (f4.K b).trans (hK b)
      have jN : ∀ b, gN G4 b = gN G b := fun b => (f4.N b).trans (hN b)
      have jR : ∀ b j, gR G4 b j = gR G b j := fun b j => (f4.Rf (fun q => q) j).trans (hR b j)
      refine ⟨by rw [jK]; exact K5, z + 9, by rw [jR]; exact R6, by rw [jK]; exact K9, by rw [jN, N9]; exact v1, z + (14 + 2 * n), by rw [jR]; exact q2, z + 9, by rw [jR]; exact R6, by rw [jK]; exact K9, by rw [jN, N9]; exact v0, z + (12 + 2 * n), by rw [jR]; exact p2, by rw [jK]; exact b1, la k + 2, by rw [jR]; exact b6, r4.1, la k + 2, by rw [jR]; exact b6, r4.1, by rw [jK]; exact q4, ?_⟩
      rw [r4.2.2.1, r4.2.2.2]
      exact X2_prod (by rw [jK]; exact q4) o4' w2.ok okh.1 okh.2 hQ4
    | true =>
      subst et
      refine ifN (fun e => n10 e) ?_
      refine ⟨by rw [hK]; exact K5, z + 8, by rw [hR]; exact R5, by rw [hK]; exact K8, by rw [hN, N8]; exact v1, z + (13 + 2 * n), by rw [hR]; exact q1, z + 8, by rw [hR]; exact R5, by rw [hK]; exact K8, by rw [hN, N8]; exact v0, z + (11 + 2 * n), by rw [hR]; exact p1, by rw [hK]; exact b1, la k + 2, by rw [hR]; exact b6, r3.1, la k + 2, by rw [hR]; exact b6, r3.1, by rw [hK]; exact q3, ?_⟩
      rw [r3.2.2.1, r3.2.2.2]
      refine X2_prod (by rw [hK]; exact q3) o3 w1.ok okh.2 okh.1 ?_
      have f4 : chg (fun b => b = z + (13 + 2 * n)) (fun _ => False) G3 (wF G3 (z + (13 + 2 * n)) (fmul o (endH S k).2 (endH S k).1)) := chg.rf.wF _ _ rfl
      have hQ4 : Q (wF (wF G3 (z + (13 + 2 * n)) (fmul o (endH S k).2 (endH S k).1)) (z + (14 + 2 * n)) (fmul o' (endL S k).2 (endL S k).1)) := hQ3
      generalize wF G3 (z + (13 + 2 * n)) (fmul o (endH S k).2 (endH S k).1) = G4 at f4 hQ4
      have l4 := l3.keep f4 (by omega)
      have o4' := o3'.keep f4 (by omega)
      have jK : ∀ b, gK G4 b = gK G b := fun b => (f4.K b).trans (hK b)
      have jN : ∀ b, gN G4 b = gN G b := fun b => (f4.N b).trans (hN b)
      have jR : ∀ b j, gR G4 b j = gR G b j := fun b j => (f4.Rf (fun q => q) j).trans (hR b j)
      refine ⟨by rw [jK]; exact K5, z + 9, by rw [jR]; exact R6, by rw [jK]; exact K9, by rw [jN, N9]; exact v1, z + (14 + 2 * n), by rw [jR]; exact q2, z + 9, by rw [jR]; exact R6, by rw [jK]; exact K9, by rw [jN, N9]; exact v0, z + (12 + 2 * n), by rw [jR]; exact p2, by rw [jK]; exact b1, la k + 1, by rw [jR]; exact b5, l4.1, la k + 1, by rw [jR]; exact b5, l4.1, by rw [jK]; exact q4, ?_⟩
      rw [l4.2.2.1, l4.2.2.2]
      exact X2_prod (by rw [jK]; exact q4) o4' w2.ok okl.2 okl.1 hQ4
  unfold wpX9_take
  refine ⟨K5, z + 7, R2, ?_⟩
  rw [b2]
  cases t with
  | false =>
    subst et
    exact ifP rfl ⟨b1, run _ hQ⟩
  | true =>
    subst et
    refine ifN (fun e => n10 e) ⟨b1, ?_⟩
    rw [show (100 : Int32) = nI 100 from rfl, nI_add]
    exact run _ hQ
