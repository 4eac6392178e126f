/-! ===== cure: the class's cheapest ===== -/
def Clo (f : Nat → Bool) (C n : Nat) : Prop := ∃ m, m < 2 ^ C ∧ f m = true ∧ m ||| n = n
theorem clo_all {f g : Nat → Bool} {C : Nat} (s2 : ∀ x, x < 2 ^ C → f x = true → g x = true) (s3 : ∀ x, x < 2 ^ C → ∀ j, j < C → g x = true → g (x ||| 2 ^ j) = true) {n : Nat} (hn : n < 2 ^ C) (h : Clo f C n) : g n = true := by
  obtain ⟨m, hm, hf, he⟩ := h
  have key : ∀ i, i ≤ C → g (m ||| n % 2 ^ i) = true := by
    intro i
    induction i with
    | zero => intro _; rw [Nat.pow_zero, Nat.mod_one, Nat.or_zero]; exact s2 m hm hf
    | succ i ih =>
      intro hi
      have h1 := ih (by omega)
      rw [mod_s]
      have hlt : n % 2 ^ i < 2 ^ i := Nat.mod_lt _ (Nat.pow_pos (by omega))
      have hle : n % 2 ^ i ≤ n := Nat.mod_le _ _
      cases c : n.testBit i with
      | false => exact h1
      | true =>
        show g (m ||| (n % 2 ^ i + 2 ^ i)) = true
        rw [← or_pow hlt, ← Nat.or_assoc]
        exact s3 _ (Nat.or_lt_two_pow hm (by omega)) i (by omega) h1
  have := key C (Nat.le_refl _)
  rw [Nat.mod_eq_of_lt hn, he] at this
  exact this
theorem X4_spread {z C : Nat} {G0 : Wd} {S : St} {la lb : Nat → Nat} {f : Nat → Bool} {Q : Wd → Prop} (h0 : CR z G0 S la lb) (hC : C ≤ 10) (e4 : gI G0 (z + 38) 4 = nI C) (hf : ∀ n, n < 2 ^ C → (gI G0 (z + 42) n = 0 ↔ f n = false)) (hQ : ∀ (G' : Wd) (g : Nat → Bool), chg (fun b => b = z + 42) (fun _ => False) G0 G' → (∀ n, n < 2 ^ C → (gI G' (z + 42) n = 0 ↔ g n = false)) → (∀ n, n < 2 ^ C → (g n = true ↔ Clo f C n)) → Q G') : wpX4_spreadToMore (z + 38) G0 Q := by
  have hle : 2 ^ C ≤ 1024 := by
    have := Nat.pow_le_pow_right (n := 2) (by omega) hC
    exact this
  have outer : ∀ (n b : Nat) (g : Nat → Bool) (G : Wd), b ≤ 2 ^ C → b + n = 2 ^ C + 1 → chg (fun b => b = z + 42) (fun _ => False) G0 G → (∀ n, n < 2 ^ C → (gI G (z + 42) n = 0 ↔ g n = false)) → (∀ x, x < 2 ^ C → g x = true → Clo f C x) → (∀ x, x < 2 ^ C → f x = true → g x = true) → (∀ x, x < b → ∀ j, j < C → g x = true → g (x ||| 2 ^ j) = true) → wpX4_spreadToMore_2 Q n (z + 38) (nI b) G := by
    intro n
    induction n with
    | zero => intro b g G le e; omega
    | succ n ih =>
      intro b g G le e fr hg s1 s2 s3
      have h := h0.dst (fr.mono (fun b q => by omega) (fun _ q => q))
      have i4 : ∀ G', chg (fun b => b = z + 42) (fun _ => False) G0 G' → gI G' (z + 38) 4 = nI C := fun G' f' => by rw [f'.I (by omega)]; exact e4
      unfold wpX4_spreadToMore_2
      rw [i4 G fr, sh11 C (by omega)]
      refine ⟨h.1.K 38 (by omega), ifE (fun c => ?_) (fun c => ⟨C + 1, ?_⟩)⟩
      · rw [nI_leI (by omega) (by omega)] at c
        exact hQ G g fr hg (fun n hn => ⟨s1 n hn, fun w => clo_all s2 (fun x hx => s3 x (by omega)) hn w⟩)
      · rw [nI_leI (by omega) (by omega)] at c
        have hb : b < 2 ^ C := by omega
        have inner : ∀ (m i : Nat) (g : Nat → Bool) (G : Wd), i ≤ C → i + m = C + 1 → chg (fun b => b = z + 42) (fun _ => False) G0 G → (∀ n, n < 2 ^ C → (gI G (z + 42) n = 0 ↔ g n = false)) → (∀ x, x < 2 ^ C → g x = true → Clo f C x) → (∀ x, x < 2 ^ C → f x = true → g x = true) → (∀ x, x < b → ∀ j, j < C → g x = true → g (x ||| 2 ^ j) = true) → (∀ j, j < i → g b = true → g (b ||| 2 ^ j) = true) → wpX4_spreadToMore_14 Q (fun y0 y1 y2 => wpX4_spreadToMore_2 Q n y0 y1 y2) m (z + 38) (nI b) (nI i) G := by
          intro m
          induction m with
          | zero => intro i g G le e; omega
          | succ m ihm =>
            intro i g G le e fr hg s1 s2 s3 s4
            have h := h0.dst (fr.mono (fun b q => by omega) (fun _ q => q))
            unfold wpX4_spreadToMore_14
            rw [i4 G fr]
            refine ⟨h.1.K 38 (by omega), ifE (fun c x hx => ?_) (fun c x8 hx8 => ?_)⟩
            · rw [nI_leI (by omega) (by omega)] at c
              rw [nI_1] at hx; subst hx
              refine ih (b + 1) g G (by omega) (by omega) fr hg s1 s2 (fun x hx j hj => ?_)
              by_cases q : x = b
              · rw [q]; exact s4 j (by omega)
              · exact s3 x (by omega) j hj
            · rw [nI_leI (by omega) (by omega)] at c
              have hi' : i < C := by omega
              have p1 : 2 ^ i < 2 ^ C := Nat.pow_lt_pow_right (by omega) hi'
              have hm : b ||| 2 ^ i < 2 ^ C := Nat.or_lt_two_pow hb p1
              have hge : b ≤ b ||| 2 ^ i := Nat.left_le_or
              rw [sh10 i (by omega), nI_or] at hx8
              subst hx8
              have R6 : gR G (z + 38) 6 = some (z + 42) := h.1.R 38 6 42 (by decide)
              have K42 : gK G (z + 42) = 22 := h.1.K 42 (by omega)
              have N42 : gN G (z + 42) = 1024 := h.1.N 42 (by omega)
              have vm : vp_in (nI (b ||| 2 ^ i)) (gN G (z + 42)) := by rw [N42]; exact vp_in_nI (by omega) (by decide)
              have vb : vp_in (nI b) (gN G (z + 42)) := by rw [N42]; exact vp_in_nI (by omega) (by decide)
              have w56 : ∀ v : Int32, isB v → (v = 0 ↔ (g (b ||| 2 ^ i) || g b) = false) → wpX4_spreadToMore_56 Q (fun y0 y1 y2 => wpX4_spreadToMore_2 Q n y0 y1 y2) (fun y0 y1 y2 y3 => wpX4_spreadToMore_14 Q (fun y0 y1 y2 => wpX4_spreadToMore_2 Q n y0 y1 y2) m y0 y1 y2 y3) (z + 38) (nI b) (nI i) (z + 42) (nI (b ||| 2 ^ i)) v G := by
                intro v bv ev
                unfold wpX4_spreadToMore_56
                refine ⟨K42, vm, bv, fun G1 e1 x hx => ?_⟩
                rw [nI_1] at hx; subst hx
                rw [nI_clamp (by omega)] at e1
                have gm : ∀ x, g x = true → (if x = b ||| 2 ^ i then g (b ||| 2 ^ i) || g b else g x) = true := fun x hx => by
                  by_cases q : x = b ||| 2 ^ i
                  · rw [if_pos q, ← q, hx]; rfl
                  · rw [if_neg q]; exact hx
                have gb : (if b = b ||| 2 ^ i then g (b ||| 2 ^ i) || g b else g b) = true → g b = true := fun w => by
                  by_cases q : b = b ||| 2 ^ i
                  · rw [if_pos q, ← q, Bool.or_self] at w; exact w
                  · rw [if_neg q] at w; exact w
                refine ihm (i + 1) (fun x => if x = b ||| 2 ^ i then g (b ||| 2 ^ i) || g b else g x) G1 (by omega) (by omega) (by rw [e1]; exact fr.wI _ _ _ rfl) (fun x hx => ?_) (fun x hx w => ?_) (fun x hx w => gm x (s2 x hx w)) (fun x hx j hj w => ?_) (fun j hj w => ?_)
                · rw [e1, gI_uI]
                  by_cases q : x = b ||| 2 ^ i
                  · rw [if_pos ⟨rfl, q⟩, if_pos q]; exact ev
                  · rw [if_neg (fun w => q w.2), if_neg q]; exact hg x hx
                · by_cases q : x = b ||| 2 ^ i
                  · rw [if_pos q] at w
                    rw [q]
                    cases ga : g (b ||| 2 ^ i) with
                    | true => exact s1 _ hm ga
                    | false =>
                      rw [ga, Bool.false_or] at w
                      obtain ⟨t, t1, t2, t3⟩ := s1 b hb w
                      exact ⟨t, t1, t2, by rw [← Nat.or_assoc, t3]⟩
                  · rw [if_neg q] at w; exact s1 x hx w
                · rw [if_neg (by omega)] at w
                  exact gm _ (s3 x hx j hj w)
                · have w' := gb w
                  by_cases q : j = i
                  · rw [q, if_pos rfl, w', Bool.or_true]
                  · exact gm _ (s4 j (by omega) w')
              refine ⟨z + 42, R6, z + 42, R6, K42, vm, ?_⟩
              rw [nI_clamp (by omega), nI_clamp (by omega)]
              refine ifE (fun c1 => ⟨z + 42, R6, K42, vb, ifE (fun c2 => ?_) (fun c2 => ?_)⟩) (fun c1 => ?_)
              · exact w56 0 (Or.inl rfl) ⟨fun _ => by rw [(hg _ hm).mp c1, (hg _ hb).mp c2]; rfl, fun _ => rfl⟩
              · refine w56 1 (Or.inr rfl) ⟨fun q => n10 q, fun q => ?_⟩
                rw [Bool.or_eq_false_iff] at q
                exact absurd ((hg _ hb).mpr q.2) c2
              · refine w56 1 (Or.inr rfl) ⟨fun q => n10 q, fun q => ?_⟩
                rw [Bool.or_eq_false_iff] at q
                exact absurd ((hg _ hm).mpr q.1) c1
        exact inner (C + 1) 0 g G (by omega) (by omega) fr hg s1 s2 s3 (fun j hj => absurd hj (Nat.not_lt_zero _))
  exact ⟨2 ^ C + 1, outer _ 0 f G0 (Nat.zero_le _) (Nat.zero_add _) chg.rf hf (fun x hx w => ⟨x, hx, w, Nat.or_self x⟩) (fun x _ w => w) (fun x hx => absurd hx (Nat.not_lt_zero _))⟩
theorem cur_clo {f : Nat → Bool} {C n : Nat} (hC : C ≤ 10) (hn : n < 2 ^ C) (hs : ∀ q, f q = true → q < 2 ^ C) : curB f n = true ↔ ¬ Clo f C ((2 ^ C - 1) ^^^ n) := by
  have hle : 2 ^ C ≤ 1024 := by
    have := Nat.pow_le_pow_right (n := 2) (by omega) hC
    exact this
  have tb : ∀ i, ((2 ^ C - 1) ^^^ n).testBit i = (decide (i < C) ^^ n.testBit i) := fun i => by rw [Nat.testBit_xor, Nat.testBit_two_pow_sub_one]
  have small : ∀ m, m < 2 ^ C → ∀ i, m.testBit i = true → i < C := fun m hm i h => by
    refine Classical.byContradiction (fun q => ?_)
    rw [Nat.testBit_lt_two_pow (Nat.lt_of_lt_of_le hm (Nat.pow_le_pow_right (by omega) (by omega)))] at h
    cases h
  rw [curB_iff]
  constructor
  · intro h ⟨m, m1, m2, m3⟩
    refine h m (by omega) m2 ?_
    refine Nat.eq_of_testBit_eq (fun i => ?_)
    rw [Nat.testBit_and, Nat.zero_testBit]
    cases a : m.testBit i with
    | false => rfl
    | true =>
      have hi := small m m1 i a
      have e : (m ||| ((2 ^ C - 1) ^^^ n)).testBit i = ((2 ^ C - 1) ^^^ n).testBit i := by rw [m3]
      rw [Nat.testBit_or, a, tb, decide_eq_true hi] at e
      cases b : n.testBit i with
      | false => rfl
      | true => rw [b] at e; cases e
  · intro h q _ hf e0
    refine h ⟨q, hs q hf, hf, ?_⟩
    refine Nat.eq_of_testBit_eq (fun i => ?_)
    rw [Nat.testBit_or]
    cases a : q.testBit i with
    | false => rw [Bool.false_or]
    | true =>
      have hi := small q (hs q hf) i a
      have e : (q &&& n).testBit i = false := by rw [e0, Nat.zero_testBit]
      rw [Nat.testBit_and, a, Bool.true_and] at e
      rw [tb, e, decide_eq_true hi]; rfl
