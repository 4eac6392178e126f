/-! ===== the reference's go: what it visits ===== -/
/-- cells hold a list -/
def cel (G : Wd) (a : Nat) (l : List Nat) : Prop := ∀ i, i < l.length → gI G a i = nI (l.getD i 0)
theorem cel.same {G G' : Wd} {a : Nat} {l : List Nat} (h : cel G a l) (e : ∀ j, gI G' a j = gI G a j) : cel G' a l := fun i hi => by rw [e]; exact h i hi
theorem cel.up {G : Wd} {a : Nat} {l : List Nat} (h : cel G a l) {k : Nat} (hk : l.length ≤ k) (v : Int32) : cel (uI G a k v) a l := fun i hi => by
  rw [gI_uI, if_neg (fun q => by have := q.2; omega)]; exact h i hi
theorem cel.at {G : Wd} {a : Nat} {l : List Nat} {x : Nat} (h : cel G a (l ++ [x])) : gI G a l.length = nI x := by
  have := h l.length (by rw [List.length_append]; exact Nat.lt_succ_self _)
  rw [this]
  simp [List.getD]
theorem cel.snoc {G : Wd} {a : Nat} {l : List Nat} (h : cel G a l) (x : Nat) : cel (uI G a l.length (nI x)) a (l ++ [x]) := fun i hi => by
  rw [List.length_append] at hi
  have hi' : i < l.length + 1 := hi
  rw [gI_uI]
  by_cases c : i = l.length
  · rw [if_pos ⟨rfl, c⟩, c]
    simp [List.getD]
  · rw [if_neg (fun q => c q.2), h i (by omega)]
    simp [List.getD, List.getElem?_append_left (show i < l.length by omega)]
theorem cel.cut {G : Wd} {a : Nat} {l m : List Nat} (h : cel G a (l ++ m)) : cel G a l := fun i hi => by
  rw [h i (by rw [List.length_append]; omega)]
  simp [List.getD, List.getElem?_append_left (show i < l.length by omega)]
theorem getD_mem {l : List Nat} {i : Nat} (h : i < l.length) : l.getD i 0 ∈ l := by
  simp [List.getD, List.getElem?_eq_getElem h]
/-- the counted ones from number i on -/
def oq (S : St) (p d : Int32) : Nat → Nat → List Nat
  | _, 0 => []
  | i, n + 1 => (if cnt S i p d = 0 then [] else [i]) ++ oq S p d (i + 1) n
theorem oq_s (S : St) (p d : Int32) (i n : Nat) : oq S p d i (n + 1) = (if cnt S i p d = 0 then [] else [i]) ++ oq S p d (i + 1) n := rfl
theorem opl_oq (S : St) (p d : Int32) (n : Nat) : ∀ i, opl S p d i ++ oq S p d i n = opl S p d (i + n) := by
  induction n with
  | zero => intro i; exact List.append_nil _
  | succ n ih =>
    intro i
    have := ih (i + 1)
    rw [show i + (n + 1) = i + 1 + n by omega, ← this]
    show opl S p d i ++ ((if cnt S i p d = 0 then [] else [i]) ++ oq S p d (i + 1) n) = (opl S p d i ++ (if cnt S i p d = 0 then [] else [i])) ++ oq S p d (i + 1) n
    rw [List.append_assoc]
theorem oq_opl (S : St) (p d : Int32) (n : Nat) : oq S p d 0 n = opl S p d n := by
  have := opl_oq S p d n 0
  rw [Nat.zero_add] at this
  exact this
theorem fr_rng {S : St} (hi : Inv S) {k : Nat} (hk : k < sM S) : fr S k < 10 ∧ tt S k < 10 ∧ sA S 3 k = nI (fr S k) ∧ sA S 4 k = nI (tt S k) := by
  obtain ⟨_, h3, h4, _⟩ := hi.2.2.1 k hk
  have e3 := nv_i h3.1
  have e4 := nv_i h4.1
  have l3 := h3.2
  have l4 := h4.2
  exact ⟨by unfold fr; omega, by unfold tt; omega, nI_nv h3.1, nI_nv h4.1⟩
theorem nI_eqI {a b : Nat} (ha : a < 2 ^ 31) (hb : b < 2 ^ 31) : nI a = nI b ↔ a = b := by
  rw [i_eq, nI_toInt ha, nI_toInt hb]; omega
theorem M_met_loop {z n v : Nat} {G : Wd} {T S : St} {met : List Nat} {Q : Int32 → Wd → Prop} (h : mid z G T S) (hc : cel G (z + 54 + 21) met) (hl : met.length = n + 1) (hn : n ≤ 10) (hx : ∀ x ∈ met, x < 10) (hv : v < 10) (hQ : Q (if v ∈ met then 1 else 0) G) (f : Nat) : ∀ i : Nat, i ≤ n + 1 → i + f = n + 2 → (∀ j, j < i → met.getD j 0 ≠ v) → wpX11_isMet_2 Q f (z + 54) (nI n) (nI v) (nI i) G := by
  induction f with
  | zero => intro i le e; omega
  | succ f ih =>
    intro i le e hj
    unfold wpX11_isMet_2
    refine ifE (fun a => ?_) (fun a => ⟨h.K, ?_⟩)
    · rw [i_lt, nI_toInt (by omega), nI_toInt (by omega)] at a
      rw [if_neg (fun q => ?_)] at hQ
      · exact hQ
      · obtain ⟨j, hj1, hj2⟩ := List.mem_iff_getElem.mp q
        refine hj j (by omega) ?_
        simp [List.getD, List.getElem?_eq_getElem hj1, hj2]
    · rw [i_lt, nI_toInt (by omega), nI_toInt (by omega)] at a
      refine h.2.at 21 27 20 11 rfl rfl rfl (by omega) (by omega) (vp_in_nI (by omega) (by decide)) ?_
      have hm := getD_mem (l := met) (i := i) (by omega)
      have hb := hx _ hm
      rw [nI_clamp (by omega), hc i (by omega)]
      refine ifE (fun c => ?_) (fun c x hx' => ?_)
      · rw [nI_eqI (by omega) (by omega)] at c
        rw [c] at hm
        rw [if_pos hm] at hQ
        exact hQ
      · rw [nI_eqI (by omega) (by omega)] at c
        rw [nI_1] at hx'; subst hx'
        refine ih (i + 1) (by omega) (by omega) (fun j hj' => ?_)
        by_cases q : j = i
        · rw [q]; exact c
        · exact hj j (by omega)
theorem X11_isMet {z n v : Nat} {G : Wd} {T S : St} {met : List Nat} {Q : Int32 → Wd → Prop} (h : mid z G T S) (hc : cel G (z + 54 + 21) met) (hl : met.length = n + 1) (hn : n ≤ 10) (hx : ∀ x ∈ met, x < 10) (hv : v < 10) (hQ : Q (if v ∈ met then 1 else 0) G) : wpX11_isMet (z + 54) (nI n) (nI v) G Q :=
  ⟨n + 2, M_met_loop h hc hl hn hx hv hQ (n + 2) 0 (by omega) (by omega) (fun j hj => absurd hj (Nat.not_lt_zero _))⟩
theorem fxM.up {m : Nat} {SI SJ AR SI' SJ' AR' : List Nat} {G0 G G' : Wd} (h : fxM m SI SJ AR G0 G) (h' : fxM m SI' SJ' AR' G G') (h1 : ∀ x ∈ SI', x ∈ SI) (h2 : ∀ x ∈ SJ', x ∈ SJ) (h3 : ∀ x ∈ AR', x ∈ AR) : fxM m SI SJ AR G0 G' := h.tr (h'.mono h1 h2 h3)
theorem X11_go {z : Nat} {G0 : Wd} {T S : St} {p d : Int32} {b len : Nat} {I : List (List Nat) → Wd → Prop} {SI SJ : List Nat}
    (h0 : mid z G0 T S) (hi : Inv S) (hb : b < 10) (hlen : len ≤ 9) (hc : cntd (z + 54) G0 S p d (sM S)) (e29 : gI G0 (z + 54) 29 = nI len) (n1 : 1 ∉ SI) (n15 : 15 ∉ SI) (n29 : 29 ∉ SI)
    (hst : ∀ h G G', I h G → fxM (z + 54) [] [] [21, 22] G G' → I h G')
    (hv : ∀ h pre G Q (rec : Nat → Int32 → Int32 → Wd → (Wd → Prop) → Prop), fxM (z + 54) SI SJ [19, 21, 22, 23] G0 G → I h G → cel G (z + 54 + 22) pre → pre.length = len → rok (sM S) pre → (∀ G', fxM (z + 54) SI SJ [19, 23] G G' → I (h ++ [pre]) G' → Q G') → (if (gI G (z + 54) 30) = (gI G (z + 54) 31) then (∀ G93 : Wd, G93 = uI G (z + 54) 34 1 → ∀ G95 : Wd, G95 = uI G93 (z + 54) 33 (nI len) → ∃ m, wpX11_go_41 rec Q m (z + 54) (nI len) 0 G95) else (wpX11_go_64 rec Q (z + 54) G)))
    (r : Nat) : ∀ (f a : Nat) (m0 pre : List Nat) (h : List (List Nat)) (G : Wd) (Q : Wd → Prop), r + 1 ≤ f → a < 10 → pre.length + r = len → m0.length = pre.length → (∀ x ∈ m0, x < 10) → rok (sM S) pre → fxM (z + 54) SI SJ [19, 21, 22, 23] G0 G → I h G → cel G (z + 54 + 21) (m0 ++ [a]) → cel G (z + 54 + 22) pre → (pre.length = 0 → a = b → r = 0) → (∀ G', fxM (z + 54) SI SJ [19, 21, 22, 23] G0 G' → I (h ++ dfx S b (opl S p d (sM S)) r a (m0 ++ [a]) pre) G' → cel G' (z + 54 + 21) (m0 ++ [a]) → cel G' (z + 54 + 22) pre → Q G') → wpX11_go f (z + 54) (nI pre.length) (nI b) G Q := by
  have hM := hi.1.1
  have hAR : ∀ o ∈ [19, 21, 22, 23], 18 < o ∧ o ≤ 26 := by decide
  have hsub : ∀ x ∈ [19, 23], x ∈ [19, 21, 22, 23] := by decide
  have hsub2 : ∀ x ∈ [21, 22], x ∈ [19, 21, 22, 23] := by decide
  induction r with
  | zero =>
    intro f a m0 pre h G Q hf ha hpl hml hmx hrp fx hI cm cp _ hQ
    obtain ⟨f, rfl⟩ : ∃ f', f = f' + 1 := ⟨f - 1, by omega⟩
    have hm := h0.fx fx n1 n15 hAR
    have ea : gI G (z + 54 + 21) pre.length = nI a := by rw [← hml]; exact cm.at
    unfold wpX11_go
    refine ⟨hm.K, ifP (by rw [fx.I 29 n29, e29, show pre.length = len by omega]) ?_⟩
    refine hm.2.at 21 27 20 11 rfl rfl rfl (by omega) (by omega) (vp_in_nI (by omega) (by decide)) ?_
    rw [nI_clamp (by omega), ea]
    unfold dfx at hQ
    refine ifE (fun c => ?_) (fun c => ?_)
    · rw [nI_eqI (by omega) (by omega)] at c
      rw [if_pos c] at hQ
      rw [show pre.length = len by omega]
      exact hv h pre G Q _ fx hI cp (by omega) hrp (fun G' f' I' => hQ G' (fx.up f' (fun _ q => q) (fun _ q => q) hsub) I' (cm.same (fun j => f'.AI 21 j (by omega) (by decide))) (cp.same (fun j => f'.AI 22 j (by omega) (by decide))))
    · rw [nI_eqI (by omega) (by omega)] at c
      rw [if_neg c, List.append_nil] at hQ
      exact hQ G fx hI cm cp
  | succ r ih =>
    intro f a m0 pre h G Q hf ha hpl hml hmx hrp fx hI cm cp hz hQ
    obtain ⟨f, rfl⟩ : ∃ f', f = f' + 1 := ⟨f - 1, by omega⟩
    have hm := h0.fx fx n1 n15 hAR
    have ea : gI G (z + 54 + 21) pre.length = nI a := by rw [← hml]; exact cm.at
    have run : a ≠ b → wpX11_go_101 (fun a0 p1 p2 G Q => wpX11_go f a0 p1 p2 G Q) Q (z + 54) (nI pre.length) (nI b) G := by
      intro nab
      unfold dfx at hQ
      rw [if_neg nab, ← oq_opl] at hQ
      have loop : ∀ (n i : Nat) (h' : List (List Nat)) (G : Wd), i ≤ sM S → i + n = sM S + 1 → fxM (z + 54) SI SJ [19, 21, 22, 23] G0 G → I h' G → cel G (z + 54 + 21) (m0 ++ [a]) → cel G (z + 54 + 22) pre → (∀ G', fxM (z + 54) SI SJ [19, 21, 22, 23] G0 G' → I (h' ++ (oq S p d i (sM S - i)).flatMap (fun k => if can S (m0 ++ [a]) a k then dfx S b (oq S p d 0 (sM S)) r (nxt S a k) (m0 ++ [a] ++ [nxt S a k]) (pre ++ [rx S a k]) else [])) G' → cel G' (z + 54 + 21) (m0 ++ [a]) → cel G' (z + 54 + 22) pre → Q G') → wpX11_go_103 (fun a0 p1 p2 G Q => wpX11_go f a0 p1 p2 G Q) Q n (z + 54) (nI pre.length) (nI b) (nI i) G := by
        intro n
        induction n with
        | zero => intro i h' G le e; omega
        | succ n ihn =>
          intro i h' G le e fx hI cm cp hQ
          have hm := h0.fx fx n1 n15 hAR
          have ea : gI G (z + 54 + 21) pre.length = nI a := by rw [← hml]; exact cm.at
          unfold wpX11_go_103
          refine ⟨hm.K, ?_⟩
          rw [hm.M]
          refine ifE (fun c => ?_) (fun c => ?_)
          · rw [nI_leI (by omega) (by omega)] at c
            rw [show sM S - i = 0 by omega] at hQ
            exact hQ G fx (by rw [show oq S p d i 0 = [] by cases i <;> rfl, List.flatMap_nil, List.append_nil]; exact hI) cm cp
          · rw [nI_leI (by omega) (by omega)] at c
            have hk : i < sM S := by omega
            obtain ⟨q3, q4, w3, w4⟩ := fr_rng hi hk
            rw [show sM S - i = (sM S - (i + 1)) + 1 by omega] at hQ
            rw [oq_s, List.flatMap_append, ← List.append_assoc] at hQ
            have vi : vp_in (nI i) 24 := vp_in_nI (by omega) (by decide)
            have vn : vp_in (nI pre.length) 11 := vp_in_nI (by omega) (by decide)
            have g3 : gI G (z + 54 + 3) (nI i).toNatClampNeg = nI (fr S i) := by rw [nI_clamp (by omega), hm.I 3 i (by omega) (by omega) (by show i < 24; omega)]; exact w3
            have g4 : gI G (z + 54 + 4) (nI i).toNatClampNeg = nI (tt S i) := by rw [nI_clamp (by omega), hm.I 4 i (by omega) (by omega) (by show i < 24; omega)]; exact w4
            have ga : gI G (z + 54 + 21) (nI pre.length).toNatClampNeg = nI a := by rw [nI_clamp (by omega)]; exact ea
            have g20 : gI G (z + 54 + 20) (nI i).toNatClampNeg = cnt S i p d := by rw [nI_clamp (by omega), fx.AI 20 i (by omega) (by decide)]; exact hc i hk
            -- it is passed by
            have skip : (cnt S i p d = 0 ∨ can S (m0 ++ [a]) a i = false) → wpX11_go_256 (fun a0 p1 p2 G Q => wpX11_go f a0 p1 p2 G Q) Q (fun y0 y1 y2 y3 y4 => wpX11_go_103 (fun a0 p1 p2 G Q => wpX11_go f a0 p1 p2 G Q) Q n y0 y1 y2 y3 y4) (z + 54) (nI pre.length) (nI b) (nI i) G := by
              intro cs
              unfold wpX11_go_256
              intro x hx
              rw [nI_1] at hx; subst hx
              refine ihn (i + 1) h' G (by omega) (by omega) fx hI cm cp (fun G' f' I' c1 c2 => hQ G' f' ?_ c1 c2)
              have e1 : (if cnt S i p d = 0 then [] else [i] : List Nat).flatMap (fun k => if can S (m0 ++ [a]) a k then dfx S b (oq S p d 0 (sM S)) r (nxt S a k) (m0 ++ [a] ++ [nxt S a k]) (pre ++ [rx S a k]) else []) = [] := by
                rcases cs with cs | cs
                · rw [if_pos cs]; rfl
                · split
                  · rfl
                  · rw [List.flatMap_cons, List.flatMap_nil, cs]; rfl
              rw [e1, List.append_nil]
              exact I'
            refine hm.2.at 20 26 22 24 rfl rfl rfl (by omega) (by omega) vi ?_
            rw [g20]
            refine ifE (fun cz => skip (Or.inl cz)) (fun cz => ?_)
            -- it is taken, or the next measure was met
            have go207 : ∀ (t : Bool), (t = true ↔ fr S i ≠ a) → (fr S i = a ∨ tt S i = a) → wpX11_go_207 (fun a0 p1 p2 G Q => wpX11_go f a0 p1 p2 G Q) Q (fun y0 y1 y2 y3 y4 => wpX11_go_103 (fun a0 p1 p2 G Q => wpX11_go f a0 p1 p2 G Q) Q n y0 y1 y2 y3 y4) (z + 54) (nI pre.length) (nI b) (nI i) (if t then 1 else 0) (nI (nxt S a i)) G := by
              intro t ht touch
              have hnx : nxt S a i < 10 := by unfold nxt; split <;> assumption
              have ml : (m0 ++ [a]).length = pre.length + 1 := by rw [List.length_append, hml]; rfl
              have mx : ∀ x ∈ m0 ++ [a], x < 10 := fun x hx => by
                rcases List.mem_append.mp hx with q | q
                · exact hmx x q
                · rw [List.mem_singleton.mp q]; exact ha
              unfold wpX11_go_207
              refine ⟨hm.K, X11_isMet hm cm ml (by omega) mx hnx (ifE (fun cm0 => ?_) (fun cm0 => ?_))⟩
              · have nm : nxt S a i ∉ m0 ++ [a] := fun q => by rw [if_pos q] at cm0; exact n10 cm0
                have hcan : can S (m0 ++ [a]) a i = true := decide_eq_true ⟨touch, nm⟩
                obtain ⟨k22, l22, r22⟩ := hm.2.1.2 22 (by omega) (by omega)
                obtain ⟨k21, l21, r21⟩ := hm.2.1.2 21 (by omega) (by omega)
                have go237 : wpX11_go_237 (fun a0 p1 p2 G Q => wpX11_go f a0 p1 p2 G Q) Q (fun y0 y1 y2 y3 y4 => wpX11_go_103 (fun a0 p1 p2 G Q => wpX11_go f a0 p1 p2 G Q) Q n y0 y1 y2 y3 y4) (z + 54) (nI pre.length) (nI b) (nI i) (nI (nxt S a i)) (z + 54 + 22) (nI pre.length) (nI (rx S a i)) G := by
                  unfold wpX11_go_237
                  refine ⟨k22, by rw [l22]; exact vp_in_nI (by show pre.length < 25; omega) (by decide), fun G4 e4 => ?_⟩
                  rw [nI_clamp (by omega)] at e4
                  have f4 : fxM (z + 54) [] [] [21, 22] G G4 := by rw [e4]; exact fxM.rf.aI 22 _ _ (by decide) (by omega)
                  refine ⟨by rw [f4.K]; exact hm.K, z + 54 + 21, by rw [f4.R]; exact r21, by rw [f4.K]; exact k21, by rw [f4.N, l21, nI_1]; exact vp_in_nI (by show pre.length + 1 < 11; omega) (by decide), fun G5 e5 => ?_⟩
                  rw [nI_1] at e5 ⊢
                  rw [nI_clamp (by omega)] at e5
                  have f5 : fxM (z + 54) [] [] [21, 22] G G5 := by rw [e5]; exact f4.aI 21 _ _ (by decide) (by omega)
                  have c21 : cel G5 (z + 54 + 21) (m0 ++ [a] ++ [nxt S a i]) := by
                    rw [e5, ← ml]
                    exact cel.snoc (cm.same (fun j => by rw [e4, gI_uI, if_neg (by omega)])) _
                  have c22 : cel G5 (z + 54 + 22) (pre ++ [rx S a i]) := by
                    have := cp.snoc (rx S a i)
                    rw [← e4] at this
                    exact this.same (fun j => by rw [e5, gI_uI, if_neg (by omega)])
                  have key := ih f (nxt S a i) (m0 ++ [a]) (pre ++ [rx S a i]) h' G5 (fun G6 => wpX11_go_256 (fun a0 p1 p2 G Q => wpX11_go f a0 p1 p2 G Q) Q (fun y0 y1 y2 y3 y4 => wpX11_go_103 (fun a0 p1 p2 G Q => wpX11_go f a0 p1 p2 G Q) Q n y0 y1 y2 y3 y4) (z + 54) (nI pre.length) (nI b) (nI i) G6) (by omega) hnx (by rw [List.length_append]; show pre.length + 1 + r = len; omega) (by rw [List.length_append (as := pre), ml]; rfl) mx (hrp.snoc hM hk) (fx.up f5 (fun _ q => nomatch q) (fun _ q => nomatch q) hsub2) (hst _ _ _ hI f5) c21 c22 (fun q => by rw [List.length_append] at q; have q' : pre.length + 1 = 0 := q; omega) (fun G6 f6 I6 c61 c62 => by
                    show ∀ x1 : Int32, x1 = nI i + 1 → wpX11_go_103 _ Q n (z + 54) (nI pre.length) (nI b) x1 G6
                    intro x hx
                    rw [nI_1] at hx; subst hx
                    refine ihn (i + 1) _ G6 (by omega) (by omega) f6 I6 c61.cut c62.cut (fun G' f' I' c1 c2 => hQ G' f' ?_ c1 c2)
                    rw [if_neg cz, List.flatMap_cons, List.flatMap_nil, List.append_nil, if_pos hcan, oq_opl]
                    rw [oq_opl] at I'
                    exact I')
                  rw [List.length_append] at key
                  exact key
                refine ⟨hm.K, z + 54 + 22, r22, ?_⟩
                cases t with
                | false =>
                  refine ifP rfl ?_
                  have e : rx S a i = i := by unfold rx; exact if_pos (Classical.byContradiction (fun q => by have := ht.mpr q; cases this))
                  have g := go237
                  rw [e] at g
                  exact g
                | true =>
                  refine ifN (fun e => n10 e) ?_
                  have e : rx S a i = 100 + i := by unfold rx; rw [if_neg (ht.mp rfl)]; omega
                  have g := go237
                  rw [e, ← nI_add] at g
                  exact g
              · refine skip (Or.inr ?_)
                have nm : nxt S a i ∈ m0 ++ [a] := Classical.byContradiction (fun q => cm0 (by rw [if_neg q]))
                exact decide_eq_false (fun q => q.2 nm)
            have go165 : fr S i ≠ tt S i → (fr S i = a ∨ tt S i = a) → wpX11_go_165 (fun a0 p1 p2 G Q => wpX11_go f a0 p1 p2 G Q) Q (fun y0 y1 y2 y3 y4 => wpX11_go_103 (fun a0 p1 p2 G Q => wpX11_go f a0 p1 p2 G Q) Q n y0 y1 y2 y3 y4) (z + 54) (nI pre.length) (nI b) (nI i) G := by
              intro ne touch
              unfold wpX11_go_165
              refine ⟨hm.K, hm.2.at 4 4 20 24 rfl rfl rfl (by omega) (by omega) vi ?_⟩
              refine hm.2.at 21 27 20 11 rfl rfl rfl (by omega) (by omega) vn ?_
              rw [g4, ga]
              refine ifE (fun ct => ?_) (fun ct => ?_)
              · rw [nI_eqI (by omega) (by omega)] at ct
                refine ifN (fun e => n10 e) ⟨hm.K, hm.2.at 3 3 20 24 rfl rfl rfl (by omega) (by omega) vi ?_⟩
                have nf : fr S i ≠ a := fun q => ne (by rw [q, ct])
                have e : nxt S a i = fr S i := by unfold nxt; exact if_neg nf
                have g := go207 true (by simp [nf]) touch
                rw [e] at g
                rw [g3]
                exact g
              · rw [nI_eqI (by omega) (by omega)] at ct
                refine ifP rfl ⟨hm.K, hm.2.at 4 4 20 24 rfl rfl rfl (by omega) (by omega) vi ?_⟩
                have nf : fr S i = a := by rcases touch with q | q; exact q; exact absurd q ct
                have e : nxt S a i = tt S i := by unfold nxt; exact if_pos nf
                have g := go207 false (by simp [nf]) touch
                rw [e] at g
                rw [g4]
                exact g
            refine hm.2.at 3 3 20 24 rfl rfl rfl (by omega) (by omega) vi ?_
            refine hm.2.at 4 4 20 24 rfl rfl rfl (by omega) (by omega) vi ?_
            rw [g3, g4]
            refine ifE (fun ce => ?_) (fun ce => ?_)
            · rw [nI_eqI (by omega) (by omega)] at ce
              refine skip (Or.inr (decide_eq_false (fun q => q.2 ?_)))
              have : nxt S a i = a := by
                unfold nxt
                split
                · next z => rw [← ce]; exact z
                · rcases q.1 with z | z
                  · exact z
                  · rw [ce]; exact z
              rw [this]
              exact List.mem_append.mpr (Or.inr (List.mem_singleton.mpr rfl))
            · rw [nI_eqI (by omega) (by omega)] at ce
              refine hm.2.at 3 3 20 24 rfl rfl rfl (by omega) (by omega) vi ?_
              refine hm.2.at 21 27 20 11 rfl rfl rfl (by omega) (by omega) vn ?_
              rw [g3, ga]
              refine ifE (fun cf => ?_) (fun cf => ?_)
              · rw [nI_eqI (by omega) (by omega)] at cf
                exact go165 ce (Or.inl cf)
              · rw [nI_eqI (by omega) (by omega)] at cf
                refine hm.2.at 4 4 20 24 rfl rfl rfl (by omega) (by omega) vi ?_
                refine hm.2.at 21 27 20 11 rfl rfl rfl (by omega) (by omega) vn ?_
                rw [g4, ga]
                refine ifE (fun ct => ?_) (fun ct => ?_)
                · rw [nI_eqI (by omega) (by omega)] at ct
                  exact go165 ce (Or.inr ct)
                · rw [nI_eqI (by omega) (by omega)] at ct
                  exact skip (Or.inr (decide_eq_false (fun q => by rcases q.1 with z | z; exact cf z; exact ct z)))
      exact ⟨sM S + 1, loop (sM S + 1) 0 h G (by omega) (by omega) fx hI cm cp hQ⟩
    unfold wpX11_go
    refine ⟨hm.K, ifN (by rw [fx.I 29 n29, e29, nI_eqI (by omega) (by omega)]; omega) ?_⟩
    refine ifE (fun c0 => ?_) (fun c0 => ?_)
    · rw [i_le, nI_toInt (by omega), il0] at c0
      exact run (fun e => by have := hz (by omega) e; omega)
    · refine hm.2.at 21 27 20 11 rfl rfl rfl (by omega) (by omega) (vp_in_nI (by omega) (by decide)) ?_
      rw [nI_clamp (by omega), ea]
      refine ifE (fun c => ?_) (fun c => ?_)
      · rw [nI_eqI (by omega) (by omega)] at c
        unfold dfx at hQ
        rw [if_pos c, List.append_nil] at hQ
        exact hQ G fx hI cm cp
      · rw [nI_eqI (by omega) (by omega)] at c
        exact run c
