/-! ===== rings: the class's order and the reference's ===== -/
theorem rx1_filter (S : St) (j k : Nat) (t : Bool) (ld : List Nat) (h1 : 1 ≤ j) (h2 : j ≤ 10) : (rg1 S k t ld).filter (fun r => r.length == j) = rx1 S j k t ld := by
  unfold rg1 rx1
  rw [← dfs_filter S _ ld 9 (j - 1) _ _ _ (by omega)]
  congr 1
  funext r
  show (r.length == j) = (r.length == 1 + (j - 1))
  rw [show 1 + (j - 1) = j by omega]
theorem rgx_filter (S : St) (j : Nat) (h1 : 1 ≤ j) (h2 : j ≤ 10) (l : List Nat) : (rgs S l).filter (fun r => r.length == j) = rgx S j l := by
  induction l with
  | nil => rfl
  | cons k l ih =>
    show (rg1 S k false l ++ (rg1 S k true l ++ rgs S l)).filter _ = rx1 S j k false l ++ (rx1 S j k true l ++ rgx S j l)
    rw [List.filter_append, List.filter_append, rx1_filter S j k false l h1 h2, rx1_filter S j k true l h1 h2, ih]
theorem rgs_row {S : St} {N : Nat} (hN : N ≤ 24) (l : List Nat) (hl : ∀ k ∈ l, k < N) : ∀ r ∈ rgs S l, rok N r ∧ 1 ≤ r.length ∧ r.length ≤ 10 := by
  induction l with
  | nil => intro r hr; exact nomatch hr
  | cons k l ih =>
    intro r hr
    have hk := hl k (List.mem_cons_self ..)
    have hl' : ∀ k ∈ l, k < N := fun x hx => hl x (List.mem_cons_of_mem _ hx)
    have one : ∀ t, r ∈ rg1 S k t l → rok N r ∧ 1 ≤ r.length ∧ r.length ≤ 10 := fun t h => by
      have a := dfs_len S _ l 9 _ _ _ r h
      have b := dfs_rok hN hl' 9 _ _ [if t then k + 100 else k] (fun x hx => by rw [List.mem_singleton.mp hx]; split <;> omega) r h
      have e : ([if t then k + 100 else k] : List Nat).length = 1 := rfl
      exact ⟨b, by omega, by omega⟩
    rcases List.mem_append.mp hr with q | q
    · exact one false q
    · rcases List.mem_append.mp q with w | w
      · exact one true w
      · exact ih hl' r w
theorem mem_rgL (S : St) (l : List Nat) (j : Nat) (hj : j ≤ 10) (r : List Nat) (h1 : ∀ r ∈ rgs S l, 1 ≤ r.length) : r ∈ rgL S l j ↔ r ∈ rgs S l ∧ r.length ≤ j := by
  induction j with
  | zero => exact ⟨fun h => (nomatch h), fun h => by have := h1 r h.1; omega⟩
  | succ j ih =>
    unfold rgL
    rw [List.mem_append, ih (by omega), ← rgx_filter S (j + 1) (by omega) hj l, List.mem_filter]
    have e : (r.length == j + 1) = true ↔ r.length = j + 1 := by simp
    rw [e]
    constructor
    · intro h
      rcases h with h | h
      · exact ⟨h.1, by omega⟩
      · exact ⟨h.1, by omega⟩
    · intro h
      by_cases c : r.length = j + 1
      · exact Or.inr ⟨h.1, c⟩
      · exact Or.inl ⟨h.1, by omega⟩
/-- either kind of step -/
def gst (K : Option (List Nat) → List Nat → Option (List Nat)) (S : St) (bo : Nat → Nat) (s : Jst) (r : List Nat) : Jst := if badB S r then (true, s.2.1, s.2.2) else if qr S r then (s.1, K s.2.1 r, fun n => s.2.2 n || n == msk bo r) else s
theorem run_bad {K : Option (List Nat) → List Nat → Option (List Nat)} {S : St} {bo : Nat → Nat} (L : List (List Nat)) : ∀ s : Jst, s.1 = false → ((run (gst K S bo) jstop s L).1 = true ↔ ∃ r ∈ L, badB S r = true) := by
  induction L with
  | nil =>
    intro s hs
    show s.1 = true ↔ _
    rw [hs]
    exact ⟨fun h => (nomatch h), fun ⟨r, hr, _⟩ => (nomatch hr)⟩
  | cons r L ih =>
    intro s hs
    show (if jstop s then s else run (gst K S bo) jstop (gst K S bo s r) L).1 = true ↔ _
    rw [show jstop s = false from hs]
    show (run (gst K S bo) jstop (gst K S bo s r) L).1 = true ↔ _
    by_cases c : badB S r = true
    · have e : gst K S bo s r = (true, s.2.1, s.2.2) := by unfold gst; rw [c]; rfl
      rw [e, run_stop (show jstop (true, s.2.1, s.2.2) = true from rfl)]
      exact ⟨fun _ => ⟨r, List.mem_cons_self .., c⟩, fun _ => rfl⟩
    · have c' : badB S r = false := by cases q : badB S r with | false => rfl | true => exact absurd q c
      have e : (gst K S bo s r).1 = false := by
        unfold gst
        rw [c']
        show (if qr S r = true then _ else s).1 = false
        split
        · exact hs
        · exact hs
      rw [ih _ e]
      constructor
      · intro ⟨x, hx, h⟩; exact ⟨x, List.mem_cons_of_mem _ hx, h⟩
      · intro ⟨x, hx, h⟩
        rcases List.mem_cons.mp hx with q | q
        · rw [q] at h; exact absurd h c
        · exact ⟨x, q, h⟩
theorem run_ok {K : Option (List Nat) → List Nat → Option (List Nat)} {S : St} {bo : Nat → Nat} (L : List (List Nat)) : ∀ s : Jst, s.1 = false → (∀ r ∈ L, badB S r = false) → run (gst K S bo) jstop s L = (false, (L.filter (qr S)).foldl K s.2.1, fun n => s.2.2 n || (L.filter (qr S)).any (fun r => n == msk bo r)) := by
  induction L with
  | nil =>
    intro s hs _
    show s = (false, s.2.1, fun n => s.2.2 n || false)
    obtain ⟨a, b, c⟩ := s
    have hs : a = false := hs
    rw [hs]
    show (false, b, c) = (false, b, fun n => c n || false)
    congr 2
    funext n
    rw [Bool.or_false]
  | cons r L ih =>
    intro s hs hb
    show (if jstop s then s else run (gst K S bo) jstop (gst K S bo s r) L) = _
    rw [show jstop s = false from hs]
    show run (gst K S bo) jstop (gst K S bo s r) L = _
    have c' := hb r (List.mem_cons_self ..)
    have hb' : ∀ x ∈ L, badB S x = false := fun x hx => hb x (List.mem_cons_of_mem _ hx)
    by_cases q : qr S r = true
    · have e : gst K S bo s r = (s.1, K s.2.1 r, fun n => s.2.2 n || n == msk bo r) := by unfold gst; rw [c', q]; rfl
      rw [e, ih (s.1, K s.2.1 r, fun n => s.2.2 n || n == msk bo r) hs hb', List.filter_cons_of_pos q]
      show (false, _, fun n => (s.2.2 n || n == msk bo r) || _) = (false, _, fun n => s.2.2 n || (n == msk bo r || _))
      congr 2
      funext n
      rw [Bool.or_assoc]
    · have q' : qr S r = false := by cases w : qr S r with | false => rfl | true => exact absurd w q
      have e : gst K S bo s r = s := by unfold gst; rw [c', q']; rfl
      rw [e, ih s hs hb', List.filter_cons_of_neg q]
/-! the best: the class's comparison and the reference's -/
theorem bm_same (j : Nat) (E : List (List Nat)) : ∀ m : Option (List Nat), (∀ r ∈ E, r.length = j) → (∀ k, m = some k → k.length = j) → E.foldl bstep m = E.foldl mkeep m ∧ ∀ k, E.foldl mkeep m = some k → k.length = j := by
  induction E with
  | nil => intro m _ hm; exact ⟨rfl, hm⟩
  | cons r E ih =>
    intro m hE hm
    have hr := hE r (List.mem_cons_self ..)
    have e : bstep m r = mkeep m r := by
      cases m with
      | none => rfl
      | some k =>
        have hk := hm k rfl
        show (if lt2 r k then some r else some k) = (if k.length = r.length then _ else _)
        have e1 : lt2 r k = lexB r k := if_pos (show r.length = k.length by omega)
        rw [e1, if_pos (show k.length = r.length by omega)]
    have hm' : ∀ k, mkeep m r = some k → k.length = j := by
      intro k hk
      cases m with
      | none => have := Option.some.inj hk; rw [← this]; exact hr
      | some k0 =>
        have hk0 := hm k0 rfl
        have hk' : (if k0.length = r.length then (if lexB r k0 then some r else some k0) else some k0) = some k := hk
        split at hk'
        · split at hk'
          · have := Option.some.inj hk'; rw [← this]; exact hr
          · have := Option.some.inj hk'; rw [← this]; exact hk0
        · have := Option.some.inj hk'; rw [← this]; exact hk0
    rw [List.foldl_cons, List.foldl_cons, e]
    exact ih _ (fun x hx => hE x (List.mem_cons_of_mem _ hx)) hm'
theorem m_long (j : Nat) (E : List (List Nat)) (k : List Nat) (hk : k.length = j) (hE : ∀ r ∈ E, r.length ≠ j) : E.foldl mkeep (some k) = some k := by
  induction E with
  | nil => rfl
  | cons r E ih =>
    rw [List.foldl_cons]
    have : mkeep (some k) r = some k := if_neg (by have := hE r (List.mem_cons_self ..); omega)
    rw [this]
    exact ih (fun x hx => hE x (List.mem_cons_of_mem _ hx))
theorem fold_some {K : Option (List Nat) → List Nat → Option (List Nat)} (hK : ∀ m r, ∃ k, K m r = some k) (E : List (List Nat)) (m : Option (List Nat)) (h : E ≠ [] ∨ ∃ k, m = some k) : ∃ k, E.foldl K m = some k := by
  induction E generalizing m with
  | nil =>
    rcases h with h | h
    · exact absurd rfl h
    · exact h
  | cons r E ih => exact ih _ (Or.inr (hK m r))
theorem mkeep_some (m : Option (List Nat)) (r : List Nat) : ∃ k, mkeep m r = some k := by
  cases m with
  | none => exact ⟨r, rfl⟩
  | some k =>
    show ∃ k', (if k.length = r.length then (if lexB r k then some r else some k) else some k) = some k'
    split
    · split
      · exact ⟨r, rfl⟩
      · exact ⟨k, rfl⟩
    · exact ⟨k, rfl⟩
/-- rows of length j come before all others: the others don't matter -/
theorem b_least (j : Nat) (D : List (List Nat)) : ∀ m : Option (List Nat), (∀ r ∈ D, j ≤ r.length) → ((∃ k, m = some k ∧ k.length = j) → D.foldl bstep m = (D.filter (fun r => r.length == j)).foldl bstep m) ∧ ((∀ k, m = some k → j < k.length) → D.filter (fun r => r.length == j) ≠ [] → D.foldl bstep m = (D.filter (fun r => r.length == j)).foldl bstep none) := by
  induction D with
  | nil => intro m _; exact ⟨fun _ => rfl, fun _ h => absurd rfl h⟩
  | cons r D ih =>
    intro m hD
    have hr := hD r (List.mem_cons_self ..)
    have hD' : ∀ x ∈ D, j ≤ x.length := fun x hx => hD x (List.mem_cons_of_mem _ hx)
    by_cases c : r.length = j
    · rw [List.filter_cons_of_pos (by simpa using c), List.foldl_cons, List.foldl_cons]
      refine ⟨fun ⟨k, hm, hk⟩ => ?_, fun hm _ => ?_⟩
      · refine (ih (bstep m r) hD').1 ?_
        rw [hm]
        show ∃ k', (if lt2 r k then some r else some k) = some k' ∧ _
        split
        · exact ⟨r, rfl, c⟩
        · exact ⟨k, rfl, hk⟩
      · rw [List.foldl_cons]
        have e : bstep m r = some r := by
          cases m with
          | none => rfl
          | some k =>
            have := hm k rfl
            show (if lt2 r k then some r else some k) = some r
            rw [show lt2 r k = true by unfold lt2; rw [if_neg (by omega)]; exact decide_eq_true (by omega)]; rfl
        rw [e]
        exact (ih (some r) hD').1 ⟨r, rfl, c⟩
    · rw [List.filter_cons_of_neg (by simpa using c), List.foldl_cons]
      refine ⟨fun ⟨k, hm, hk⟩ => ?_, fun hm hne => ?_⟩
      · have e : bstep m r = m := by
          rw [hm]
          show (if lt2 r k then some r else some k) = some k
          rw [show lt2 r k = false by unfold lt2; rw [if_neg (by omega)]; exact decide_eq_false (by omega)]; rfl
        rw [e]
        exact (ih m hD').1 ⟨k, hm, hk⟩
      · refine (ih (bstep m r) hD').2 (fun k hk => ?_) hne
        cases m with
        | none => have := Option.some.inj hk; rw [← this]; omega
        | some k0 =>
          have h0 := hm k0 rfl
          have hk' : (if lt2 r k0 then some r else some k0) = some k := hk
          split at hk'
          · have := Option.some.inj hk'; rw [← this]; omega
          · have := Option.some.inj hk'; rw [← this]; exact h0
def DL (D : List (List Nat)) : Nat → List (List Nat)
  | 0 => []
  | j + 1 => DL D j ++ D.filter (fun r => r.length == j + 1)
theorem best_eq (D : List (List Nat)) (h1 : ∀ r ∈ D, 1 ≤ r.length) (j : Nat) : ((∀ r ∈ D, j < r.length) ∧ DL D j = []) ∨ ((DL D j).foldl mkeep none = D.foldl bstep none ∧ ∃ i, i ≤ j ∧ ∃ k, (DL D j).foldl mkeep none = some k ∧ k.length = i) := by
  induction j with
  | zero => exact Or.inl ⟨fun r hr => by have := h1 r hr; omega, rfl⟩
  | succ j ih =>
    rcases ih with ⟨a, b⟩ | ⟨a, i, hi, k, hk, hl⟩
    · by_cases c : D.filter (fun r => r.length == j + 1) = []
      · refine Or.inl ⟨fun r hr => ?_, by unfold DL; rw [b, c]; rfl⟩
        have := a r hr
        have n : r.length ≠ j + 1 := fun q => by
          have : r ∈ D.filter (fun r => r.length == j + 1) := List.mem_filter.mpr ⟨hr, by simpa using q⟩
          rw [c] at this
          exact nomatch this
        omega
      · refine Or.inr ?_
        have eD : DL D (j + 1) = D.filter (fun r => r.length == j + 1) := by unfold DL; rw [b]; rfl
        have hE : ∀ r ∈ D.filter (fun r => r.length == j + 1), r.length = j + 1 := fun r hr => by simpa using (List.mem_filter.mp hr).2
        have s := bm_same (j + 1) (D.filter (fun r => r.length == j + 1)) none hE (fun k hk => by cases hk)
        have l := (b_least (j + 1) D none (fun r hr => a r hr)).2 (fun k hk => by cases hk) c
        obtain ⟨k, hk⟩ := fold_some mkeep_some (D.filter (fun r => r.length == j + 1)) none (Or.inl c)
        rw [eD]
        exact ⟨by rw [l, s.1], j + 1, Nat.le_refl _, k, hk, s.2 k hk⟩
    · refine Or.inr ?_
      have e : (DL D (j + 1)).foldl mkeep none = (DL D j).foldl mkeep none := by
        show (DL D j ++ _).foldl mkeep none = _
        rw [List.foldl_append, hk]
        exact m_long i _ k hl (fun r hr => by
          have : r.length = j + 1 := by simpa using (List.mem_filter.mp hr).2
          omega)
      rw [e]
      exact ⟨a, i, by omega, k, hk, hl⟩
theorem best_10 (D : List (List Nat)) (h1 : ∀ r ∈ D, 1 ≤ r.length ∧ r.length ≤ 10) : (DL D 10).foldl mkeep none = D.foldl bstep none := by
  rcases best_eq D (fun r hr => (h1 r hr).1) 10 with ⟨a, b⟩ | ⟨a, _⟩
  · have : D = [] := by
      cases D with
      | nil => rfl
      | cons r D => have := a r (List.mem_cons_self ..); have := (h1 r (List.mem_cons_self ..)).2; omega
    rw [b, this]; rfl
  · exact a
theorem DL_rgL (S : St) (l : List Nat) (j : Nat) (hj : j ≤ 10) : (rgL S l j).filter (qr S) = DL ((rgs S l).filter (qr S)) j := by
  induction j with
  | zero => rfl
  | succ j ih =>
    unfold rgL DL
    rw [List.filter_append, ih (by omega), ← rgx_filter S (j + 1) (by omega) hj l, List.filter_filter, List.filter_filter]
    congr 2
    funext r
    exact Bool.and_comm _ _
/-- both searches end alike -/
theorem rings_eq {S : St} (hi : Inv S) (bo : Nat → Nat) (l : List Nat) (hl : ∀ k ∈ l, k < sM S) : (run (mstep S bo) jstop jst0 (rgL S l 10)).1 = (run (jstep S bo) jstop jst0 (rgs S l)).1 ∧ ((run (jstep S bo) jstop jst0 (rgs S l)).1 = false → run (mstep S bo) jstop jst0 (rgL S l 10) = run (jstep S bo) jstop jst0 (rgs S l)) := by
  have hrow := rgs_row (S := S) hi.1.1 l hl
  have hm := fun r => mem_rgL S l 10 (Nat.le_refl _) r (fun r hr => (hrow r hr).2.1)
  have hm' : ∀ r, r ∈ rgL S l 10 ↔ r ∈ rgs S l := fun r => by rw [hm r]; exact ⟨fun h => h.1, fun h => ⟨h, (hrow r h).2.2⟩⟩
  have b1 := run_bad (K := mkeep) (S := S) (bo := bo) (rgL S l 10) jst0 rfl
  have b2 := run_bad (K := bstep) (S := S) (bo := bo) (rgs S l) jst0 rfl
  have e1 : (run (mstep S bo) jstop jst0 (rgL S l 10)).1 = true ↔ (run (jstep S bo) jstop jst0 (rgs S l)).1 = true := by
    show (run (gst mkeep S bo) jstop jst0 (rgL S l 10)).1 = true ↔ (run (gst bstep S bo) jstop jst0 (rgs S l)).1 = true
    rw [b1, b2]
    exact ⟨fun ⟨r, hr, h⟩ => ⟨r, (hm' r).mp hr, h⟩, fun ⟨r, hr, h⟩ => ⟨r, (hm' r).mpr hr, h⟩⟩
  refine ⟨?_, fun hf => ?_⟩
  · cases q : (run (jstep S bo) jstop jst0 (rgs S l)).1 with
    | true => exact e1.mpr q
    | false =>
      cases w : (run (mstep S bo) jstop jst0 (rgL S l 10)).1 with
      | false => rfl
      | true => rw [e1.mp w] at q; cases q
  · have nb : ∀ r ∈ rgs S l, badB S r = false := fun r hr => by
      cases q : badB S r with
      | false => rfl
      | true =>
        have := b2.mpr ⟨r, hr, q⟩
        have hf' : (run (gst bstep S bo) jstop jst0 (rgs S l)).1 = false := hf
        rw [this] at hf'; cases hf'
    have nb' : ∀ r ∈ rgL S l 10, badB S r = false := fun r hr => nb r ((hm' r).mp hr)
    show run (gst mkeep S bo) jstop jst0 (rgL S l 10) = run (gst bstep S bo) jstop jst0 (rgs S l)
    rw [run_ok (rgL S l 10) jst0 rfl nb', run_ok (rgs S l) jst0 rfl nb, DL_rgL S l 10 (Nat.le_refl _)]
    have hb := best_10 ((rgs S l).filter (qr S)) (fun r hr => (hrow r (List.mem_filter.mp hr).1).2)
    show (false, (DL ((rgs S l).filter (qr S)) 10).foldl mkeep none, fun n => false || (DL ((rgs S l).filter (qr S)) 10).any (fun r => n == msk bo r)) = (false, ((rgs S l).filter (qr S)).foldl bstep none, fun n => false || ((rgs S l).filter (qr S)).any (fun r => n == msk bo r))
    rw [hb]
    congr 2
    funext n
    rw [Bool.false_or, Bool.false_or, ← DL_rgL S l 10 (Nat.le_refl _), Bool.eq_iff_iff, List.any_eq_true, List.any_eq_true]
    constructor
    · intro ⟨r, hr, h⟩
      have := List.mem_filter.mp hr
      exact ⟨r, List.mem_filter.mpr ⟨(hm' r).mp this.1, this.2⟩, h⟩
    · intro ⟨r, hr, h⟩
      have := List.mem_filter.mp hr
      exact ⟨r, List.mem_filter.mpr ⟨(hm' r).mpr this.1, this.2⟩, h⟩
