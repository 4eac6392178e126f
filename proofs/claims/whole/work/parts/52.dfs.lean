/-! ===== rows of likenesses from a measure to another one: all of at most so many steps (dfs), all of just so many (dfx) ===== -/
/-- the ends of likeness k -/
def fr (S : St) (k : Nat) : Nat := nv (sA S 3 k)
def tt (S : St) (k : Nat) : Nat := nv (sA S 4 k)
def nxt (S : St) (a k : Nat) : Nat := if fr S k = a then tt S k else fr S k
def can (S : St) (met : List Nat) (a k : Nat) : Bool := decide ((fr S k = a ∨ tt S k = a) ∧ nxt S a k ∉ met)
def rx (S : St) (a k : Nat) : Nat := if fr S k = a then k else k + 100
def dfs (S : St) (b : Nat) (l : List Nat) : Nat → Nat → List Nat → List Nat → List (List Nat)
  | 0, a, _, pre => if a = b then [pre] else []
  | r + 1, a, met, pre => if a = b then [pre] else l.flatMap (fun k => if can S met a k then dfs S b l r (nxt S a k) (met ++ [nxt S a k]) (pre ++ [rx S a k]) else [])
def dfx (S : St) (b : Nat) (l : List Nat) : Nat → Nat → List Nat → List Nat → List (List Nat)
  | 0, a, _, pre => if a = b then [pre] else []
  | r + 1, a, met, pre => if a = b then [] else l.flatMap (fun k => if can S met a k then dfx S b l r (nxt S a k) (met ++ [nxt S a k]) (pre ++ [rx S a k]) else [])
theorem dfs_len (S : St) (b : Nat) (l : List Nat) (r : Nat) : ∀ a met pre, ∀ row ∈ dfs S b l r a met pre, pre.length ≤ row.length ∧ row.length ≤ pre.length + r := by
  induction r with
  | zero =>
    intro a met pre row h
    unfold dfs at h
    by_cases c : a = b
    · rw [if_pos c] at h; rw [List.mem_singleton.mp h]; omega
    · rw [if_neg c] at h; exact nomatch h
  | succ r ih =>
    intro a met pre row h
    unfold dfs at h
    by_cases c : a = b
    · rw [if_pos c] at h; rw [List.mem_singleton.mp h]; omega
    · rw [if_neg c] at h
      obtain ⟨k, _, hk⟩ := List.mem_flatMap.mp h
      by_cases d : can S met a k = true
      · rw [if_pos d] at hk
        have := ih _ _ _ row hk
        rw [List.length_append] at this
        have e : ([rx S a k] : List Nat).length = 1 := rfl
        omega
      · rw [if_neg d] at hk; exact nomatch hk
theorem flatMap_nil' {α β : Type} (l : List α) (f : α → List β) (h : ∀ x ∈ l, f x = []) : l.flatMap f = [] := by
  induction l with
  | nil => rfl
  | cons x l ih => rw [List.flatMap_cons, h x (List.mem_cons_self ..), ih (fun y hy => h y (List.mem_cons_of_mem _ hy))]; rfl
theorem filter_flatMap' {α β : Type} (l : List α) (f g : α → List β) (p : β → Bool) (h : ∀ x ∈ l, (f x).filter p = g x) : (l.flatMap f).filter p = l.flatMap g := by
  induction l with
  | nil => rfl
  | cons x l ih => rw [List.flatMap_cons, List.flatMap_cons, List.filter_append, h x (List.mem_cons_self ..), ih (fun y hy => h y (List.mem_cons_of_mem _ hy))]
theorem dfs_filter (S : St) (b : Nat) (l : List Nat) (r : Nat) : ∀ j a met pre, j ≤ r → (dfs S b l r a met pre).filter (fun row => row.length == pre.length + j) = dfx S b l j a met pre := by
  induction r with
  | zero =>
    intro j a met pre hj
    have : j = 0 := by omega
    subst this
    unfold dfs dfx
    by_cases c : a = b
    · rw [if_pos c]; simp
    · rw [if_neg c]; rfl
  | succ r ih =>
    intro j a met pre hj
    unfold dfs
    by_cases c : a = b
    · rw [if_pos c]
      cases j with
      | zero => unfold dfx; rw [if_pos c]; simp
      | succ j => unfold dfx; rw [if_pos c]; simp
    · rw [if_neg c]
      cases j with
      | zero =>
        unfold dfx
        rw [if_neg c]
        rw [filter_flatMap' l _ (fun _ => []) _ (fun k _ => ?_)]
        · exact flatMap_nil' _ _ (fun _ _ => rfl)
        · by_cases d : can S met a k = true
          · rw [if_pos d]
            rw [List.filter_eq_nil_iff]
            intro row hrow
            have := dfs_len S b l r _ _ _ row hrow
            rw [List.length_append] at this
            have e : ([rx S a k] : List Nat).length = 1 := rfl
            simp
            omega
          · rw [if_neg d]; rfl
      | succ j =>
        unfold dfx
        rw [if_neg c]
        refine filter_flatMap' l _ _ _ (fun k _ => ?_)
        by_cases d : can S met a k = true
        · rw [if_pos d, if_pos d, ← ih j (nxt S a k) (met ++ [nxt S a k]) (pre ++ [rx S a k]) (by omega)]
          congr 1
          funext row
          rw [List.length_append]
          have e : ([rx S a k] : List Nat).length = 1 := rfl
          rw [e, Nat.add_assoc, Nat.add_comm 1 j]
        · rw [if_neg d, if_neg d]; rfl
/-- rows hold numbers of likenesses, turned or not -/
def rok (N : Nat) (row : List Nat) : Prop := ∀ x ∈ row, x % 100 < N ∧ x < 200
theorem rok.snoc {N : Nat} {row : List Nat} (h : rok N row) (hN : N ≤ 24) {S : St} {a k : Nat} (hk : k < N) : rok N (row ++ [rx S a k]) := by
  intro x hx
  rcases List.mem_append.mp hx with q | q
  · exact h x q
  · rw [List.mem_singleton.mp q]
    unfold rx
    split <;> omega
theorem dfs_rok {S : St} {b N : Nat} {l : List Nat} (hN : N ≤ 24) (hl : ∀ k ∈ l, k < N) (r : Nat) : ∀ a met pre, rok N pre → ∀ row ∈ dfs S b l r a met pre, rok N row := by
  induction r with
  | zero =>
    intro a met pre hp row h
    unfold dfs at h
    by_cases c : a = b
    · rw [if_pos c] at h; rw [List.mem_singleton.mp h]; exact hp
    · rw [if_neg c] at h; exact nomatch h
  | succ r ih =>
    intro a met pre hp row h
    unfold dfs at h
    by_cases c : a = b
    · rw [if_pos c] at h; rw [List.mem_singleton.mp h]; exact hp
    · rw [if_neg c] at h
      obtain ⟨k, kl, hk⟩ := List.mem_flatMap.mp h
      by_cases d : can S met a k = true
      · rw [if_pos d] at hk
        exact ih _ _ _ (hp.snoc hN (hl k kl)) row hk
      · rw [if_neg d] at hk; exact nomatch hk
/-! the number of rows -/
def fre (S : St) (met : List Nat) (k : Nat) : Bool := decide (fr S k ∉ met ∧ tt S k ∉ met)
theorem countP_two {α : Type} (p q r : α → Bool) (l : List α) (h : ∀ x, (p x = true → r x = true) ∧ (q x = true → r x = true) ∧ ¬ (p x = true ∧ q x = true)) : l.countP p + l.countP q ≤ l.countP r := by
  induction l with
  | nil => exact Nat.le_refl _
  | cons x l ih =>
    rw [List.countP_cons, List.countP_cons, List.countP_cons]
    obtain ⟨h1, h2, h3⟩ := h x
    by_cases a : p x = true
    · rw [if_pos a, if_pos (h1 a), if_neg (fun b => h3 ⟨a, b⟩)]; omega
    · rw [if_neg a]
      by_cases b : q x = true
      · rw [if_pos b, if_pos (h2 b)]; omega
      · rw [if_neg b]; omega
theorem flatMap_le {α β : Type} (l : List α) (p : α → Bool) (f : α → List β) (B : Nat) (h : ∀ x, p x = true → (f x).length ≤ B) : (l.flatMap (fun x => if p x then f x else [])).length ≤ l.countP p * B := by
  induction l with
  | nil => simp
  | cons x l ih =>
    rw [List.flatMap_cons, List.length_append, List.countP_cons]
    by_cases a : p x = true
    · rw [if_pos a, if_pos a, Nat.add_mul, Nat.one_mul]
      have := h x a
      omega
    · rw [if_neg a, if_neg a]
      have e : ([] : List β).length = 0 := rfl
      rw [e, Nat.add_zero]
      omega
theorem dfs_many (S : St) (b : Nat) (l : List Nat) (r : Nat) : ∀ a met pre, a ∉ met → (dfs S b l r a (met ++ [a]) pre).length ≤ 2 ^ l.countP (fre S met) := by
  induction r with
  | zero =>
    intro a met pre _
    unfold dfs
    have := Nat.pow_pos (a := 2) (n := l.countP (fre S met)) (by omega)
    split
    · exact this
    · exact Nat.zero_le _
  | succ r ih =>
    intro a met pre ha
    unfold dfs
    by_cases c : a = b
    · rw [if_pos c]
      have := Nat.pow_pos (a := 2) (n := l.countP (fre S met)) (by omega)
      exact this
    · rw [if_neg c]
      have h1 := flatMap_le l (can S (met ++ [a]) a) (fun k => dfs S b l r (nxt S a k) (met ++ [a] ++ [nxt S a k]) (pre ++ [rx S a k])) (2 ^ l.countP (fre S (met ++ [a]))) (fun k hk => by
        have hk' := of_decide_eq_true hk
        exact ih _ _ _ hk'.2)
      have h2 := countP_two (can S (met ++ [a]) a) (fre S (met ++ [a])) (fre S met) l (fun k => by
        unfold can fre nxt
        simp only [decide_eq_true_eq, List.mem_append, List.mem_singleton]
        by_cases e : fr S k = a
        · rw [if_pos e]
          refine ⟨fun q => ⟨by rw [e]; exact ha, fun z => q.2 (Or.inl z)⟩, fun q => ⟨fun z => q.1 (Or.inl z), fun z => q.2 (Or.inl z)⟩, fun q => q.2.1 (Or.inr e)⟩
        · rw [if_neg e]
          refine ⟨fun q => ⟨fun z => q.2 (Or.inl z), ?_⟩, fun q => ⟨fun z => q.1 (Or.inl z), fun z => q.2 (Or.inl z)⟩, fun q => ?_⟩
          · rcases q.1 with z | z
            · exact absurd z e
            · rw [z]; exact ha
          · rcases q.1.1 with z | z
            · exact e z
            · exact q.2.2 (Or.inr z))
      have h3 : l.countP (can S (met ++ [a]) a) * 2 ^ l.countP (fre S (met ++ [a])) ≤ 2 ^ l.countP (can S (met ++ [a]) a) * 2 ^ l.countP (fre S (met ++ [a])) := Nat.mul_le_mul_right _ (Nat.le_of_lt Nat.lt_two_pow_self)
      rw [← Nat.pow_add] at h3
      have h4 := Nat.pow_le_pow_right (n := 2) (by omega) h2
      omega
/-! distances -/
def wk (S : St) (b : Nat) (l : List Nat) : Nat → Nat → Prop
  | 0, n => n = b
  | r + 1, n => n = b ∨ ∃ k ∈ l, (fr S k = n ∨ tt S k = n) ∧ wk S b l r (nxt S n k)
theorem dfs_wk (S : St) (b : Nat) (l : List Nat) (r : Nat) : ∀ a met pre, ¬ wk S b l r a → dfs S b l r a met pre = [] := by
  induction r with
  | zero => intro a met pre h; unfold dfs; exact if_neg h
  | succ r ih =>
    intro a met pre h
    unfold dfs
    rw [if_neg (fun e => h (Or.inl e))]
    refine flatMap_nil' _ _ (fun k kl => ?_)
    by_cases d : can S met a k = true
    · rw [if_pos d]
      exact ih _ _ _ (fun w => h (Or.inr ⟨k, kl, (of_decide_eq_true d).1, w⟩))
    · rw [if_neg d]
def dw (d : Nat → Nat) (x y : Nat) : Nat → Nat := if d y + 1 < d x then (fun n => if n = x then d y + 1 else d n) else d
theorem dw_le (d : Nat → Nat) (x y n : Nat) : dw d x y n ≤ d n := by
  unfold dw
  split
  · dsimp only
    split
    · next c e => rw [e]; omega
    · exact Nat.le_refl _
  · exact Nat.le_refl _
theorem dw_x (d : Nat → Nat) (x y : Nat) : dw d x y x ≤ d y + 1 := by
  unfold dw
  split
  · dsimp only; rw [if_pos rfl]; exact Nat.le_refl _
  · omega
def pass (S : St) (d : Nat → Nat) : List Nat → Nat → Nat
  | [] => d
  | k :: l => pass S (dw (dw d (fr S k) (tt S k)) (tt S k) (fr S k)) l
theorem pass_le (S : St) (l : List Nat) : ∀ d n, pass S d l n ≤ d n := by
  induction l with
  | nil => intro d n; exact Nat.le_refl _
  | cons k l ih => intro d n; exact Nat.le_trans (ih _ n) (Nat.le_trans (dw_le _ _ _ n) (dw_le _ _ _ n))
theorem pass_edge (S : St) (l : List Nat) : ∀ d, ∀ k ∈ l, pass S d l (fr S k) ≤ d (tt S k) + 1 ∧ pass S d l (tt S k) ≤ d (fr S k) + 1 := by
  induction l with
  | nil => intro d k h; exact nomatch h
  | cons k0 l ih =>
    intro d k h
    have a1 := dw_x d (fr S k0) (tt S k0)
    have a2 := dw_le (dw d (fr S k0) (tt S k0)) (tt S k0) (fr S k0) (fr S k0)
    have a3 := dw_x (dw d (fr S k0) (tt S k0)) (tt S k0) (fr S k0)
    have a4 := dw_le d (fr S k0) (tt S k0) (fr S k0)
    rcases List.mem_cons.mp h with e | e
    · subst e
      have b1 := pass_le S l (dw (dw d (fr S k) (tt S k)) (tt S k) (fr S k)) (fr S k)
      have b2 := pass_le S l (dw (dw d (fr S k) (tt S k)) (tt S k) (fr S k)) (tt S k)
      exact ⟨Nat.le_trans b1 (by omega), Nat.le_trans b2 (by omega)⟩
    · have b := ih (dw (dw d (fr S k0) (tt S k0)) (tt S k0) (fr S k0)) k e
      have c1 := Nat.le_trans (dw_le (dw d (fr S k0) (tt S k0)) (tt S k0) (fr S k0) (tt S k)) (dw_le d (fr S k0) (tt S k0) (tt S k))
      have c2 := Nat.le_trans (dw_le (dw d (fr S k0) (tt S k0)) (tt S k0) (fr S k0) (fr S k)) (dw_le d (fr S k0) (tt S k0) (fr S k))
      exact ⟨Nat.le_trans b.1 (by omega), Nat.le_trans b.2 (by omega)⟩
/-- no way of at most t steps is shorter than told -/
def near (S : St) (b : Nat) (l : List Nat) (t : Nat) (d : Nat → Nat) : Prop := ∀ r, r ≤ t → ∀ n, wk S b l r n → d n ≤ r
theorem near_0 (S : St) (b : Nat) (l : List Nat) (d : Nat → Nat) (h : d b = 0) : near S b l 0 d := by
  intro r hr n w
  have : r = 0 := by omega
  subst this
  rw [show n = b from w, h]; exact Nat.le_refl _
theorem near_s {S : St} {b : Nat} {l : List Nat} {t : Nat} {d : Nat → Nat} (h : near S b l t d) (hb : d b = 0) : near S b l (t + 1) (pass S d l) := by
  intro r hr n w
  cases r with
  | zero => have := pass_le S l d n; rw [show n = b from w] at *; omega
  | succ r =>
    rcases w with w | ⟨k, kl, c, w⟩
    · have := pass_le S l d n; rw [w] at *; omega
    · have e := pass_edge S l d k kl
      have q := h r (by omega) _ w
      unfold nxt at q
      by_cases c' : fr S k = n
      · rw [if_pos c'] at q; rw [c'] at e; omega
      · rw [if_neg c'] at q
        have c2 : tt S k = n := by rcases c with z | z; exact absurd z c'; exact z
        rw [c2] at e; omega
theorem near_fix {S : St} {b : Nat} {l : List Nat} {d : Nat → Nat} (h : pass S d l = d) (hb : d b = 0) (t : Nat) : near S b l t d := by
  induction t with
  | zero => exact near_0 S b l d hb
  | succ t ih => have := near_s ih hb; rw [h] at this; exact this
