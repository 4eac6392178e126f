/-! ===== cure: choices, bits ===== -/
def dbt (S : St) (k : Nat) : Bool := decide (sA S 2 k = 2 ∨ sA S 2 k = 4)
def cl (S : St) (p d : Int32) (k : Nat) : List Nat := (opl S p d k).filter (dbt S)
theorem cl_s (S : St) (p d : Int32) (k : Nat) : cl S p d (k + 1) = cl S p d k ++ (if dck S p d k then [k] else []) := by
  show (opl S p d k ++ (if cnt S k p d = 0 then [] else [k])).filter (dbt S) = (opl S p d k).filter (dbt S) ++ _
  rw [List.filter_append]
  congr 1
  unfold dck
  by_cases c : cnt S k p d = 0
  · rw [if_pos c, decide_eq_false (fun q => q.1 c)]; rfl
  · rw [if_neg c]
    by_cases h : sA S 2 k = 2 ∨ sA S 2 k = 4
    · rw [decide_eq_true ⟨c, h⟩, List.filter_cons_of_pos (show dbt S k = true from decide_eq_true h)]; rfl
    · rw [decide_eq_false (fun q => h q.2), List.filter_cons_of_neg (show ¬ dbt S k = true from fun q => h (of_decide_eq_true q))]; rfl
theorem cl_len (S : St) (p d : Int32) (k : Nat) : (cl S p d k).length = dc S p d k := by
  induction k with
  | zero => rfl
  | succ k ih =>
    rw [cl_s, List.length_append, ih, dc_s]
    split <;> rfl
theorem cl_pre (S : St) (p d : Int32) (k n : Nat) : ∃ m, cl S p d (k + n) = cl S p d k ++ m := by
  induction n with
  | zero => exact ⟨[], by rw [List.append_nil]; rfl⟩
  | succ n ih =>
    obtain ⟨m, hm⟩ := ih
    exact ⟨m ++ (if dck S p d (k + n) then [k + n] else []), by rw [show k + (n + 1) = (k + n) + 1 by omega, cl_s, hm, List.append_assoc]⟩
def ck (S : St) (p d : Int32) (i : Nat) : Nat := (cl S p d (sM S)).getD i 0
theorem ck_at {S : St} {p d : Int32} {k : Nat} (hk : k < sM S) (h : dck S p d k = true) : ck S p d (dc S p d k) = k ∧ dc S p d k < dc S p d (sM S) := by
  obtain ⟨m, hm⟩ := cl_pre S p d (k + 1) (sM S - (k + 1))
  rw [show k + 1 + (sM S - (k + 1)) = sM S by omega, cl_s, h] at hm
  have hm' : cl S p d (sM S) = cl S p d k ++ (k :: m) := by rw [hm, List.append_assoc]; rfl
  unfold ck
  rw [hm']
  constructor
  · rw [← cl_len]
    simp [List.getD]
  · rw [← cl_len, ← cl_len, hm', List.length_append, List.length_cons]; omega
theorem cl_mem {S : St} {p d : Int32} (k : Nat) : ∀ x ∈ cl S p d k, x < k ∧ dck S p d x = true := by
  intro x hx
  obtain ⟨h1, h2⟩ := List.mem_filter.mp hx
  obtain ⟨a, b⟩ := opl_lt S p d k x h1
  exact ⟨a, decide_eq_true ⟨b, of_decide_eq_true h2⟩⟩
theorem ck_lt {S : St} {p d : Int32} {i : Nat} (hi : i < dc S p d (sM S)) : ck S p d i < sM S ∧ dck S p d (ck S p d i) = true := cl_mem _ _ (getD_mem (by rw [cl_len]; exact hi))
theorem cl_up (S : St) (p d : Int32) (k : Nat) : ∀ i j, i < j → j < (cl S p d k).length → (cl S p d k).getD i 0 < (cl S p d k).getD j 0 := by
  induction k with
  | zero => intro i j _ h; exact absurd h (Nat.not_lt_zero _)
  | succ k ih =>
    intro i j hij hj
    have g : ∀ i, i < (cl S p d k).length → (cl S p d (k + 1)).getD i 0 = (cl S p d k).getD i 0 := fun i hi => by
      rw [cl_s]; simp [List.getD, List.getElem?_append_left hi]
    by_cases c : j < (cl S p d k).length
    · rw [g i (by omega), g j c]; exact ih i j hij c
    · have hl := hj
      rw [cl_s, List.length_append] at hl
      by_cases q : dck S p d k = true
      · rw [if_pos q] at hl
        have hl' : j < (cl S p d k).length + 1 := hl
        have ej : j = (cl S p d k).length := by omega
        have e : (cl S p d (k + 1)).getD j 0 = k := by
          rw [cl_s, if_pos q, ej]; simp [List.getD]
        rw [g i (by omega), e]
        exact (cl_mem k _ (getD_mem (by omega))).1
      · rw [if_neg q] at hl
        have hl' : j < (cl S p d k).length + 0 := hl
        omega
theorem ck_up {S : St} {p d : Int32} {i j : Nat} (hij : i < j) (hj : j < dc S p d (sM S)) : ck S p d i < ck S p d j := cl_up S p d (sM S) i j hij (by rw [cl_len]; exact hj)
/-! sums over a set of choices -/
def wtI (S : St) (p d : Int32) (n : Nat) : Nat → Nat
  | 0 => 0
  | i + 1 => if n.testBit i then wtI S p d n i + nv (sA S 10 (ck S p d i)) else wtI S p d n i
def pcI (n : Nat) : Nat → Nat
  | 0 => 0
  | i + 1 => if n.testBit i then pcI n i + 1 else pcI n i
def BI (S : St) (p d : Int32) (n : Nat) : Nat → Nat
  | 0 => 0
  | i + 1 => if n.testBit i then BI S p d n i ||| 2 ^ ck S p d i else BI S p d n i
theorem pcI_le (n i : Nat) : pcI n i ≤ i := by
  induction i with
  | zero => exact Nat.le_refl _
  | succ i ih => unfold pcI; split <;> omega
theorem pcI_cut {n c : Nat} (h : n < 2 ^ c) (i : Nat) : pcI n (c + i) = pcI n c := by
  induction i with
  | zero => rfl
  | succ i ih =>
    show (if n.testBit (c + i) then pcI n (c + i) + 1 else pcI n (c + i)) = _
    rw [Nat.testBit_lt_two_pow (Nat.lt_of_lt_of_le h (Nat.pow_le_pow_right (by omega) (by omega)))]
    exact ih
theorem bc_pc : ∀ n, n < 1024 → bc (nI n) = nI (pcI n 10) := by decide +kernel
theorem or_pow {a k : Nat} (h : a < 2 ^ k) : a ||| 2 ^ k = a + 2 ^ k := by
  have := Nat.two_pow_add_eq_or_of_lt h 1
  rw [Nat.mul_one] at this
  rw [Nat.or_comm, ← this, Nat.add_comm]
theorem BI_lt {S : St} {p d : Int32} (n : Nat) (i : Nat) (hi : i < dc S p d (sM S)) : BI S p d n i < 2 ^ ck S p d i := by
  induction i with
  | zero => exact Nat.pow_pos (by omega)
  | succ i ih =>
    have h1 := ih (by omega)
    have h2 := ck_up (S := S) (p := p) (d := d) (show i < i + 1 by omega) hi
    have h3 : 2 ^ (ck S p d i + 1) ≤ 2 ^ ck S p d (i + 1) := Nat.pow_le_pow_right (by omega) (by omega)
    rw [Nat.pow_succ] at h3
    unfold BI
    split
    · rw [or_pow h1]; omega
    · omega
theorem BI_24 {S : St} {p d : Int32} (hM : sM S ≤ 24) (n : Nat) (i : Nat) (hi : i ≤ dc S p d (sM S)) : BI S p d n i < 2 ^ 24 := by
  cases i with
  | zero => exact Nat.pow_pos (by omega)
  | succ i =>
    have h1 := BI_lt (S := S) (p := p) (d := d) n i (by omega)
    have h2 := (ck_lt (S := S) (p := p) (d := d) (show i < dc S p d (sM S) by omega)).1
    have h3 : 2 ^ (ck S p d i + 1) ≤ 2 ^ 24 := Nat.pow_le_pow_right (by omega) (by omega)
    rw [Nat.pow_succ] at h3
    unfold BI
    split
    · rw [or_pow h1]; omega
    · omega
theorem mod_s (a i : Nat) : a % 2 ^ (i + 1) = a % 2 ^ i + (if a.testBit i then 2 ^ i else 0) := by
  rw [Nat.pow_succ, Nat.mod_mul, Nat.testBit_eq_decide_div_mod_eq]
  have h := Nat.mod_lt (a / 2 ^ i) (show 2 > 0 by omega)
  by_cases c : a / 2 ^ i % 2 = 1
  · rw [c, decide_eq_true rfl, Nat.mul_one]; rfl
  · rw [decide_eq_false c, show a / 2 ^ i % 2 = 0 by omega, Nat.mul_zero]; rfl
theorem BI_mono {S : St} {p d : Int32} (a b : Nat) (i : Nat) (hi : i ≤ dc S p d (sM S)) : (a % 2 ^ i < b % 2 ^ i → BI S p d a i < BI S p d b i) ∧ (a % 2 ^ i = b % 2 ^ i → BI S p d a i = BI S p d b i) := by
  induction i with
  | zero => exact ⟨fun h => by simp [Nat.mod_one] at h, fun _ => rfl⟩
  | succ i ih =>
    obtain ⟨i1, i2⟩ := ih (by omega)
    have la := BI_lt (S := S) (p := p) (d := d) a i (by omega)
    have lb := BI_lt (S := S) (p := p) (d := d) b i (by omega)
    have ma := Nat.mod_lt a (Nat.pow_pos (n := i) (show 0 < 2 by omega))
    have mb := Nat.mod_lt b (Nat.pow_pos (n := i) (show 0 < 2 by omega))
    rw [mod_s, mod_s]
    unfold BI
    rw [or_pow la, or_pow lb]
    cases ta : a.testBit i <;> cases tb : b.testBit i <;> simp only [if_true, if_false, Bool.false_eq_true]
    · exact ⟨fun h => i1 (by omega), fun h => i2 (by omega)⟩
    · exact ⟨fun h => by omega, fun h => by omega⟩
    · exact ⟨fun h => by omega, fun h => by omega⟩
    · exact ⟨fun h => by have := i1 (by omega); omega, fun h => by have := i2 (by omega); omega⟩
theorem BI_le {S : St} {p d : Int32} {a b : Nat} (ha : a < b) (hb : b < 2 ^ dc S p d (sM S)) : BI S p d a (dc S p d (sM S)) ≤ BI S p d b (dc S p d (sM S)) := by
  have := (BI_mono (S := S) (p := p) (d := d) a b _ (Nat.le_refl _)).1
  rw [Nat.mod_eq_of_lt (show a < 2 ^ dc S p d (sM S) by omega), Nat.mod_eq_of_lt hb] at this
  exact Nat.le_of_lt (this ha)
theorem wtI_le {S : St} (hi : Inv S) {p d : Int32} (n i : Nat) (h : i ≤ dc S p d (sM S)) : wtI S p d n i ≤ 100 * i := by
  induction i with
  | zero => exact Nat.le_refl _
  | succ i ih =>
    have := ih (by omega)
    have hk := (ck_lt (S := S) (p := p) (d := d) (show i < dc S p d (sM S) by omega)).1
    have hr := (hi.2.2.1 _ hk).2.2.2.2.2.2.2.2.1
    have e := nv_i hr.1
    have l := hr.2
    unfold wtI
    split <;> omega
/-! which sets cure -/
def curB (f : Nat → Bool) (n : Nat) : Bool := (List.range 1024).all (fun q => !f q || (q &&& n) != 0)
def chpr (S : St) (p d : Int32) (a b : Nat) : Bool := decide (wtI S p d a (dc S p d (sM S)) < wtI S p d b (dc S p d (sM S)) ∨ wtI S p d a (dc S p d (sM S)) = wtI S p d b (dc S p d (sM S)) ∧ pcI a (dc S p d (sM S)) < pcI b (dc S p d (sM S)))
def chq (S : St) (p d : Int32) (f : Nat → Bool) (n : Nat) (m : Option Nat) : Bool := curB f n && (match m with | none => true | some b => chpr S p d n b)
def chs (S : St) (p d : Int32) (f : Nat → Bool) : Nat → Option Nat
  | 0 => none
  | n + 1 => if chq S p d f n (chs S p d f n) then some n else chs S p d f n
theorem chs_s (S : St) (p d : Int32) (f : Nat → Bool) (n : Nat) : chs S p d f (n + 1) = if chq S p d f n (chs S p d f n) then some n else chs S p d f n := rfl
theorem chs_lt {S : St} {p d : Int32} {f : Nat → Bool} (n b : Nat) (h : chs S p d f n = some b) : b < n := by
  induction n with
  | zero => cases h
  | succ n ih =>
    rw [chs_s] at h
    by_cases c : chq S p d f n (chs S p d f n) = true
    · rw [if_pos c] at h
      have := Option.some.inj h
      rw [← this]; exact Nat.lt_succ_self _
    · rw [if_neg c] at h
      exact Nat.lt_succ_of_lt (ih h)
