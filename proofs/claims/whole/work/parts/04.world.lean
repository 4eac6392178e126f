/-! ===== the words that every method is given: the good ones of the tables ===== -/
def tG : List Cond := lw_tbl.filter goodWord
theorem tG_good : ∀ w ∈ tG, (w.onTables && w.keeps) = true ∨ ∃ ty, w = .arrayClass ty := fun w h => good_of_word (List.mem_filter.mp h).2
theorem tG_in : ∀ w ∈ tG, w ∈ lw_tbl := fun w h => (List.mem_filter.mp h).1
theorem tG_self : GoodIn tG tG := fun w h => ⟨h, tG_good w h⟩
theorem tG_mem {w : Cond} (i : Nat) (h : lw_tbl[i]? = some w) (hg : goodWord w = true) : w ∈ tG := List.mem_filter.mpr ⟨List.mem_of_getElem? h, hg⟩
abbrev wM (y : MethodName) (cc : ByteArray) (n : Nat) (ret : Option FieldType) : List Cond := Cond.code y cc n ret :: tG
theorem wM_good {y : MethodName} {cc : ByteArray} {n : Nat} {ret : Option FieldType} (h : Cond.code y cc n ret ∈ tG) : GoodIn tG (wM y cc n ret) := by
  intro w hw
  rcases List.mem_cons.mp hw with e | e
  · rw [e]; exact ⟨h, tG_good _ h⟩
  · exact tG_self w e
/-! ===== the world: how many cells, and for each address its kind (0 none, 1 + c an object of class number c, 20 + t an array of type number t), length, and what it holds ===== -/
abbrev Wd : Type := Nat × (Nat → Nat) × (Nat → Nat) × (Nat → Nat → Int32) × (Nat → Nat → Int64) × (Nat → Nat → Option Nat)
def gZ (G : Wd) : Nat := G.1
def gK (G : Wd) : Nat → Nat := G.2.1
def gN (G : Wd) : Nat → Nat := G.2.2.1
def gI (G : Wd) : Nat → Nat → Int32 := G.2.2.2.1
def gJ (G : Wd) : Nat → Nat → Int64 := G.2.2.2.2.1
def gR (G : Wd) : Nat → Nat → Option Nat := G.2.2.2.2.2
def u2 {α : Type} (f : Nat → Nat → α) (a k : Nat) (v : α) : Nat → Nat → α := fun b j => if b = a ∧ j = k then v else f b j
def z2 {α : Type} (f : Nat → Nat → α) (a : Nat) (v : α) : Nat → Nat → α := fun b j => if b = a then v else f b j
def uI (G : Wd) (a k : Nat) (v : Int32) : Wd := (gZ G, gK G, gN G, u2 (gI G) a k v, gJ G, gR G)
def uJ (G : Wd) (a k : Nat) (v : Int64) : Wd := (gZ G, gK G, gN G, gI G, u2 (gJ G) a k v, gR G)
def uR (G : Wd) (a k : Nat) (v : Option Nat) : Wd := (gZ G, gK G, gN G, gI G, gJ G, u2 (gR G) a k v)
/-- one cell more, all 0 and null: of kind c, with n places -/
def nC (G : Wd) (c n : Nat) : Wd := (gZ G + 1, va_up (gK G) (gZ G) c, va_up (gN G) (gZ G) n, z2 (gI G) (gZ G) 0, z2 (gJ G) (gZ G) 0, z2 (gR G) (gZ G) none)
abbrev Dx : Type := (Nat → ClassId) × (Nat → Nat → Nat) × (Nat → ClassId) × Nat × Nat
def dC (D : Dx) : Nat → ClassId := D.1
def dI (D : Dx) : Nat → Nat → Nat := D.2.1
def dA (D : Dx) : Nat → ClassId := D.2.2.1
def dB (D : Dx) : Nat := D.2.2.2.1
def dW (D : Dx) : Nat := D.2.2.2.2
/-- what a method may change: all that was made since the law began -/
def Ab (D : Dx) : Nat → Prop := fun q => dB D ≤ q
def tysD (D : Dx) : List (ClassId × FieldType) := [(dA D 0, .int), (dA D 1, .long), (dA D 2, .boolean), (dA D 3, .object RX1), (dA D 4, .object RX2), (dA D 5, .object RX5), (dA D 6, .object RX6)]
def tyOf (ci : Nat) : Nat → FieldType := match ci with
  | 0 => tyX0
  | 1 => tyX1
  | 2 => tyX2
  | 3 => tyX4
  | 4 => tyX5
  | 5 => tyX6
  | 6 => tyX7
  | 7 => tyX8
  | 8 => tyX9
  | 9 => tyX10
  | _ => tyX11
/-- the value of a place, by its type -/
def fv (ty : FieldType) (G : Wd) (a k : Nat) : Value := match ty with
  | .long => .long (gJ G a k)
  | .object _ => va_rf (gR G a k)
  | .array _ => va_rf (gR G a k)
  | _ => .int (gI G a k)
def cOk (D : Dx) (G : Wd) (H : Heap) (a : Nat) : Prop :=
  (∀ (ci : Nat) (r : vw_C), gK G a = ci + 1 → vwCl[ci]? = some r → t_OB a (dC D ci) r.2.2 (dI D ci) H (fun k => fv (tyOf ci k) G a k)) ∧
  (∀ (t : Nat) (q : ClassId × FieldType), gK G a = t + 20 → (tysD D)[t]? = some q → H[a]? = some (arrV q.1 (gN G a) (fun j => fv q.2 G a j)))
def Hd (D : Dx) (G : Wd) (H : Heap) : Prop := H.size = gZ G ∧ (∀ a, gK G a ≠ 0 → dB D ≤ a ∧ a < gZ G) ∧ ∀ a, cOk D G H a
def sameAt (G G' : Wd) (b : Nat) : Prop := gK G' b = gK G b ∧ gN G' b = gN G b ∧ (∀ k, gI G' b k = gI G b k) ∧ (∀ k, gJ G' b k = gJ G b k) ∧ ∀ k, gR G' b k = gR G b k
theorem fv_same {G G' : Wd} {b : Nat} (h : sameAt G G' b) (ty : FieldType) (k : Nat) : fv ty G' b k = fv ty G b k := by
  obtain ⟨h1, h2, h3, h4, h5⟩ := h
  cases ty <;> simp only [fv, h3, h4, h5]
theorem cOk.same {D : Dx} {G G' : Wd} {H H1 : Heap} {a : Nat} (h : cOk D G H a) (hs : sameAt G G' a) (hq : H1[a]? = H[a]?) : cOk D G' H1 a := by
  refine ⟨fun ci r h1 h2 => ?_, fun t q h1 h2 => ?_⟩
  · rw [hs.1] at h1
    exact ((h.1 ci r h1 h2).kept hq).to (fun k _ => (fv_same hs _ k).symm)
  · rw [hs.1] at h1
    rw [hq, h.2 t q h1 h2, hs.2.1]
    congr 2
    funext j
    exact (fv_same hs _ j).symm
/-- one cell is written -/
theorem Hd.put {D : Dx} {G G' : Wd} {H H1 : Heap} {a : Nat} (h : Hd D G H) (hz : H1.size = H.size) (oq : ∀ q : Nat, q ≠ a → H1[q]? = H[q]?) (hz' : gZ G' = gZ G) (hk : gK G' a = gK G a) (hs : ∀ b, b ≠ a → sameAt G G' b) (ha : cOk D G' H1 a) : Hd D G' H1 := by
  refine ⟨by rw [hz, hz']; exact h.1, fun b hb => ?_, fun b => ?_⟩
  · rw [hz']
    by_cases e : b = a
    · subst e; rw [hk] at hb; exact h.2.1 b hb
    · rw [(hs b e).1] at hb; exact h.2.1 b hb
  · by_cases e : b = a
    · subst e; exact ha
    · exact (h.2.2 b).same (hs b e) (oq b e)
/-- one cell comes -/
theorem Hd.new {D : Dx} {G : Wd} {H H1 : Heap} {c n : Nat} (h : Hd D G H) (hb : dB D ≤ gZ G) (hz : H1.size = H.size + 1) (oq : ∀ q : Nat, q < H.size → H1[q]? = H[q]?) (ha : cOk D (nC G c n) H1 (gZ G)) : Hd D (nC G c n) H1 := by
  have hs : ∀ b, b ≠ gZ G → sameAt G (nC G c n) b := by
    intro b e
    refine ⟨?_, ?_, fun k => ?_, fun k => ?_, fun k => ?_⟩ <;> simp [nC, gK, gN, gI, gJ, gR, va_up, z2] <;> intro q <;> exact absurd q e
  refine ⟨by rw [hz, h.1]; rfl, fun b hb' => ?_, fun b => ?_⟩
  · by_cases e : b = gZ G
    · subst e; exact ⟨hb, Nat.lt_succ_self _⟩
    · rw [(hs b e).1] at hb'
      exact ⟨(h.2.1 b hb').1, Nat.lt_succ_of_lt (h.2.1 b hb').2⟩
  · by_cases e : b = gZ G
    · subst e; exact ha
    · by_cases hk : gK G b = 0
      · have hk' : gK (nC G c n) b = 0 := by rw [(hs b e).1]; exact hk
        exact ⟨fun ci r h1 _ => by omega, fun t q h1 _ => by omega⟩
      · exact (h.2.2 b).same (hs b e) (oq b (by rw [h.1]; exact (h.2.1 b hk).2))
/-! ===== what the tables say, carried from method to method ===== -/
def nestM : List (String × Nat × MethodName × String) := [(RX9, 33, yX2_init, RX10), (RX10, 40, yX0_init, RX10), (RX0, 1, yX3_init, RX10), (RX10, 47, yX7_init, RX10), (RX7, 1, yX3_init, RX10), (RX10, 54, yX8_init, RX10), (RX8, 1, yX3_init, RX10), (RX8, 9, yX2_init, RX10), (RX10, 61, yX4_init, RX10), (RX4, 3, yX3_init, RX10), (RX10, 68, yX2_init, RX10), (RX5, 11, yX2_init, RX10), (RX6, 11, yX2_init, RX10)]
def arrived0 : MethodName := ⟨RX3, "arrived", "(LOldReckoner$Trail;)V"⟩
def aoW : List String := [RX1, RX2, RX5, RX6]
def widerV : Nat → Value := fun j => .int (match j with | 3 => 1 | 4 => 2 | _ => 0)
def Kw (D : Dx) (U : State) : Prop := va_K (dC D, dI D) vwCl (tysD D) U ∧ (∀ q ∈ nestM, va_Nw (.methodLinkNest q.1 q.2.1 q.2.2.1 q.2.2.2) U) ∧ va_Nw (.declares arrived0) U ∧ (∀ C ∈ aoW, va_AO C U) ∧ va_Z RX5 "WIDER" "[I" (.ref (dW D)) (Ab D) U U.heap ∧ va_T .int (dW D) 5 widerV (Ab D) U U.heap ∧ dB D ≤ U.heap.size
theorem Kw.moved {D : Dx} {s U : State} {H : Heap} {locs : List Loc} (h : Kw D s) (hW : s.WarmedH U.vm) (hH : U.heap = H) (hS : va_S (Ab D) s.heap H locs) : Kw D U := by
  obtain ⟨h1, h2, h3, h4, h5, h6, h7⟩ := h
  have hk : ∀ a : Nat, a < s.heap.size → ¬ Ab D a → U.heap[a]? = s.heap[a]? := fun a ha hA => by rw [hH]; exact hS.2.1 a ha hA
  exact ⟨va_K.moved hW.alike h1, fun q hq => va_Nw.warmM hW (h2 q hq), va_Nw.warmD hW h3, fun C hC => va_AO.moved hW.alike (h4 C hC), (va_Z.moved hW.alike h5).kept hk, (va_T.moved hW.alike h6).kept hk, Nat.le_trans h7 (by rw [hH]; exact hS.1)⟩
theorem Kw.blind {D : Dx} {U : State} {g : JFrame} {mk : MethodId} {a : Array Value} (h : Kw D U) : Kw D (U.calling g mk a) := by
  obtain ⟨h1, h2, h3, h4, h5, h6, h7⟩ := h
  have hvm : U.vm.Alike (U.calling g mk a).vm := Vm.Alike.refl U.vm
  exact ⟨va_K.moved hvm h1, fun q hq => va_Nw.same rfl (rfl : U.vm = (U.calling g mk a).vm) (h2 q hq), va_Nw.same rfl (rfl : U.vm = (U.calling g mk a).vm) h3, fun C hC => va_AO.moved hvm (h4 C hC), va_Z.moved hvm h5, va_T.moved hvm h6, h7⟩
/-! ===== the walk, over worlds ===== -/
abbrev Cx : Type := Program × Launch × Env × Room × State × MethodId × (Array Value) × (List Frame) × Method × Code
def V (X : Cx) (D : Dx) (nL : Nat) (Q : State → Prop) (G : Wd) (cells slots pc : Nat) (L : List (Nat × Value)) (st : List Value) : Prop :=
  ∀ (ls : Array Slot) (H : Heap) (locs : List Loc), lv_has ls nL L → Hd D G H → va_S (Ab D) X.2.2.2.2.1.heap H locs →
    W X.1 X.2.1 X.2.2.1 X.2.2.2.1 X.2.2.2.2.1 X.2.2.2.2.2.1 X.2.2.2.2.2.2.1 X.2.2.2.2.2.2.2.1 X.2.2.2.2.2.2.2.2.1 X.2.2.2.2.2.2.2.2.2 H locs cells slots Q (F0 X.2.2.2.2.2.1 pc ls st)
def Fx (X : Cx) (D : Dx) (cc : ByteArray) (nL : Nat) (own : String) (ret : Option FieldType) (nm : String) : Prop :=
  X.1.tables.exec = Jvm.exec ∧ X.2.2.2.2.2.2.2.2.2.code = cc ∧ X.2.2.2.2.2.2.2.2.2.maxLocals = nL ∧ X.2.2.2.2.1.vm.findClass own = some X.2.2.2.2.2.1.cls ∧ (∀ w ∈ tG, w.before X.2.2.2.2.2.2.1 X.2.2.2.2.1 = true) ∧ Kw D X.2.2.2.2.1 ∧ X.2.2.2.2.2.2.2.2.1.sig.returnType = ret ∧ X.2.2.2.2.2.2.2.2.1.locks = false ∧ X.2.2.2.2.2.2.2.2.1.name = nm
