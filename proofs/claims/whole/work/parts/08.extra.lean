/-! ===== small helps of the walk: numbers, names, indices, rooms, links ===== -/
theorem i32_rem (x y : Int32) : x - x / y * y = x % y := by
  apply Int32.toInt_inj.mp
  have h : (x % y).toInt = x.toInt.tmod y.toInt := Int32.toInt_mod x y
  rw [Int32.toInt_sub, Int32.toInt_mul, Int32.toInt_div, Int.sub_bmod_bmod]
  have e : (x.toInt - (x.toInt.tdiv y.toInt).bmod (2 ^ 32) * y.toInt).bmod (2 ^ 32) = (x.toInt.tmod y.toInt).bmod (2 ^ 32) := by
    rw [Int.tmod_def, ← Int.sub_bmod_bmod, Int.bmod_mul_bmod, Int.sub_bmod_bmod, Int.mul_comm]
  rw [e, ← h]
  exact Int32.toInt_bmod _
theorem i64_rem (x y : Int64) : x - x / y * y = x % y := by
  apply Int64.toInt_inj.mp
  have h : (x % y).toInt = x.toInt.tmod y.toInt := Int64.toInt_mod x y
  rw [Int64.toInt_sub, Int64.toInt_mul, Int64.toInt_div, Int.sub_bmod_bmod]
  have e : (x.toInt - (x.toInt.tdiv y.toInt).bmod (2 ^ 64) * y.toInt).bmod (2 ^ 64) = (x.toInt.tmod y.toInt).bmod (2 ^ 64) := by
    rw [Int.tmod_def, ← Int.sub_bmod_bmod, Int.bmod_mul_bmod, Int.sub_bmod_bmod, Int.mul_comm]
  rw [e, ← h]
  exact Int64.toInt_bmod _
section RX
variable {X : Cx} {D : Dx} {cc : ByteArray} {nL : Nat} {own : String} {ret : Option FieldType} {nm : String} {Q : State → Prop} {G : Wd} {cells slots pc : Nat} {L : List (Nat × Value)} {st : List Value}
theorem v_iremE (F : Fx X D cc nL own ret nm) {x y : Int32} (hd : decode cc pc = .ok (.irem, 1)) (hne : ¬ y = 0) (kk : V X D nL Q G cells slots (pc + 1) L (.int (x % y) :: st)) : V X D nL Q G cells slots pc L (.int y :: .int x :: st) := v_irem F hd hne (by rw [i32_rem]; exact kk)
theorem v_lremE (F : Fx X D cc nL own ret nm) {x y : Int64} (hd : decode cc pc = .ok (.lrem, 1)) (hne : ¬ y = 0) (kk : V X D nL Q G cells slots (pc + 1) L (.long (x % y) :: st)) : V X D nL Q G cells slots pc L (.long y :: .long x :: st) := v_lrem F hd hne (by rw [i64_rem]; exact kk)
theorem v_topi {x : Int32} (kk : ∀ v, v = x → V X D nL Q G cells slots pc L (.int v :: st)) : V X D nL Q G cells slots pc L (.int x :: st) := kk x rfl
theorem v_topl {x : Int64} (kk : ∀ v, v = x → V X D nL Q G cells slots pc L (.long v :: st)) : V X D nL Q G cells slots pc L (.long x :: st) := kk x rfl
theorem v_nmG (kk : ∀ G', G' = G → V X D nL Q G' cells slots pc L st) : V X D nL Q G cells slots pc L st := kk G rfl
theorem v_iincN (F : Fx X D cc nL own ret nm) {i : Nat} {n : Int} {x c : Int32} (hd : decode cc pc = .ok (.iinc i n, 3)) (j : Nat) (hx : L[j]? = some (i, .int x)) (hc : Int32.ofInt n = c) (hn : i < nL) (kk : ∀ v, v = x + c → V X D nL Q G cells slots (pc + 3) ((i, Value.int v) :: L.filter (fun q => !(q.1 == i) && !(q.1 + 1 == i && q.2.category == 2))) st) : V X D nL Q G cells slots pc L st := v_iinc F hd j hx rfl hn rfl (kk _ (by rw [hc]))
theorem v_cast {L' : List (Nat × Value)} {st' : List Value} (hL : L = L') (hs : st = st') (kk : V X D nL Q G cells slots pc L' st') : V X D nL Q G cells slots pc L st := by subst hL; subst hs; exact kk
theorem v_ialdE (F : Fx X D cc nL own ret nm) {a k : Nat} {i : Int32} (hi : i.toNatClampNeg = k) (hk : gK G a = 20) (hin : vp_in i (gN G a)) (hd : decode cc pc = .ok (.iaload, 1)) (kk : V X D nL Q G cells slots (pc + 1) L (.int (gI G a k) :: st)) : V X D nL Q G cells slots pc L (.int i :: .ref a :: st) := v_iald F hk hin hd (by rw [hi]; exact kk)
theorem v_laldE (F : Fx X D cc nL own ret nm) {a k : Nat} {i : Int32} (hi : i.toNatClampNeg = k) (hk : gK G a = 21) (hin : vp_in i (gN G a)) (hd : decode cc pc = .ok (.laload, 1)) (kk : V X D nL Q G cells slots (pc + 1) L (.long (gJ G a k) :: st)) : V X D nL Q G cells slots pc L (.int i :: .ref a :: st) := v_lald F hk hin hd (by rw [hi]; exact kk)
theorem v_zaldE (F : Fx X D cc nL own ret nm) {a k : Nat} {i : Int32} (hi : i.toNatClampNeg = k) (hk : gK G a = 22) (hin : vp_in i (gN G a)) (hd : decode cc pc = .ok (.baload, 1)) (kk : V X D nL Q G cells slots (pc + 1) L (.int (gI G a k) :: st)) : V X D nL Q G cells slots pc L (.int i :: .ref a :: st) := v_zald F hk hin hd (by rw [hi]; exact kk)
theorem v_iastE (F : Fx X D cc nL own ret nm) {a k : Nat} {i x : Int32} (hi : i.toNatClampNeg = k) (hk : gK G a = 20) (hin : vp_in i (gN G a)) (hd : decode cc pc = .ok (.iastore, 1)) (kk : ∀ G', G' = uI G a k x → V X D nL Q G' cells slots (pc + 1) L st) : V X D nL Q G cells slots pc L (.int x :: .int i :: .ref a :: st) := v_iast F hk hin hd (kk _ (by rw [hi]))
theorem v_lastE (F : Fx X D cc nL own ret nm) {a k : Nat} {i : Int32} {x : Int64} (hi : i.toNatClampNeg = k) (hk : gK G a = 21) (hin : vp_in i (gN G a)) (hd : decode cc pc = .ok (.lastore, 1)) (kk : ∀ G', G' = uJ G a k x → V X D nL Q G' cells slots (pc + 1) L st) : V X D nL Q G cells slots pc L (.long x :: .int i :: .ref a :: st) := v_last F hk hin hd (kk _ (by rw [hi]))
theorem v_zastE (F : Fx X D cc nL own ret nm) {a k : Nat} {i x : Int32} (hi : i.toNatClampNeg = k) (hB : isB x) (hk : gK G a = 22) (hin : vp_in i (gN G a)) (hd : decode cc pc = .ok (.bastore, 1)) (kk : ∀ G', G' = uI G a k x → V X D nL Q G' cells slots (pc + 1) L st) : V X D nL Q G cells slots pc L (.int x :: .int i :: .ref a :: st) := v_zast F hB hk hin hd (kk _ (by rw [hi]))
theorem v_aaldE (F : Fx X D cc nL own ret nm) {a t k : Nat} {C : String} {cA : ClassId} {i : Int32} (hq : (tysD D)[t]? = some (cA, .object C)) (hi : i.toNatClampNeg = k) (hk : gK G a = t + 20) (hin : vp_in i (gN G a)) (hd : decode cc pc = .ok (.aaload, 1)) (kk : ∀ r, r = gR G a k → V X D nL Q G cells slots (pc + 1) L (va_rf r :: st)) : V X D nL Q G cells slots pc L (.int i :: .ref a :: st) := v_aald F hq hk hin hd (by rw [hi]; exact kk _ rfl)
theorem v_aaldS (F : Fx X D cc nL own ret nm) {a t k b : Nat} {C : String} {cA : ClassId} {i : Int32} (hq : (tysD D)[t]? = some (cA, .object C)) (hi : i.toNatClampNeg = k) (hk : gK G a = t + 20) (hin : vp_in i (gN G a)) (hr : gR G a k = some b) (hd : decode cc pc = .ok (.aaload, 1)) (kk : V X D nL Q G cells slots (pc + 1) L (.ref b :: st)) : V X D nL Q G cells slots pc L (.int i :: .ref a :: st) := v_aald F hq hk hin hd (by rw [hi, hr]; exact kk)
theorem v_aastE (F : Fx X D cc nL own ret nm) {a t v ci k : Nat} {r : vw_C} {cA : ClassId} {i : Int32} (hq : (tysD D)[t]? = some (cA, .object r.1)) (hr : vwCl[ci]? = some r) (hi : i.toNatClampNeg = k) (hk : gK G a = t + 20) (hkv : gK G v = ci + 1) (hin : vp_in i (gN G a)) (hd : decode cc pc = .ok (.aastore, 1)) (kk : ∀ G', G' = uR G a k (some v) → V X D nL Q G' cells slots (pc + 1) L st) : V X D nL Q G cells slots pc L (.ref v :: .int i :: .ref a :: st) := v_aast F hq hr hk hkv hin hd (kk _ (by rw [hi]))
theorem v_aastNE (F : Fx X D cc nL own ret nm) {a t k : Nat} {C : String} {cA : ClassId} {i : Int32} (hq : (tysD D)[t]? = some (cA, .object C)) (hi : i.toNatClampNeg = k) (hk : gK G a = t + 20) (hin : vp_in i (gN G a)) (hd : decode cc pc = .ok (.aastore, 1)) (kk : ∀ G', G' = uR G a k none → V X D nL Q G' cells slots (pc + 1) L st) : V X D nL Q G cells slots pc L (va_rf none :: .int i :: .ref a :: st) := v_aastN F hq hk hin hd (kk _ (by rw [hi]))
theorem v_getS (F : Fx X D cc nL own ret nm) {idx ci k a b : Nat} {fin : Bool} (fl : FLink own idx ci k fin) (ht : ∀ G : Wd, fv (tyOf ci k) G a k = va_rf (gR G a k)) (hk : gK G a = ci + 1) (hr : gR G a k = some b) (hd : decode cc pc = .ok (.getfield idx, 3)) (kk : V X D nL Q G cells slots (pc + 3) L (.ref b :: st)) : V X D nL Q G cells slots pc L (.ref a :: st) := v_get F fl hk (by rw [ht, hr]; rfl) hd kk
end RX
theorem mkRm {X : Cx} {R rm : Room} {cells slots maxL mc ms : Nat} (hR : X.2.2.2.1 = R) (h1 : rm.cells = mc) (h2 : rm.slots = ms) (h3 : Nat.ble (rm.frames + 1) R.frames = true) (h4 : Nat.ble (8 + (maxL + 11) + rm.locals) R.locals = true) (h5 : Nat.ble (cells + mc) R.cells = true) (h6 : Nat.ble (slots + ms) R.slots = true) : Rm X cells slots maxL mc ms rm := by
  unfold Rm
  rw [hR]
  exact ⟨⟨h1, h2⟩, ⟨Nat.le_of_ble_eq_true h3, Nat.le_of_ble_eq_true h4⟩, Nat.le_of_ble_eq_true h5, Nat.le_of_ble_eq_true h6⟩
theorem mkRm2 {X : Cx} {R rm : Room} {cells slots maxL mc ms : Nat} (hR : X.2.2.2.1 = R) (h1 : rm.cells = mc) (h2 : rm.slots = ms) (h3 : rm.frames + 1 ≤ R.frames) (h4 : 8 + (maxL + 11) + rm.locals ≤ R.locals) (h5 : cells + mc ≤ R.cells) (h6 : slots + ms ≤ R.slots) : Rm X cells slots maxL mc ms rm := by
  unfold Rm
  rw [hR]
  exact ⟨⟨h1, h2⟩, ⟨h3, h4⟩, h5, h6⟩
theorem mkFL {own : String} {idx ci k : Nat} {fin : Bool} (r : vw_C) (h1 : vwCl[ci]? = some r) (h2 : Nat.ble (k + 1) r.2.2 = true) (h3 : (r.2.1 k).2.2.2 = fin) (h4 : (r.2.1 k).1 = own ∨ fin = false) (h5 : Cond.fieldLink own idx (r.2.1 k).1 (r.2.1 k).2.1 (r.2.1 k).2.2.1 ∈ tG) : FLink own idx ci k fin := by
  unfold FLink
  exact ⟨r, h1, Nat.le_of_ble_eq_true h2, h3, h4, h5⟩
theorem mkLS {own : String} {idx : Nat} {y : MethodName} {bytes : ByteArray} {maxL : Nat} {ret : Option FieldType} {n : Nat} (h1 : Cond.methodLink own idx y ∈ tG) (h2 : Cond.static y ∈ tG) (h3 : Cond.initialized y.cls ∈ tG) (h4 : Cond.code y bytes maxL ret ∈ tG) (h5 : LinkD y n) : LinkS own idx y bytes maxL ret n := by
  unfold LinkS
  exact ⟨h1, h2, h3, h4, h5⟩
theorem mkLV {own : String} {idx : Nat} {y : MethodName} {bytes : ByteArray} {maxL : Nat} {ret : Option FieldType} {n ci : Nat} (r : vw_C) (h1 : Cond.methodLink own idx y ∈ tG) (h2 : Cond.instanceMethod y ∈ tG) (h3 : Cond.selects y.cls y y ∈ tG) (h4 : Cond.initialized y.cls ∈ tG) (h5 : Cond.code y bytes maxL ret ∈ tG) (h6 : LinkD y n) (h7 : vwCl[ci]? = some r) (h8 : r.1 = y.cls) : LinkV own idx y bytes maxL ret n ci := by
  unfold LinkV
  exact ⟨h1, h2, h3, h4, h5, h6, r, h7, h8⟩
theorem mkLU {own : String} {idx : Nat} {y : MethodName} {bytes : ByteArray} {maxL : Nat} {ret : Option FieldType} {n ci : Nat} (r : vw_C) (h1 : Cond.methodLink own idx arrived0 ∈ tG) (h2 : Cond.sameMethod arrived0.cls arrived0.cls arrived0.name arrived0.desc ∈ tG) (h3 : Cond.selects y.cls arrived0 y ∈ tG) (h4 : Cond.instanceMethod y ∈ tG) (h5 : Cond.initialized y.cls ∈ tG) (h6 : Cond.code y bytes maxL ret ∈ tG) (h7 : LinkD arrived0 n) (h8 : vwCl[ci]? = some r) (h9 : r.1 = y.cls) : LinkU own idx arrived0 y bytes maxL ret n ci := by
  unfold LinkU
  exact ⟨⟨h1, h2, h3, h4, h5, h6⟩, h7, ⟨r, h8, h9⟩, rfl⟩
theorem mkLI {own : String} {idx : Nat} {y : MethodName} {bytes : ByteArray} {maxL n : Nat} (h1 : Cond.methodLink own idx y ∈ tG) (h2 : Cond.instanceMethod y ∈ tG) (h3 : Cond.initialized y.cls ∈ tG) (h4 : Cond.code y bytes maxL none ∈ tG) (h5 : LinkD y n) (h6 : y.name = "<init>") : LinkI own idx y bytes maxL n := by
  unfold LinkI
  exact ⟨h1, h2, h3, h4, h5, h6⟩
theorem mkLN {own host : String} {idx : Nat} {y : MethodName} {bytes : ByteArray} {maxL n : Nat} (h1 : (own, idx, y, host) ∈ nestM) (h2 : Cond.instanceMethod y ∈ tG) (h3 : Cond.initialized y.cls ∈ tG) (h4 : Cond.code y bytes maxL none ∈ tG) (h5 : LinkD y n) (h6 : y.name = "<init>") : LinkN own idx y host bytes maxL n := by
  unfold LinkN
  exact ⟨h1, h2, h3, h4, h5, h6⟩
/-- a switch's number that is none of its cases -/
theorem sw_out {x : Int32} (n : Nat) (hn : n < 2 ^ 31) (h : ∀ k, k < n → x ≠ nI k) : x.toInt < 0 ∨ ((n : Int) - 1) < x.toInt := by
  by_cases h0 : x.toInt < 0
  · exact Or.inl h0
  · refine Or.inr ?_
    have hx : ¬ x < 0 := fun q => h0 (by simpa using Int32.lt_iff_toInt_lt.mp q)
    obtain ⟨j, hj, e⟩ := nI_of hx
    subst e
    by_cases hjn : j < n
    · exact absurd rfl (h j hjn)
    · rw [nI_toInt hj]
      omega
