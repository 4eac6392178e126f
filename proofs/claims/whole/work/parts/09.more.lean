/-! ===== reading a final field of another class; copying a row ===== -/
def FLinkG (own : String) (idx ci k : Nat) : Prop := ∃ r : vw_C, vwCl[ci]? = some r ∧ k < r.2.2 ∧ Cond.fieldLink own idx (r.2.1 k).1 (r.2.1 k).2.1 (r.2.1 k).2.2.1 ∈ tG
theorem mkFLG {own : String} {idx ci k : Nat} (r : vw_C) (h1 : vwCl[ci]? = some r) (h2 : Nat.ble (k + 1) r.2.2 = true) (h5 : Cond.fieldLink own idx (r.2.1 k).1 (r.2.1 k).2.1 (r.2.1 k).2.2.1 ∈ tG) : FLinkG own idx ci k := by
  unfold FLinkG
  exact ⟨r, h1, Nat.le_of_ble_eq_true h2, h5⟩
/-- the first n places of one row of ints laid over another's -/
def cpI (G : Wd) (src dst n : Nat) : Wd := (gZ G, gK G, gN G, (fun b j => if b = dst ∧ j < n then gI G src j else gI G b j), gJ G, gR G)
section RM
variable {X : Cx} {D : Dx} {cc : ByteArray} {nL : Nat} {own : String} {ret : Option FieldType} {nm : String} {Q : State → Prop} {G : Wd} {cells slots pc : Nat} {L : List (Nat × Value)} {st : List Value}
theorem v_getG (F : Fx X D cc nL own ret nm) {idx ci k a : Nat} {v : Value} (fl : FLinkG own idx ci k) (hk : gK G a = ci + 1) (hv : fv (tyOf ci k) G a k = v) (hd : decode cc pc = .ok (.getfield idx, 3)) (kk : V X D nL Q G cells slots (pc + 3) L (v :: st)) : V X D nL Q G cells slots pc L (.ref a :: st) := by
  subst hv
  obtain ⟨r, hr, hkN, hmem⟩ := fl
  intro ls H locs hl hH hS
  obtain ⟨hx, hb, hml, hown, hts, hK, -⟩ := F
  obtain ⟨cell, q1, q2, q3, q4⟩ := (hH.2.2 a).1 ci r hk hr
  obtain ⟨hSl, hfc, kC, hkC, hkind⟩ := hK.1.1 ci r hr
  obtain ⟨cf, kf, fi, f, hi, hsl⟩ := hSl k hkN
  refine W.getf hx hb hown (hts _ hmem) hi (u_facts hfc hkC (u_lays hts (cls_ok ci r hr).1 hkN) hi).1 q1 (by rw [q3]; exact fun h => by cases h) (v := fv (tyOf ci k) G a k) ?_ rfl rfl hd (kk ls H locs hl hH hS)
  rw [hsl]
  exact q4 k hkN
theorem v_getSG (F : Fx X D cc nL own ret nm) {idx ci k a b : Nat} (fl : FLinkG own idx ci k) (ht : ∀ G : Wd, fv (tyOf ci k) G a k = va_rf (gR G a k)) (hk : gK G a = ci + 1) (hr : gR G a k = some b) (hd : decode cc pc = .ok (.getfield idx, 3)) (kk : V X D nL Q G cells slots (pc + 3) L (.ref b :: st)) : V X D nL Q G cells slots pc L (.ref a :: st) := v_getG F fl hk (by rw [ht, hr]; rfl) hd kk
theorem v_copy (F : Fx X D cc nL own ret nm) {idx src dst : Nat} {n : Int32} (w1 : Cond.methodLink own idx arraycopyName ∈ tG) (w2 : Cond.native arraycopyName ∈ tG) (w3 : Cond.static arraycopyName ∈ tG) (w4 : Cond.initialized "java/lang/System" ∈ tG) (h1 : gK G src = 20) (h2 : gK G dst = 20) (hn : ¬ n < 0 ∧ n.toNatClampNeg ≤ gN G src ∧ n.toNatClampNeg ≤ gN G dst) (hfr : 1 ≤ X.2.2.2.1.frames) (hlo : (st.map fun v => v.category).sum + (nativeFrameWords "java/lang/System" "arraycopy" 5 + 11) ≤ X.2.2.2.1.locals) (hd : decode cc pc = .ok (.invokestatic idx, 3))
    (kk : ∀ G', G' = cpI G src dst n.toNatClampNeg → V X D nL Q G' cells slots (pc + 3) L st) : V X D nL Q G cells slots pc L (.int n :: .int 0 :: .ref dst :: .int 0 :: .ref src :: st) := by
  intro ls H locs hl hH hS
  obtain ⟨hx, hb, hml, hown, hts, hK, -⟩ := F
  obtain ⟨n0, n1, n2⟩ := hn
  have nn : n.toInt = (n.toNatClampNeg : Int) := by
    have hz0 : (0 : Int) ≤ n.toInt := by
      have := Int32.not_lt.mp n0
      simpa using Int32.le_iff_toInt_le.mp this
    show n.toInt = ((n.toInt.toNat : Nat) : Int)
    omega
  intro T hT X0
  have hc0 := arr_at hH 0 _ h1 rfl
  have hc1 := arr_at hH 0 _ h2 rfl
  obtain ⟨-, k0, hk0, cm0, hkk0⟩ := (hK.1.2 0 _ rfl).1 (gN G src) (fun j => fv .int G src j)
  obtain ⟨-, k1, hk1, cm1, hkk1⟩ := (hK.1.2 0 _ rfl).1 (gN G dst) (fun j => fv .int G dst j)
  obtain ⟨vm', X', step⟩ := X0.arraycopy hx hown (hts _ w1) (hts _ w2) (hts _ w3) (hts _ w4) (src := src) (dst := dst) (cs := arrV (dA D 0) (gN G src) (fun j => fv .int G src j)) (cd := arrV (dA D 0) (gN G dst) (fun j => fv .int G dst j)) (srcPos := 0) (destPos := 0) (n := n) (by rw [hT]; exact hc0) (by rw [hT]; exact hc1)
    (fun _ h => by cases h) (fun _ h => by cases h) (fun h => by cases h) (fun h => by cases h) hk0 hk1 hkk0 hkk1 (by simp [refKind]) (by decide) (by decide) n0
    (by rw [nn]; show ¬ _ > ((arrV _ _ _).slots.size : Int); rw [arrV_size]; simp; omega)
    (by rw [nn]; show ¬ _ > ((arrV _ _ _).slots.size : Int); rw [arrV_size]; simp; omega)
    (fun vm₁ _ i hi => by
      have e : (arrV (dA D 0) (gN G src) (fun j => fv .int G src j)).slots.getD ((0 : Int32).toNatClampNeg + i) .null = .int (gI G src i) := by
        rw [Array.getD_eq_getD_getElem?, show (0 : Int32).toNatClampNeg + i = i by simp, arrV_read _ _ (by omega)]
        rfl
      refine ⟨?_, ?_⟩
      · rw [e]
        rfl
      · rw [e]
        exact trivial)
    (g := F0 X.2.2.2.2.2.1 pc ls (.int n :: .int 0 :: .ref dst :: .int 0 :: .ref src :: st)) rfl (by rw [hml]; exact hl.1) (rest := st) rfl (by rw [hb]; exact hd) hfr (by show 2 * 0 + _ + _ ≤ _; omega)
  have e1 : copied (arrV (dA D 0) (gN G src) (fun j => fv .int G src j)) (arrV (dA D 0) (gN G dst) (fun j => fv .int G dst j)) 0 0 n = arrV (dA D 0) (gN G dst) (fun j => .int (va_cpy (gI G src) (gI G dst) 0 0 n.toNatClampNeg j)) := va_copied (fun z => Value.int z) (dA D 0) (dA D 0) (gI G src) (gI G dst) (by simpa using n1)
  rw [e1] at X' step
  have hl2 : dst < H.size := (Array.getElem?_eq_some_iff.mp hc1).1
  have hheap : ((T.setVm vm').setCell dst (arrV (dA D 0) (gN G dst) (fun j => .int (va_cpy (gI G src) (gI G dst) 0 0 n.toNatClampNeg j)))).heap = H.setIfInBounds dst (arrV (dA D 0) (gN G dst) (fun j => .int (va_cpy (gI G src) (gI G dst) 0 0 n.toNatClampNeg j))) := by rw [← hT]; rfl
  have oq : ∀ q : Nat, q ≠ dst → (H.setIfInBounds dst (arrV (dA D 0) (gN G dst) (fun j => .int (va_cpy (gI G src) (gI G dst) 0 0 n.toNatClampNeg j))))[q]? = H[q]? := fun q hq => by simp [Array.getElem?_setIfInBounds, Ne.symm hq]
  have hAd : Ab D dst := ab_of (k := 0) hH h2
  have hH' : Hd D (cpI G src dst n.toNatClampNeg) (H.setIfInBounds dst (arrV (dA D 0) (gN G dst) (fun j => .int (va_cpy (gI G src) (gI G dst) 0 0 n.toNatClampNeg j)))) := by
    refine hH.put (a := dst) (by simp) oq rfl rfl (fun b hb' => ⟨rfl, rfl, fun k => by simp [cpI, gI, hb'], fun _ => rfl, fun _ => rfl⟩) ⟨fun ci' r' q1 q2 => ?_, fun t q q1 q2 => ?_⟩
    · have q1 : gK G dst = ci' + 1 := q1
      rw [h2] at q1
      have := cls_lt q2
      omega
    · have q1 : gK G dst = t + 20 := q1
      rw [h2] at q1
      have et : t = 0 := by omega
      subst et
      cases q2
      have e2 : (H.setIfInBounds dst (arrV (dA D 0) (gN G dst) (fun j => .int (va_cpy (gI G src) (gI G dst) 0 0 n.toNatClampNeg j))))[dst]? = some (arrV (dA D 0) (gN G dst) (fun j => .int (va_cpy (gI G src) (gI G dst) 0 0 n.toNatClampNeg j))) := by simp [Array.getElem?_setIfInBounds, hl2]
      rw [e2]
      congr 2
      funext j
      simp [fv, cpI, gI, va_cpy]
  obtain ⟨t, a1, b1⟩ := kk _ rfl ls _ _ hl hH' ⟨by simp; exact hS.1, fun q g1 g2 => by
      rw [oq q (fun e => g2 (by rw [e]; exact hAd))]
      exact hS.2.1 q g1 g2, fun q hq => by
      rcases List.mem_append.mp hq with h | h
      · exact hS.2.2 q h
      · obtain ⟨z, -, hz⟩ := List.mem_map.mp h
        rw [← hz]
        exact hAd⟩ _ hheap X'
  exact ⟨t, step t a1, b1⟩
end RM
/-- a member of the JDK that runs as its bytecode says -/
theorem v_metF {l : Launch} {y : MethodName} {cc : ByteArray} {nL : Nat} {ret : Option FieldType} (hy : plainFor y = true) {D : Dx} {G : Wd} {As : List Value} {rm : Room} {mc ms : Nat} {Qc : Array Value → State → Outcome → State → Prop} (hlen : (lg_sl As).length ≤ nL)
    (body : ∀ X : Cx, X.2.1 = l → X.2.2.2.1 = rm → Fx X D cc nL y.cls ret y.name → V X D nL (ZM X D Qc mc ms) G 0 0 0 (lv_args 0 As) []) : Met l y (wM y cc nL ret) rm (PM D As G) Qc mc ms (Ab D) := by
  refine va_MetF (cc := cc) (maxL := nL) (ret := ret) hy rfl ?_
  intro p e s m args below meth c s₁ B hml hv
  obtain ⟨rfl, hK, hH⟩ := hv
  have hts := atoms_spec (ws := wM y cc nL ret) B.pre
  have F : Fx (p, l, e, rm, s, m, As.toArray, below, meth, c) D cc nL y.cls ret y.name := ⟨B.exec, B.bytes, hml, findClass_of_methodNamed B.named, fun w h => hts w (List.mem_cons_of_mem _ h), hK, B.returns, B.notSynchronized, (name_of_methodNamed B.named B.method).1⟩
  rw [lg_entry_eq]
  exact body (p, l, e, rm, s, m, As.toArray, below, meth, c) rfl rfl F _ s.heap [] (lv_entry As hlen) hH va_S.rf
theorem vrf_cat (r : Option Nat) : (va_rf r).category = 1 := by cases r <;> rfl
theorem v_tableInE {X : Cx} {D : Dx} {cc : ByteArray} {nL : Nat} {own : String} {ret : Option FieldType} {nm : String} {Q : State → Prop} {G : Wd} {cells slots pc : Nat} {L : List (Nat × Value)} {st : List Value} (F : Fx X D cc nL own ret nm) {dflt lo hi : Int} {offs : Array Int} {len : Nat} {x c : Int32} {off : Int} {tgt : Nat} (hx : x = c) (hd : decode cc pc = .ok (.tableswitch dflt lo hi offs, len)) (h1 : ¬ c.toInt < lo) (h2 : ¬ hi < c.toInt) (ho : offs[(c.toInt - lo).toNat]? = some off) (ht : (pc : Int) + off = (tgt : Int)) (kk : V X D nL Q G cells slots tgt L st) : V X D nL Q G cells slots pc L (.int x :: st) := by
  subst hx
  exact v_tableIn F hd h1 h2 ho ht kk
