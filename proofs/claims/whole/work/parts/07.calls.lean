theorem v_newaI {X : Cx} {D : Dx} {cc : ByteArray} {nL : Nat} {own : String} {ret : Option FieldType} {nm : String} {Q : State → Prop} {G : Wd} {cells slots pc : Nat} {L : List (Nat × Value)} {st : List Value} (F : Fx X D cc nL own ret nm) {N : Nat} {n : Int32} (hw : Cond.arrayClass .int ∈ tG) (hn : ¬ n < 0) (hN : n.toNatClampNeg = N) (hby : N * componentBytes .int ≤ 536870912) (hc : cells + 1 ≤ X.2.2.2.1.cells) (hs : slots + N ≤ X.2.2.2.1.slots) (hd : decode cc pc = .ok (.newarray .int, 2)) (kk : V X D nL Q (nC G 20 N) (cells + 1) (slots + N) (pc + 2) L (.ref (gZ G) :: st)) : V X D nL Q G cells slots pc L (.int n :: st) :=
  v_newa (t := 0) F (atype := .int) rfl (fun _ j => by simp [fv, nC, gI, gZ, z2, newarray.typeOf, defaultValue]) (fun _ _ h => h) hw hn hN hby hc hs hd kk
theorem v_newaJ {X : Cx} {D : Dx} {cc : ByteArray} {nL : Nat} {own : String} {ret : Option FieldType} {nm : String} {Q : State → Prop} {G : Wd} {cells slots pc : Nat} {L : List (Nat × Value)} {st : List Value} (F : Fx X D cc nL own ret nm) {N : Nat} {n : Int32} (hw : Cond.arrayClass .long ∈ tG) (hn : ¬ n < 0) (hN : n.toNatClampNeg = N) (hby : N * componentBytes .long ≤ 536870912) (hc : cells + 1 ≤ X.2.2.2.1.cells) (hs : slots + N ≤ X.2.2.2.1.slots) (hd : decode cc pc = .ok (.newarray .long, 2)) (kk : V X D nL Q (nC G 21 N) (cells + 1) (slots + N) (pc + 2) L (.ref (gZ G) :: st)) : V X D nL Q G cells slots pc L (.int n :: st) :=
  v_newa (t := 1) F (atype := .long) rfl (fun _ j => by simp [fv, nC, gJ, gZ, z2, newarray.typeOf, defaultValue]) (fun _ _ h => h) hw hn hN hby hc hs hd kk
theorem v_newaZ {X : Cx} {D : Dx} {cc : ByteArray} {nL : Nat} {own : String} {ret : Option FieldType} {nm : String} {Q : State → Prop} {G : Wd} {cells slots pc : Nat} {L : List (Nat × Value)} {st : List Value} (F : Fx X D cc nL own ret nm) {N : Nat} {n : Int32} (hw : Cond.arrayClass .boolean ∈ tG) (hn : ¬ n < 0) (hN : n.toNatClampNeg = N) (hby : N * componentBytes .boolean ≤ 536870912) (hc : cells + 1 ≤ X.2.2.2.1.cells) (hs : slots + N ≤ X.2.2.2.1.slots) (hd : decode cc pc = .ok (.newarray .boolean, 2)) (kk : V X D nL Q (nC G 22 N) (cells + 1) (slots + N) (pc + 2) L (.ref (gZ G) :: st)) : V X D nL Q G cells slots pc L (.int n :: st) :=
  v_newa (t := 2) F (atype := .boolean) rfl (fun _ j => by simp [fv, nC, gI, gZ, z2, newarray.typeOf, defaultValue]) (fun _ _ h => h) hw hn hN hby hc hs hd kk
/-! ===== contracts ===== -/
abbrev PM (D : Dx) (As : List Value) (G : Wd) : Array Value → State → Prop := va_Pc As (fun U => Kw D U ∧ Hd D G U.heap)
abbrev QMi (D : Dx) (post : Int32 → Wd → Prop) : Array Value → State → Outcome → State → Prop := va_Qi post (fun G' t => Hd D G' t.heap) (Ab D)
abbrev QMl (D : Dx) (post : Int64 → Wd → Prop) : Array Value → State → Outcome → State → Prop := va_Ql post (fun G' t => Hd D G' t.heap) (Ab D)
abbrev QMv (D : Dx) (post : Wd → Prop) : Array Value → State → Outcome → State → Prop := va_Qv post (fun G' t => Hd D G' t.heap) (Ab D)
abbrev QMq (D : Dx) (post : Option Nat → Wd → Prop) : Array Value → State → Outcome → State → Prop := va_Qq post (fun G' t => Hd D G' t.heap) (Ab D)
/-- where a method's walk ends -/
abbrev ZM (X : Cx) (D : Dx) (Qc : Array Value → State → Outcome → State → Prop) (mc ms : Nat) : State → Prop := MQ X.2.2.2.2.2.2.2.1 Qc X.2.2.2.2.2.2.1 X.2.2.2.2.1 mc ms (Ab D)
theorem PM_blind {D : Dx} {As : List Value} {G : Wd} : FrameBlind (PM D As G) := fun a U g mk q => ⟨q.1, q.2.1.blind, q.2.2⟩
theorem v_met {l : Launch} {y : MethodName} {cc : ByteArray} {nL : Nat} {ret : Option FieldType} (hy : plainName y.cls = true) {D : Dx} {G : Wd} {As : List Value} {rm : Room} {mc ms : Nat} {Qc : Array Value → State → Outcome → State → Prop} (hlen : (lg_sl As).length ≤ nL)
    (body : ∀ X : Cx, X.2.1 = l → X.2.2.2.1 = rm → Fx X D cc nL y.cls ret y.name → V X D nL (ZM X D Qc mc ms) G 0 0 0 (lv_args 0 As) []) : Met l y (wM y cc nL ret) rm (PM D As G) Qc mc ms (Ab D) := by
  refine Met.ofW (cc := cc) (maxL := nL) (ret := ret) hy rfl ?_
  intro p e s m args below meth c s₁ B hml hv
  obtain ⟨rfl, hK, hH⟩ := hv
  have hts := atoms_spec (ws := wM y cc nL ret) B.pre
  have F : Fx (p, l, e, rm, s, m, As.toArray, below, meth, c) D cc nL y.cls ret y.name := ⟨B.exec, B.bytes, hml, findClass_of_methodNamed B.named, fun w h => hts w (List.mem_cons_of_mem _ h), hK, B.returns, B.notSynchronized, (name_of_methodNamed B.named B.method).1⟩
  rw [lg_entry_eq]
  exact body (p, l, e, rm, s, m, As.toArray, below, meth, c) rfl rfl F _ s.heap [] (lv_entry As hlen) hH va_S.rf
def LinkD (y : MethodName) (n : Nat) : Prop := y.cls ≠ "java/lang/invoke/MethodHandle" ∧ y.cls ≠ "java/lang/invoke/VarHandle" ∧ (parseMethodDescriptor y.desc).map (fun d => d.parameters.length) = some n
def LinkS (own : String) (idx : Nat) (y : MethodName) (bytes : ByteArray) (maxL : Nat) (ret : Option FieldType) (n : Nat) : Prop := Cond.methodLink own idx y ∈ tG ∧ Cond.static y ∈ tG ∧ Cond.initialized y.cls ∈ tG ∧ Cond.code y bytes maxL ret ∈ tG ∧ LinkD y n
def LinkV (own : String) (idx : Nat) (y : MethodName) (bytes : ByteArray) (maxL : Nat) (ret : Option FieldType) (n ci : Nat) : Prop := Cond.methodLink own idx y ∈ tG ∧ Cond.instanceMethod y ∈ tG ∧ Cond.selects y.cls y y ∈ tG ∧ Cond.initialized y.cls ∈ tG ∧ Cond.code y bytes maxL ret ∈ tG ∧ LinkD y n ∧ ∃ r : vw_C, vwCl[ci]? = some r ∧ r.1 = y.cls
def LinkU (own : String) (idx : Nat) (x y : MethodName) (bytes : ByteArray) (maxL : Nat) (ret : Option FieldType) (n ci : Nat) : Prop := (Cond.methodLink own idx x ∈ tG ∧ Cond.sameMethod x.cls x.cls x.name x.desc ∈ tG ∧ Cond.selects y.cls x y ∈ tG ∧ Cond.instanceMethod y ∈ tG ∧ Cond.initialized y.cls ∈ tG ∧ Cond.code y bytes maxL ret ∈ tG) ∧ LinkD x n ∧ (∃ r : vw_C, vwCl[ci]? = some r ∧ r.1 = y.cls) ∧ x = arrived0
def LinkI (own : String) (idx : Nat) (y : MethodName) (bytes : ByteArray) (maxL : Nat) (n : Nat) : Prop := Cond.methodLink own idx y ∈ tG ∧ Cond.instanceMethod y ∈ tG ∧ Cond.initialized y.cls ∈ tG ∧ Cond.code y bytes maxL none ∈ tG ∧ LinkD y n ∧ y.name = "<init>"
def LinkN (own : String) (idx : Nat) (y : MethodName) (host : String) (bytes : ByteArray) (maxL : Nat) (n : Nat) : Prop := (own, idx, y, host) ∈ nestM ∧ Cond.instanceMethod y ∈ tG ∧ Cond.initialized y.cls ∈ tG ∧ Cond.code y bytes maxL none ∈ tG ∧ LinkD y n ∧ y.name = "<init>"
section RC
variable {X : Cx} {D : Dx} {cc : ByteArray} {nL : Nat} {own : String} {ret : Option FieldType} {nm : String} {Q : State → Prop} {G : Wd} {cells slots pc : Nat} {L : List (Nat × Value)} {st : List Value}
variable {y x : MethodName} {idx n ci b maxL mc ms : Nat} {bytes : ByteArray} {rt : Option FieldType} {rm : Room} {As rest : List Value} {Qc : Array Value → State → Outcome → State → Prop}
/-- the room that a call wants of its caller's -/
def Rm (X : Cx) (cells slots maxL mc ms : Nat) (rm : Room) : Prop := (rm.cells = mc ∧ rm.slots = ms) ∧ (rm.frames + 1 ≤ X.2.2.2.1.frames ∧ 8 + (maxL + 11) + rm.locals ≤ X.2.2.2.1.locals) ∧ (cells + mc ≤ X.2.2.2.1.cells ∧ slots + ms ≤ X.2.2.2.1.slots)
abbrev RunX (X : Cx) (D : Dx) (nL : Nat) (G : Wd) (cells slots pc : Nat) (L : List (Nat × Value)) (st rest : List Value) (mc ms : Nat) (Qa : State → Outcome → State → Prop) : Prop :=
  ∀ (ls : Array Slot) (H : Heap) (locs : List Loc), lv_has ls nL L → Hd D G H → va_S (Ab D) X.2.2.2.2.1.heap H locs →
    va_Run X.1 X.2.1 X.2.2.1 X.2.2.2.1 X.2.2.2.2.1 X.2.2.2.2.2.1 X.2.2.2.2.2.2.1 X.2.2.2.2.2.2.2.1 X.2.2.2.2.2.2.2.2.1 X.2.2.2.2.2.2.2.2.2 H locs cells slots mc ms (F0 X.2.2.2.2.2.1 pc ls st) rest Qa (Ab D)
theorem r_S (F : Fx X D cc nL own ret nm) (lk : LinkS own idx y bytes maxL rt n) (hM : Met X.2.1 y (wM y bytes maxL rt) rm (PM D As G) Qc mc ms (Ab D)) (hR : Rm X cells slots maxL mc ms rm) (hn : As.length = n) (hst : st = As.reverse ++ rest) (hcat : (rest.map fun v => v.category).sum ≤ 8) (hd : decode cc pc = .ok (.invokestatic idx, 3)) : RunX X D nL G cells slots pc L st rest mc ms (Qc As.toArray) := by
  subst hst
  intro ls H locs hl hH hS
  obtain ⟨hx, hb, hml, hown, hts, hK, -⟩ := F
  obtain ⟨w1, w2, w3, w4, w5⟩ := lk
  refine va_runS (Ts := tG) ⟨hx, hb, hml, hown, hts⟩ hM (va_cwS n hts (fun w h => ?_) rfl hR.1.1 hR.1.2 w5 hR.2.1) ⟨PM_blind, fun U hU hW => ⟨rfl, hK.moved hW hU hS, by rw [hU]; exact hH⟩⟩ rfl hn hl.1 rfl (lv_room hcat) hd hR.2.2
  rcases List.mem_append.mp h with h | h
  · simp only [List.mem_cons, List.not_mem_nil, or_false] at h
    rcases h with h | h | h <;> subst h
    · exact ⟨w1, tG_good _ w1⟩
    · exact ⟨w2, tG_good _ w2⟩
    · exact ⟨w3, tG_good _ w3⟩
  · exact wM_good w4 w h
theorem r_V (F : Fx X D cc nL own ret nm) (lk : LinkV own idx y bytes maxL rt n ci) (hk : gK G b = ci + 1) (hM : Met X.2.1 y (wM y bytes maxL rt) rm (PM D (.ref b :: As) G) Qc mc ms (Ab D)) (hR : Rm X cells slots maxL mc ms rm) (hn : As.length = n) (hst : st = As.reverse ++ .ref b :: rest) (hcat : (rest.map fun v => v.category).sum ≤ 8) (hd : decode cc pc = .ok (.invokevirtual idx, 3)) : RunX X D nL G cells slots pc L st rest mc ms (Qc (Value.ref b :: As).toArray) := by
  subst hst
  intro ls H locs hl hH hS
  obtain ⟨hx, hb, hml, hown, hts, hK, -⟩ := F
  obtain ⟨w1, w2, w3, w4, w5, w6, r, hr, hry⟩ := lk
  obtain ⟨cell, q1, q2, q3, -⟩ := (hH.2.2 b).1 ci r hk hr
  have hcls := (hK.1.1 ci r hr).2
  refine va_runV (Ts := tG) (C := y.cls) ⟨hx, hb, hml, hown, hts⟩ hM (cwV n hts (fun w h => ?_) rfl hR.1.1 hR.1.2 ⟨rfl, w6⟩ hR.2.1) ⟨PM_blind, ⟨cell, q1, by rw [q3]; rfl, by rw [q2, ← hry]; exact hcls.1⟩, fun U hU hW => ⟨rfl, hK.moved hW hU hS, by rw [hU]; exact hH⟩⟩ rfl hn hl.1 rfl (lv_room hcat) hd hR.2.2
  rcases List.mem_append.mp h with h | h
  · simp only [List.mem_cons, List.not_mem_nil, or_false] at h
    rcases h with h | h | h | h <;> subst h
    · exact ⟨w1, tG_good _ w1⟩
    · exact ⟨w2, tG_good _ w2⟩
    · exact ⟨w3, tG_good _ w3⟩
    · exact ⟨w4, tG_good _ w4⟩
  · exact wM_good w5 w h
theorem r_U (F : Fx X D cc nL own ret nm) (lk : LinkU own idx x y bytes maxL rt n ci) (hk : gK G b = ci + 1) (hM : Met X.2.1 y (wM y bytes maxL rt) rm (PM D (.ref b :: As) G) Qc mc ms (Ab D)) (hR : Rm X cells slots maxL mc ms rm) (hn : As.length = n) (hst : st = As.reverse ++ .ref b :: rest) (hcat : (rest.map fun v => v.category).sum ≤ 8) (hd : decode cc pc = .ok (.invokevirtual idx, 3)) : RunX X D nL G cells slots pc L st rest mc ms (Qc (Value.ref b :: As).toArray) := by
  subst hst
  intro ls H locs hl hH hS
  obtain ⟨hx, hb, hml, hown, hts, hK, -⟩ := F
  obtain ⟨⟨w1, w2, w3, w4, w5, w7⟩, w6, ⟨r, hr, hry⟩, rfl⟩ := lk
  obtain ⟨cell, q1, q2, q3, -⟩ := (hH.2.2 b).1 ci r hk hr
  have hcls := (hK.1.1 ci r hr).2
  refine va_runU (Ts := tG) (C := y.cls) (owner := arrived0.cls) ⟨hx, hb, hml, hown, hts⟩ hM (va_cwA n hts (fun w h => ?_) rfl hR.1.1 hR.1.2 hK.2.2.1 w6 hR.2.1) ⟨PM_blind, ⟨cell, q1, by rw [q3]; rfl, by rw [q2, ← hry]; exact hcls.1⟩, fun U hU hW => ⟨rfl, hK.moved hW hU hS, by rw [hU]; exact hH⟩⟩ rfl hn hl.1 rfl (lv_room hcat) hd hR.2.2
  rcases List.mem_append.mp h with h | h
  · simp only [List.mem_cons, List.not_mem_nil, or_false] at h
    rcases h with h | h | h | h | h <;> subst h
    · exact ⟨w1, tG_good _ w1⟩
    · exact ⟨w2, tG_good _ w2⟩
    · exact ⟨w3, tG_good _ w3⟩
    · exact ⟨w4, tG_good _ w4⟩
    · exact ⟨w5, tG_good _ w5⟩
  · exact wM_good w7 w h
theorem r_I (F : Fx X D cc nL own ret nm) (lk : LinkI own idx y bytes maxL n) (hM : Met X.2.1 y (wM y bytes maxL none) rm (PM D (.ref b :: As) G) Qc mc ms (Ab D)) (hR : Rm X cells slots maxL mc ms rm) (hn : As.length = n) (hst : st = As.reverse ++ .ref b :: rest) (hcat : (rest.map fun v => v.category).sum ≤ 8) (hd : decode cc pc = .ok (.invokespecial idx, 3)) : RunX X D nL G cells slots pc L st rest mc ms (Qc (Value.ref b :: As).toArray) := by
  subst hst
  intro ls H locs hl hH hS
  obtain ⟨hx, hb, hml, hown, hts, hK, -⟩ := F
  obtain ⟨w1, w2, w3, w4, w5, w6⟩ := lk
  exact va_runI (Ts := tG) ⟨hx, hb, hml, hown, hts⟩ hM (cwI n hts (wM_good w4) rfl hR.1.1 hR.1.2 (hts _ w3) (hts _ w1) (hts _ w2) w6 w5 hR.2.1) ⟨PM_blind, fun U hU hW => ⟨rfl, hK.moved hW hU hS, by rw [hU]; exact hH⟩⟩ rfl hn hl.1 rfl (lv_room hcat) hd hR.2.2
theorem r_N (F : Fx X D cc nL own ret nm) {host : String} (lk : LinkN own idx y host bytes maxL n) (hM : Met X.2.1 y (wM y bytes maxL none) rm (PM D (.ref b :: As) G) Qc mc ms (Ab D)) (hR : Rm X cells slots maxL mc ms rm) (hn : As.length = n) (hst : st = As.reverse ++ .ref b :: rest) (hcat : (rest.map fun v => v.category).sum ≤ 8) (hd : decode cc pc = .ok (.invokespecial idx, 3)) : RunX X D nL G cells slots pc L st rest mc ms (Qc (Value.ref b :: As).toArray) := by
  subst hst
  intro ls H locs hl hH hS
  obtain ⟨hx, hb, hml, hown, hts, hK, -⟩ := F
  obtain ⟨w1, w2, w3, w4, w5, w6⟩ := lk
  exact va_runIN (Ts := tG) ⟨hx, hb, hml, hown, hts⟩ hM ⟨va_cnB n hts (wM_good w4) rfl hR.1.1 hR.1.2 (hK.2.1 _ w1) (hts _ w3) w5 hR.2.1, w6, hts _ w2⟩ ⟨PM_blind, fun U hU hW => ⟨rfl, hK.moved hW hU hS, by rw [hU]; exact hH⟩⟩ rfl hn hl.1 rfl (lv_room hcat) hd hR.2.2
theorem v_calli {post : Int32 → Wd → Prop} {a : Array Value} (hr : RunX X D nL G cells slots pc L st rest mc ms (QMi D post a)) (kk : ∀ (r : Int32) (G' : Wd), post r G' → V X D nL Q G' (cells + mc) (slots + ms) (pc + 3) L (.int r :: rest)) : V X D nL Q G cells slots pc L st := fun ls H locs hl hH hS =>
  va_calli (hr ls H locs hl hH hS) hS (fun q _ h => h) (fun q h => h) (fun r u t H1 locs1 ht hvm hp hB hz hk hS1 => kk r u hp ls H1 locs1 hl (by rw [← ht]; exact hB) hS1)
theorem v_calll {post : Int64 → Wd → Prop} {a : Array Value} (hr : RunX X D nL G cells slots pc L st rest mc ms (QMl D post a)) (kk : ∀ (r : Int64) (G' : Wd), post r G' → V X D nL Q G' (cells + mc) (slots + ms) (pc + 3) L (.long r :: rest)) : V X D nL Q G cells slots pc L st := fun ls H locs hl hH hS =>
  va_calll (hr ls H locs hl hH hS) hS (fun q _ h => h) (fun q h => h) (fun r u t H1 locs1 ht hvm hp hB hz hk hS1 => kk r u hp ls H1 locs1 hl (by rw [← ht]; exact hB) hS1)
theorem v_callv {post : Wd → Prop} {a : Array Value} (hr : RunX X D nL G cells slots pc L st rest mc ms (QMv D post a)) (kk : ∀ (G' : Wd), post G' → V X D nL Q G' (cells + mc) (slots + ms) (pc + 3) L rest) : V X D nL Q G cells slots pc L st := fun ls H locs hl hH hS =>
  va_callv (hr ls H locs hl hH hS) hS (fun q _ h => h) (fun q h => h) (fun u t H1 locs1 ht hvm hp hB hz hk hS1 => kk u hp ls H1 locs1 hl (by rw [← ht]; exact hB) hS1)
theorem v_callq {post : Option Nat → Wd → Prop} {a : Array Value} (hr : RunX X D nL G cells slots pc L st rest mc ms (QMq D post a)) (kk : ∀ (r : Option Nat) (G' : Wd), post r G' → V X D nL Q G' (cells + mc) (slots + ms) (pc + 3) L (va_rf r :: rest)) : V X D nL Q G cells slots pc L st := fun ls H locs hl hH hS =>
  va_callq (hr ls H locs hl hH hS) hS (fun q _ h => h) (fun q h => h) (fun r u t H1 locs1 ht hvm hp hB hz hk hS1 => kk r u hp ls H1 locs1 hl (by rw [← ht]; exact hB) hS1)
/-! returns -/
theorem v_iret (F : Fx X D cc nL own (some .int) nm) {post : Int32 → Wd → Prop} {v : Int32} (hq : post v G) (hd : decode cc pc = .ok (.ireturn, 1)) : V X D nL (ZM X D (QMi D post) cells slots) G cells slots pc L [.int v] := fun ls H locs hl hH hS =>
  W.iret (v := v) F.1 F.2.1 F.2.2.2.2.2.2.1 (fun t ht hW => ⟨⟨v, G, rfl, hq, by show Hd D G t.heap; rw [ht]; exact hH⟩, hS.F ht⟩) hS.2.2 hd F.2.2.2.2.2.2.2.1
theorem v_zret (F : Fx X D cc nL own (some .boolean) nm) {post : Int32 → Wd → Prop} {v : Int32} (hB : isB v) (hq : post v G) (hd : decode cc pc = .ok (.ireturn, 1)) : V X D nL (ZM X D (QMi D post) cells slots) G cells slots pc L [.int v] := fun ls H locs hl hH hS =>
  W.zret (v := v) F.1 F.2.1 F.2.2.2.2.2.2.1 (isB_nar hB) (fun t ht hW => ⟨⟨v, G, rfl, hq, by show Hd D G t.heap; rw [ht]; exact hH⟩, hS.F ht⟩) hS.2.2 hd F.2.2.2.2.2.2.2.1
theorem v_lret (F : Fx X D cc nL own (some .long) nm) {post : Int64 → Wd → Prop} {v : Int64} (hq : post v G) (hd : decode cc pc = .ok (.lreturn, 1)) : V X D nL (ZM X D (QMl D post) cells slots) G cells slots pc L [.long v] := fun ls H locs hl hH hS =>
  W.lret (v := v) F.1 F.2.1 F.2.2.2.2.2.2.1 (fun t ht hW => ⟨⟨v, G, rfl, hq, by show Hd D G t.heap; rw [ht]; exact hH⟩, hS.F ht⟩) hS.2.2 hd F.2.2.2.2.2.2.2.1
theorem v_vret (F : Fx X D cc nL own none nm) {post : Wd → Prop} (hq : post G) (hd : decode cc pc = .ok (.return_, 1)) : V X D nL (ZM X D (QMv D post) cells slots) G cells slots pc L [] := fun ls H locs hl hH hS =>
  W.vret F.1 F.2.1 F.2.2.2.2.2.2.1 (fun t ht hW => ⟨⟨G, rfl, hq, by show Hd D G t.heap; rw [ht]; exact hH⟩, hS.F ht⟩) hS.2.2 hd F.2.2.2.2.2.2.2.1
theorem v_qret {C : String} (F : Fx X D cc nL own (some (.object C)) nm) {post : Option Nat → Wd → Prop} {r : Option Nat} (hq : post r G) (hd : decode cc pc = .ok (.areturn, 1)) : V X D nL (ZM X D (QMq D post) cells slots) G cells slots pc L [va_rf r] := fun ls H locs hl hH hS =>
  W.aret (v := va_rf r) F.1 F.2.1 F.2.2.2.2.2.2.1 (Or.inl ⟨_, rfl⟩) (by cases r with | none => exact Or.inl rfl | some a => exact Or.inr ⟨a, rfl⟩) (fun t ht hW => ⟨⟨r, G, rfl, hq, by show Hd D G t.heap; rw [ht]; exact hH⟩, hS.F ht⟩) hS.2.2 hd F.2.2.2.2.2.2.2.1
end RC
