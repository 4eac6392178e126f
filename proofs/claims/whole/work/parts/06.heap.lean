theorem in_r {big ws : List Cond} (ps : List Nat) (hp : ws = ps.filterMap (fun i => big[i]?)) (hg : ws.all goodWord = true) : ∀ w ∈ ws, w ∈ big ∧ goodWord w = true := by
  intro w hw
  refine ⟨?_, List.all_eq_true.mp hg w hw⟩
  rw [hp] at hw
  obtain ⟨i, -, hi⟩ := List.mem_filterMap.mp hw
  exact List.mem_of_getElem? hi
set_option maxRecDepth 20000 in
theorem ci_0 : ∀ w ∈ u_ws RX0 TX0 1, w ∈ tG := fun w h => List.mem_filter.mpr (in_r (big := lw_tbl) [195] (by decide +kernel) (by decide +kernel) w h)
theorem cd_0 : ∀ k, k < 1 → defaultValue (tyX0 k) = fv (tyX0 k) (0, fun _ => 0, fun _ => 0, fun _ _ => 0, fun _ _ => 0, fun _ _ => none) 0 k := by decide +kernel
set_option maxRecDepth 20000 in
theorem ci_1 : ∀ w ∈ u_ws RX1 TX1 3, w ∈ tG := fun w h => List.mem_filter.mpr (in_r (big := lw_tbl) [283, 285, 287] (by decide +kernel) (by decide +kernel) w h)
theorem cd_1 : ∀ k, k < 3 → defaultValue (tyX1 k) = fv (tyX1 k) (0, fun _ => 0, fun _ => 0, fun _ _ => 0, fun _ _ => 0, fun _ _ => none) 0 k := by decide +kernel
set_option maxRecDepth 20000 in
theorem ci_2 : ∀ w ∈ u_ws RX2 TX2 3, w ∈ tG := fun w h => List.mem_filter.mpr (in_r (big := lw_tbl) [118, 120, 122] (by decide +kernel) (by decide +kernel) w h)
theorem cd_2 : ∀ k, k < 3 → defaultValue (tyX2 k) = fv (tyX2 k) (0, fun _ => 0, fun _ => 0, fun _ _ => 0, fun _ _ => 0, fun _ _ => none) 0 k := by decide +kernel
set_option maxRecDepth 20000 in
theorem ci_3 : ∀ w ∈ u_ws RX4 TX4 7, w ∈ tG := fun w h => List.mem_filter.mpr (in_r (big := lw_tbl) [251, 253, 255, 257, 259, 261, 263] (by decide +kernel) (by decide +kernel) w h)
theorem cd_3 : ∀ k, k < 7 → defaultValue (tyX4 k) = fv (tyX4 k) (0, fun _ => 0, fun _ => 0, fun _ _ => 0, fun _ _ => 0, fun _ _ => none) 0 k := by decide +kernel
set_option maxRecDepth 20000 in
theorem ci_4 : ∀ w ∈ u_ws RX5 TX5 14, w ∈ tG := fun w h => List.mem_filter.mpr (in_r (big := lw_tbl) [413, 415, 417, 419, 421, 423, 425, 427, 429, 431, 433, 435, 437, 439] (by decide +kernel) (by decide +kernel) w h)
theorem cd_4 : ∀ k, k < 14 → defaultValue (tyX5 k) = fv (tyX5 k) (0, fun _ => 0, fun _ => 0, fun _ _ => 0, fun _ _ => 0, fun _ _ => none) 0 k := by decide +kernel
set_option maxRecDepth 20000 in
theorem ci_5 : ∀ w ∈ u_ws RX6 TX6 6, w ∈ tG := fun w h => List.mem_filter.mpr (in_r (big := lw_tbl) [766, 768, 770, 772, 774, 776] (by decide +kernel) (by decide +kernel) w h)
theorem cd_5 : ∀ k, k < 6 → defaultValue (tyX6 k) = fv (tyX6 k) (0, fun _ => 0, fun _ => 0, fun _ _ => 0, fun _ _ => 0, fun _ _ => none) 0 k := by decide +kernel
set_option maxRecDepth 20000 in
theorem ci_6 : ∀ w ∈ u_ws RX7 TX7 2, w ∈ tG := fun w h => List.mem_filter.mpr (in_r (big := lw_tbl) [208, 210] (by decide +kernel) (by decide +kernel) w h)
theorem cd_6 : ∀ k, k < 2 → defaultValue (tyX7 k) = fv (tyX7 k) (0, fun _ => 0, fun _ => 0, fun _ _ => 0, fun _ _ => 0, fun _ _ => none) 0 k := by decide +kernel
set_option maxRecDepth 20000 in
theorem ci_7 : ∀ w ∈ u_ws RX8 TX8 3, w ∈ tG := fun w h => List.mem_filter.mpr (in_r (big := lw_tbl) [227, 229, 231] (by decide +kernel) (by decide +kernel) w h)
theorem cd_7 : ∀ k, k < 3 → defaultValue (tyX8 k) = fv (tyX8 k) (0, fun _ => 0, fun _ => 0, fun _ _ => 0, fun _ _ => 0, fun _ _ => none) 0 k := by decide +kernel
set_option maxRecDepth 20000 in
theorem ci_8 : ∀ w ∈ u_ws RX9 TX9 11, w ∈ tG := fun w h => List.mem_filter.mpr (in_r (big := lw_tbl) [161, 163, 165, 167, 169, 171, 173, 175, 177, 179, 181] (by decide +kernel) (by decide +kernel) w h)
theorem cd_8 : ∀ k, k < 11 → defaultValue (tyX9 k) = fv (tyX9 k) (0, fun _ => 0, fun _ => 0, fun _ _ => 0, fun _ _ => 0, fun _ _ => none) 0 k := by decide +kernel
set_option maxRecDepth 20000 in
theorem ci_9 : ∀ w ∈ u_ws RX10 TX10 14, w ∈ tG := fun w h => List.mem_filter.mpr (in_r (big := lw_tbl) [304, 306, 308, 310, 312, 314, 316, 318, 320, 322, 324, 326, 328, 330] (by decide +kernel) (by decide +kernel) w h)
theorem cd_9 : ∀ k, k < 14 → defaultValue (tyX10 k) = fv (tyX10 k) (0, fun _ => 0, fun _ => 0, fun _ _ => 0, fun _ _ => 0, fun _ _ => none) 0 k := by decide +kernel
set_option maxRecDepth 20000 in
theorem ci_10 : ∀ w ∈ u_ws RX11 TX11 46, w ∈ tG := fun w h => List.mem_filter.mpr (in_r (big := lw_tbl) [919, 921, 923, 925, 927, 929, 931, 933, 935, 937, 939, 941, 943, 945, 947, 949, 951, 953, 955, 957, 959, 961, 963, 965, 967, 969, 971, 973, 975, 977, 979, 981, 983, 985, 987, 989, 991, 993, 995, 997, 999, 1001, 1003, 1005, 1007, 1009] (by decide +kernel) (by decide +kernel) w h)
theorem cd_10 : ∀ k, k < 46 → defaultValue (tyX11 k) = fv (tyX11 k) (0, fun _ => 0, fun _ => 0, fun _ _ => 0, fun _ _ => 0, fun _ _ => none) 0 k := by decide +kernel
def clsOk (ci : Nat) (r : vw_C) : Prop := (∀ w ∈ u_ws r.1 r.2.1 r.2.2, w ∈ tG) ∧ (∀ k, k < r.2.2 → parseFieldDescriptor (r.2.1 k).2.2.1 = some (tyOf ci k)) ∧ (∀ a, a < r.2.2 → ∀ b, b < r.2.2 → a ≠ b → (r.2.1 a).2.1 ≠ (r.2.1 b).2.1) ∧ (∀ k, k < r.2.2 → defaultValue (tyOf ci k) = fv (tyOf ci k) (0, fun _ => 0, fun _ => 0, fun _ _ => 0, fun _ _ => 0, fun _ _ => none) 0 k)
theorem cls_ok : ∀ (ci : Nat) (r : vw_C), vwCl[ci]? = some r → clsOk ci r
  | 0, r, h => by
    have e : r = (RX0, TX0, 1) := (Option.some.inj (show some (RX0, TX0, 1) = some r from h)).symm
    subst e
    exact ⟨ci_0, tyX0_ok, nmX0, cd_0⟩
  | 1, r, h => by
    have e : r = (RX1, TX1, 3) := (Option.some.inj (show some (RX1, TX1, 3) = some r from h)).symm
    subst e
    exact ⟨ci_1, tyX1_ok, nmX1, cd_1⟩
  | 2, r, h => by
    have e : r = (RX2, TX2, 3) := (Option.some.inj (show some (RX2, TX2, 3) = some r from h)).symm
    subst e
    exact ⟨ci_2, tyX2_ok, nmX2, cd_2⟩
  | 3, r, h => by
    have e : r = (RX4, TX4, 7) := (Option.some.inj (show some (RX4, TX4, 7) = some r from h)).symm
    subst e
    exact ⟨ci_3, tyX4_ok, nmX4, cd_3⟩
  | 4, r, h => by
    have e : r = (RX5, TX5, 14) := (Option.some.inj (show some (RX5, TX5, 14) = some r from h)).symm
    subst e
    exact ⟨ci_4, tyX5_ok, nmX5, cd_4⟩
  | 5, r, h => by
    have e : r = (RX6, TX6, 6) := (Option.some.inj (show some (RX6, TX6, 6) = some r from h)).symm
    subst e
    exact ⟨ci_5, tyX6_ok, nmX6, cd_5⟩
  | 6, r, h => by
    have e : r = (RX7, TX7, 2) := (Option.some.inj (show some (RX7, TX7, 2) = some r from h)).symm
    subst e
    exact ⟨ci_6, tyX7_ok, nmX7, cd_6⟩
  | 7, r, h => by
    have e : r = (RX8, TX8, 3) := (Option.some.inj (show some (RX8, TX8, 3) = some r from h)).symm
    subst e
    exact ⟨ci_7, tyX8_ok, nmX8, cd_7⟩
  | 8, r, h => by
    have e : r = (RX9, TX9, 11) := (Option.some.inj (show some (RX9, TX9, 11) = some r from h)).symm
    subst e
    exact ⟨ci_8, tyX9_ok, nmX9, cd_8⟩
  | 9, r, h => by
    have e : r = (RX10, TX10, 14) := (Option.some.inj (show some (RX10, TX10, 14) = some r from h)).symm
    subst e
    exact ⟨ci_9, tyX10_ok, nmX10, cd_9⟩
  | 10, r, h => by
    have e : r = (RX11, TX11, 46) := (Option.some.inj (show some (RX11, TX11, 46) = some r from h)).symm
    subst e
    exact ⟨ci_10, tyX11_ok, nmX11, cd_10⟩
  | n + 11, r, h => by
    have := (List.getElem?_eq_some_iff.mp h).1
    exact absurd (show n + 11 < 11 from this) (by omega)
theorem cls_lt {ci : Nat} {r : vw_C} (h : vwCl[ci]? = some r) : ci < 11 := (List.getElem?_eq_some_iff.mp h).1
theorem tys_lt {D : Dx} {t : Nat} {q : ClassId × FieldType} (h : (tysD D)[t]? = some q) : t < 7 := (List.getElem?_eq_some_iff.mp h).1
def FLink (own : String) (idx ci k : Nat) (fin : Bool) : Prop := ∃ r : vw_C, vwCl[ci]? = some r ∧ k < r.2.2 ∧ (r.2.1 k).2.2.2 = fin ∧ ((r.2.1 k).1 = own ∨ fin = false) ∧ Cond.fieldLink own idx (r.2.1 k).1 (r.2.1 k).2.1 (r.2.1 k).2.2.1 ∈ tG
def isB (x : Int32) : Prop := x = 0 ∨ x = 1
theorem isB_nar {x : Int32} (h : isB x) : narrow .boolean (.int x) = .int x := by rcases h with h | h <;> subst h <;> rfl
theorem isB_fit {x : Int32} (h : isB x) : fits .boolean (.int x) = true := by rcases h with h | h <;> subst h <;> rfl
theorem isB_vp {x : Int32} (h : isB x) : vp_nar .boolean x = x := by rcases h with h | h <;> subst h <;> rfl
/-- the name of an array class of numbers, out of what the tables say -/
def s_arrName (ty : FieldType) : Prop := ∀ (U : State) (cA : ClassId), va_RA U cA ty → U.vm.findClass ("[" ++ ty.toString) = some cA
section RH
variable {X : Cx} {D : Dx} {cc : ByteArray} {nL : Nat} {own : String} {ret : Option FieldType} {nm : String} {Q : State → Prop} {G : Wd} {cells slots pc : Nat} {L : List (Nat × Value)} {st : List Value}
theorem v_get (F : Fx X D cc nL own ret nm) {idx ci k a : Nat} {fin : Bool} {v : Value} (fl : FLink own idx ci k fin) (hk : gK G a = ci + 1) (hv : fv (tyOf ci k) G a k = v) (hd : decode cc pc = .ok (.getfield idx, 3)) (kk : V X D nL Q G cells slots (pc + 3) L (v :: st)) : V X D nL Q G cells slots pc L (.ref a :: st) := by
  subst hv
  obtain ⟨r, hr, hkN, -, -, hmem⟩ := fl
  intro ls H locs hl hH hS
  obtain ⟨hx, hb, hml, hown, hts, hK, -⟩ := F
  obtain ⟨cell, q1, q2, q3, q4⟩ := (hH.2.2 a).1 ci r hk hr
  obtain ⟨hSl, hfc, kC, hkC, hkind⟩ := hK.1.1 ci r hr
  obtain ⟨cf, kf, fi, f, hi, hsl⟩ := hSl k hkN
  refine W.getf hx hb hown (hts _ hmem) hi (u_facts hfc hkC (u_lays hts (cls_ok ci r hr).1 hkN) hi).1 q1 (by rw [q3]; exact fun h => by cases h) (v := fv (tyOf ci k) G a k) ?_ rfl rfl hd (kk ls H locs hl hH hS)
  rw [hsl]
  exact q4 k hkN
theorem v_put_core (F : Fx X D cc nL own ret nm) {idx ci k a : Nat} {fin : Bool} {v : Value} {G' : Wd} (fl : FLink own idx ci k fin) (hin : fin = true → nm = "<init>") (hk : gK G a = ci + 1) (hn : narrow (tyOf ci k) v = v) (hf : fits (tyOf ci k) v = true) (hz : gZ G' = gZ G) (hk' : gK G' a = gK G a) (hs : ∀ b, b ≠ a → sameAt G G' b) (hself : fv (tyOf ci k) G' a k = v) (hoth : ∀ j, j ≠ k → fv (tyOf ci j) G' a j = fv (tyOf ci j) G a j) (hd : decode cc pc = .ok (.putfield idx, 3)) (kk : V X D nL Q G' cells slots (pc + 3) L st) : V X D nL Q G cells slots pc L (v :: .ref a :: st) := by
  obtain ⟨r, hr, hkN, hfin, hdecl, hmem⟩ := fl
  intro ls H locs hl hH hS
  obtain ⟨hx, hb, hml, hown, hts, hK, -, -, hnm⟩ := F
  obtain ⟨cin, cty, cnm, -⟩ := cls_ok ci r hr
  obtain ⟨cell, q1, q2, q3, q4⟩ := (hH.2.2 a).1 ci r hk hr
  obtain ⟨hSl, hfc, kC, hkC, hkind⟩ := hK.1.1 ci r hr
  have hap := va_apart (D := (dC D, dI D)) (own := own) (C := r.1) (T := r.2.1) (N := r.2.2) hts cin (tyOf ci) cty cnm hK.1 hr
  obtain ⟨cf, kf, fi, f, hi, hsl⟩ := hSl k hkN
  have hst := (u_facts hfc hkC (u_lays hts cin hkN) hi).1
  have hlay := hts _ (cin _ (u_in_lay hkN))
  unfold u_lay at hlay
  have hAa : Ab D a := (hH.2.1 a (by rw [hk]; exact Nat.succ_ne_zero _)).1
  have fin2 : ∀ H' : Heap, H'[a]? = some (cell.setSlot (dI D ci k) v) → H'.size = H.size → (∀ q : Nat, q ≠ a → H'[q]? = H[q]?) → Hd D G' H' := by
    intro H' e1 e2 e3
    refine hH.put e2 e3 hz hk' hs ⟨fun ci' r' h1 h2 => ?_, fun t q h1 h2 => ?_⟩
    · rw [hk', hk] at h1
      have e : ci' = ci := by omega
      subst e
      cases hr.symm.trans h2
      refine t_OB.to (V := updV (fun j => fv (tyOf ci' j) G a j) k v) ⟨_, e1, q2, q3, t_set q4 hap hkN v⟩ (fun j _ => ?_)
      by_cases hj : j = k
      · subst hj; simp [updV, hself]
      · simp [updV, hj, hoth j hj]
    · rw [hk', hk] at h1
      have := cls_lt hr
      have := tys_lt h2
      omega
  cases fin with
  | false =>
    rw [if_neg (by rw [hfin]; decide)] at hlay
    have h6 := u_store hfc hkC hkind hlay hi (cty k hkN) hn hf
    refine W.putK hx hb (f := f) ⟨hown, hts _ hmem, ⟨_, _, _, hi⟩, hst⟩ (by rw [q2]; exact h6) q1 q3 (by rw [hsl]; exact k2_hasslot (q4 k hkN)) rfl rfl hd fun H' e1 e2 e3 => ?_
    rw [hsl] at e1
    exact kk ls H' _ hl (fin2 H' e1 e2 e3) (hS.put e2 e3 hAa)
  | true =>
    rw [if_pos hfin] at hlay
    have hcf : X.2.2.2.2.2.1.cls = cf := by
      obtain ⟨_, _, c', _, _, _, -, -, hf', -, -, -, hown2, -⟩ := Cond.laysFinal_spec hlay
      have e1 : c' = cf := by have := hi.symm.trans hf'; simp at this; exact this.1.symm
      rw [hdecl.resolve_right (by decide)] at hown2
      rw [← e1]; exact Option.some.inj (hown.symm.trans hown2)
    have h6 := u_fits hfc hkC hkind (Or.inr hlay) hi (cty k hkN) hn hf
    refine W.putFinK hx hb hown (hts _ hmem) hi hst hcf (by rw [hnm]; exact hin rfl) (by rw [q2]; exact h6) q1 q3 (by rw [hsl]; exact k2_hasslot (q4 k hkN)) rfl rfl hd fun H' e1 e2 e3 => ?_
    rw [hsl] at e1
    exact kk ls H' _ hl (fin2 H' e1 e2 e3) (hS.put e2 e3 hAa)
theorem same_uI {a k : Nat} {v : Int32} {b : Nat} (h : b ≠ a) : sameAt G (uI G a k v) b := ⟨rfl, rfl, fun j => by simp [uI, gI, u2, h], fun _ => rfl, fun _ => rfl⟩
theorem same_uJ {a k : Nat} {v : Int64} {b : Nat} (h : b ≠ a) : sameAt G (uJ G a k v) b := ⟨rfl, rfl, fun _ => rfl, fun j => by simp [uJ, gJ, u2, h], fun _ => rfl⟩
theorem same_uR {a k : Nat} {v : Option Nat} {b : Nat} (h : b ≠ a) : sameAt G (uR G a k v) b := ⟨rfl, rfl, fun _ => rfl, fun _ => rfl, fun j => by simp [uR, gR, u2, h]⟩
theorem fv_uI (ty : FieldType) {a k : Nat} {v : Int32} {j : Nat} (h : j ≠ k) : fv ty (uI G a k v) a j = fv ty G a j := by
  cases ty <;> simp [fv, uI, gI, gJ, gR, u2, h]
theorem fv_uJ (ty : FieldType) {a k : Nat} {v : Int64} {j : Nat} (h : j ≠ k) : fv ty (uJ G a k v) a j = fv ty G a j := by
  cases ty <;> simp [fv, uJ, gI, gJ, gR, u2, h]
theorem fv_uR (ty : FieldType) {a k : Nat} {v : Option Nat} {j : Nat} (h : j ≠ k) : fv ty (uR G a k v) a j = fv ty G a j := by
  cases ty <;> simp [fv, uR, gI, gJ, gR, u2, h]
theorem v_putI (F : Fx X D cc nL own ret nm) {idx ci k a : Nat} {fin : Bool} {x : Int32} (fl : FLink own idx ci k fin) (hin : fin = true → nm = "<init>") (ht : tyOf ci k = .int) (hk : gK G a = ci + 1) (hd : decode cc pc = .ok (.putfield idx, 3)) (kk : V X D nL Q (uI G a k x) cells slots (pc + 3) L st) : V X D nL Q G cells slots pc L (.int x :: .ref a :: st) :=
  v_put_core (G' := uI G a k x) F fl hin hk (by rw [ht]; rfl) (by rw [ht]; rfl) rfl rfl (fun b hb => same_uI hb) (by rw [ht]; simp [fv, uI, gI, u2]) (fun j hj => fv_uI _ hj) hd kk
theorem v_putZ (F : Fx X D cc nL own ret nm) {idx ci k a : Nat} {fin : Bool} {x : Int32} (fl : FLink own idx ci k fin) (hin : fin = true → nm = "<init>") (ht : tyOf ci k = .boolean) (hB : isB x) (hk : gK G a = ci + 1) (hd : decode cc pc = .ok (.putfield idx, 3)) (kk : V X D nL Q (uI G a k x) cells slots (pc + 3) L st) : V X D nL Q G cells slots pc L (.int x :: .ref a :: st) :=
  v_put_core (G' := uI G a k x) F fl hin hk (by rw [ht]; exact isB_nar hB) (by rw [ht]; exact isB_fit hB) rfl rfl (fun b hb => same_uI hb) (by rw [ht]; simp [fv, uI, gI, u2]) (fun j hj => fv_uI _ hj) hd kk
theorem v_putJ (F : Fx X D cc nL own ret nm) {idx ci k a : Nat} {fin : Bool} {x : Int64} (fl : FLink own idx ci k fin) (hin : fin = true → nm = "<init>") (ht : tyOf ci k = .long) (hk : gK G a = ci + 1) (hd : decode cc pc = .ok (.putfield idx, 3)) (kk : V X D nL Q (uJ G a k x) cells slots (pc + 3) L st) : V X D nL Q G cells slots pc L (.long x :: .ref a :: st) :=
  v_put_core (G' := uJ G a k x) F fl hin hk (by rw [ht]; rfl) (by rw [ht]; rfl) rfl rfl (fun b hb => same_uJ hb) (by rw [ht]; simp [fv, uJ, gJ, u2]) (fun j hj => fv_uJ _ hj) hd kk
theorem v_putR (F : Fx X D cc nL own ret nm) {idx ci k a : Nat} {fin : Bool} {x : Nat} (fl : FLink own idx ci k fin) (hin : fin = true → nm = "<init>") (ht : narrow (tyOf ci k) (.ref x) = .ref x ∧ fits (tyOf ci k) (.ref x) = true ∧ ∀ G : Wd, fv (tyOf ci k) G a k = va_rf (gR G a k)) (hk : gK G a = ci + 1) (hd : decode cc pc = .ok (.putfield idx, 3)) (kk : V X D nL Q (uR G a k (some x)) cells slots (pc + 3) L st) : V X D nL Q G cells slots pc L (.ref x :: .ref a :: st) :=
  v_put_core (G' := uR G a k (some x)) F fl hin hk ht.1 ht.2.1 rfl rfl (fun b hb => same_uR hb) (by rw [ht.2.2]; simp [uR, gR, u2, va_rf]) (fun j hj => fv_uR _ hj) hd kk
/-! arrays -/
theorem arr_at {H : Heap} (hH : Hd D G H) {a : Nat} (t : Nat) (q : ClassId × FieldType) (hk : gK G a = t + 20) (hq : (tysD D)[t]? = some q) : H[a]? = some (arrV q.1 (gN G a) (fun j => fv q.2 G a j)) := (hH.2.2 a).2 t q hk hq
theorem arr_put {H H1 : Heap} {G' : Wd} {a i : Nat} {v : Value} (hH : Hd D G H) (t : Nat) (q : ClassId × FieldType) (hk : gK G a = t + 20) (hq : (tysD D)[t]? = some q) (e : H1[a]? = some ((arrV q.1 (gN G a) (fun j => fv q.2 G a j)).setSlot i v)) (z : H1.size = H.size) (oq : ∀ x : Nat, x ≠ a → H1[x]? = H[x]?) (hz : gZ G' = gZ G) (hk' : gK G' a = gK G a) (hn' : gN G' a = gN G a) (hs : ∀ b, b ≠ a → sameAt G G' b) (hself : fv q.2 G' a i = v) (hoth : ∀ j, j ≠ i → fv q.2 G' a j = fv q.2 G a j) : Hd D G' H1 := by
  refine hH.put z oq hz hk' hs ⟨fun ci' r' h1 h2 => ?_, fun t' q' h1 h2 => ?_⟩
  · rw [hk', hk] at h1
    have := cls_lt h2
    omega
  · rw [hk', hk] at h1
    have et : t' = t := by omega
    subst et
    cases hq.symm.trans h2
    rw [e, arrV_store, hn']
    congr 2
    funext j
    by_cases hj : j = i
    · subst hj; simp [updV, hself]
    · simp [updV, hj, hoth j hj]
theorem v_iald (F : Fx X D cc nL own ret nm) {a : Nat} {i : Int32} (hk : gK G a = 20) (hin : vp_in i (gN G a)) (hd : decode cc pc = .ok (.iaload, 1)) (kk : V X D nL Q G cells slots (pc + 1) L (.int (gI G a i.toNatClampNeg) :: st)) : V X D nL Q G cells slots pc L (.int i :: .ref a :: st) := by
  intro ls H locs hl hH hS
  have hlt : i.toNatClampNeg < gN G a := Nat.not_le.mp fun q => hin (Or.inr q)
  exact W.iald (v := .int (gI G a i.toNatClampNeg)) F.1 F.2.1 (arr_at hH 0 _ hk rfl) ((F.2.2.2.2.2.1.1.2 0 _ rfl).1 _ _) (fun q => by cases q) (by show ¬ (i < 0 ∨ (arrV _ _ _).slots.size ≤ _); rw [arrV_size]; exact hin) (by show (arrV _ _ _).slots[_]? = _; rw [arrV_read _ _ hlt]; rfl) rfl rfl hd (kk ls H locs hl hH hS)
theorem v_lald (F : Fx X D cc nL own ret nm) {a : Nat} {i : Int32} (hk : gK G a = 21) (hin : vp_in i (gN G a)) (hd : decode cc pc = .ok (.laload, 1)) (kk : V X D nL Q G cells slots (pc + 1) L (.long (gJ G a i.toNatClampNeg) :: st)) : V X D nL Q G cells slots pc L (.int i :: .ref a :: st) := by
  intro ls H locs hl hH hS
  have hlt : i.toNatClampNeg < gN G a := Nat.not_le.mp fun q => hin (Or.inr q)
  exact W.lald (v := .long (gJ G a i.toNatClampNeg)) F.1 F.2.1 (arr_at hH 1 _ hk rfl) ((F.2.2.2.2.2.1.1.2 1 _ rfl).1 _ _) (fun q => by cases q) (by show ¬ (i < 0 ∨ (arrV _ _ _).slots.size ≤ _); rw [arrV_size]; exact hin) (by show (arrV _ _ _).slots[_]? = _; rw [arrV_read _ _ hlt]; rfl) rfl rfl hd (kk ls H locs hl hH hS)
theorem v_zald (F : Fx X D cc nL own ret nm) {a : Nat} {i : Int32} (hk : gK G a = 22) (hin : vp_in i (gN G a)) (hd : decode cc pc = .ok (.baload, 1)) (kk : V X D nL Q G cells slots (pc + 1) L (.int (gI G a i.toNatClampNeg) :: st)) : V X D nL Q G cells slots pc L (.int i :: .ref a :: st) := by
  intro ls H locs hl hH hS
  have hlt : i.toNatClampNeg < gN G a := Nat.not_le.mp fun q => hin (Or.inr q)
  exact W.zald (v := .int (gI G a i.toNatClampNeg)) F.1 F.2.1 (arr_at hH 2 _ hk rfl) ((F.2.2.2.2.2.1.1.2 2 _ rfl).1 _ _) (fun q => by cases q) (by show ¬ (i < 0 ∨ (arrV _ _ _).slots.size ≤ _); rw [arrV_size]; exact hin) (by show (arrV _ _ _).slots[_]? = _; rw [arrV_read _ _ hlt]; rfl) rfl rfl hd (kk ls H locs hl hH hS)
theorem v_aald (F : Fx X D cc nL own ret nm) {a t : Nat} {C : String} {cA : ClassId} {i : Int32} (hq : (tysD D)[t]? = some (cA, .object C)) (hk : gK G a = t + 20) (hin : vp_in i (gN G a)) (hd : decode cc pc = .ok (.aaload, 1)) (kk : V X D nL Q G cells slots (pc + 1) L (va_rf (gR G a i.toNatClampNeg) :: st)) : V X D nL Q G cells slots pc L (.int i :: .ref a :: st) := by
  intro ls H locs hl hH hS
  have hlt : i.toNatClampNeg < gN G a := Nat.not_le.mp fun q => hin (Or.inr q)
  exact W.aald (v := va_rf (gR G a i.toNatClampNeg)) (ty := .object C) F.1 F.2.1 (arr_at hH t _ hk hq) ((F.2.2.2.2.2.1.1.2 t _ hq).1 _ _) rfl (fun q => by cases q) (by show ¬ (i < 0 ∨ (arrV _ _ _).slots.size ≤ _); rw [arrV_size]; exact hin) (by show (arrV _ _ _).slots[_]? = _; rw [arrV_read _ _ hlt]; rfl) rfl rfl hd (kk ls H locs hl hH hS)
theorem ab_of {H : Heap} (hH : Hd D G H) {a k : Nat} (hk : gK G a = k + 20) : Ab D a := (hH.2.1 a (by rw [hk]; exact Nat.succ_ne_zero _)).1
theorem v_iast (F : Fx X D cc nL own ret nm) {a : Nat} {i x : Int32} (hk : gK G a = 20) (hin : vp_in i (gN G a)) (hd : decode cc pc = .ok (.iastore, 1)) (kk : V X D nL Q (uI G a i.toNatClampNeg x) cells slots (pc + 1) L st) : V X D nL Q G cells slots pc L (.int x :: .int i :: .ref a :: st) := by
  intro ls H locs hl hH hS
  refine W.iast F.1 F.2.1 (arr_at hH 0 _ hk rfl) ((F.2.2.2.2.2.1.1.2 0 _ rfl).1 _ _) (fun q => by cases q) (by show ¬ (i < 0 ∨ (arrV _ _ _).slots.size ≤ _); rw [arrV_size]; exact hin) rfl rfl hd fun H1 e z oq => ?_
  exact kk ls H1 _ hl (arr_put hH 0 _ hk rfl e z oq rfl rfl rfl (fun b hb => same_uI hb) (by simp [fv, uI, gI, u2]) (fun j hj => fv_uI _ hj)) (hS.put z oq (ab_of hH hk))
theorem v_last (F : Fx X D cc nL own ret nm) {a : Nat} {i : Int32} {x : Int64} (hk : gK G a = 21) (hin : vp_in i (gN G a)) (hd : decode cc pc = .ok (.lastore, 1)) (kk : V X D nL Q (uJ G a i.toNatClampNeg x) cells slots (pc + 1) L st) : V X D nL Q G cells slots pc L (.long x :: .int i :: .ref a :: st) := by
  intro ls H locs hl hH hS
  refine W.last F.1 F.2.1 (arr_at hH 1 _ hk rfl) ((F.2.2.2.2.2.1.1.2 1 _ rfl).1 _ _) (fun q => by cases q) (by show ¬ (i < 0 ∨ (arrV _ _ _).slots.size ≤ _); rw [arrV_size]; exact hin) rfl rfl hd fun H1 e z oq => ?_
  exact kk ls H1 _ hl (arr_put hH 1 _ hk rfl e z oq rfl rfl rfl (fun b hb => same_uJ hb) (by simp [fv, uJ, gJ, u2]) (fun j hj => fv_uJ _ hj)) (hS.put z oq (ab_of hH hk))
theorem v_zast (F : Fx X D cc nL own ret nm) {a : Nat} {i x : Int32} (hB : isB x) (hk : gK G a = 22) (hin : vp_in i (gN G a)) (hd : decode cc pc = .ok (.bastore, 1)) (kk : V X D nL Q (uI G a i.toNatClampNeg x) cells slots (pc + 1) L st) : V X D nL Q G cells slots pc L (.int x :: .int i :: .ref a :: st) := by
  intro ls H locs hl hH hS
  refine W.zast F.1 F.2.1 (arr_at hH 2 _ hk rfl) ((F.2.2.2.2.2.1.1.2 2 _ rfl).1 _ _) (fun q => by cases q) (by show ¬ (i < 0 ∨ (arrV _ _ _).slots.size ≤ _); rw [arrV_size]; exact hin) rfl rfl hd fun H1 e z oq => ?_
  rw [isB_nar hB] at e
  exact kk ls H1 _ hl (arr_put hH 2 _ hk rfl e z oq rfl rfl rfl (fun b hb => same_uI hb) (by simp [fv, uI, gI, u2]) (fun j hj => fv_uI _ hj)) (hS.put z oq (ab_of hH hk))
theorem v_aast (F : Fx X D cc nL own ret nm) {a t v ci : Nat} {r : vw_C} {cA : ClassId} {i : Int32} (hq : (tysD D)[t]? = some (cA, .object r.1)) (hr : vwCl[ci]? = some r) (hk : gK G a = t + 20) (hkv : gK G v = ci + 1) (hin : vp_in i (gN G a)) (hd : decode cc pc = .ok (.aastore, 1)) (kk : V X D nL Q (uR G a i.toNatClampNeg (some v)) cells slots (pc + 1) L st) : V X D nL Q G cells slots pc L (.ref v :: .int i :: .ref a :: st) := by
  intro ls H locs hl hH hS
  obtain ⟨hx, hb, hml, hown, hts, hK, -⟩ := F
  have hlt : i.toNatClampNeg < gN G a := Nat.not_le.mp fun q => hin (Or.inr q)
  have h0 : ¬ i < 0 := fun q => hin (Or.inl q)
  obtain ⟨cellV, g1, g2, g3, -⟩ := (hH.2.2 v).1 ci r hkv hr
  have hcls := (hK.1.1 ci r hr).2
  obtain ⟨kA, comp, k1, k2, k3, -⟩ := (hK.1.2 t _ hq).2
  have hcomp : comp = dC D ci := Option.some.inj (k3.symm.trans hcls.1)
  subst hcomp
  obtain ⟨kC, hkC, -⟩ := hcls.2
  refine W.aast hx hb (arr_at hH t _ hk hq) (fun q h => by cases h) (fun h => by cases h) k1 k2 rfl hkC ⟨h0, by show _ < (arrV _ _ _).slots.size; rw [arrV_size]; exact hlt⟩ g1 (fun q h => by rw [g3] at h; cases h) (by rw [g2]; exact hkC) (by rw [g2]; exact va_assign hcls) rfl rfl hd fun H1 e z oq => ?_
  exact kk ls H1 _ hl (arr_put hH t _ hk hq e z oq rfl rfl rfl (fun b hb => same_uR hb) (by simp [fv, uR, gR, u2, va_rf]) (fun j hj => fv_uR _ hj)) (hS.put z oq (ab_of hH hk))
theorem v_aastN (F : Fx X D cc nL own ret nm) {a t : Nat} {C : String} {cA : ClassId} {i : Int32} (hq : (tysD D)[t]? = some (cA, .object C)) (hk : gK G a = t + 20) (hin : vp_in i (gN G a)) (hd : decode cc pc = .ok (.aastore, 1)) (kk : V X D nL Q (uR G a i.toNatClampNeg none) cells slots (pc + 1) L st) : V X D nL Q G cells slots pc L (va_rf none :: .int i :: .ref a :: st) := by
  intro ls H locs hl hH hS
  refine va_WaastN (C := C) F.1 F.2.1 (arr_at hH t _ hk hq) ((F.2.2.2.2.2.1.1.2 t _ hq).1 _ _) (fun h => by cases h) (by show ¬ (i < 0 ∨ (arrV _ _ _).slots.size ≤ _); rw [arrV_size]; exact hin) rfl rfl hd fun H1 e z oq => ?_
  exact kk ls H1 _ hl (arr_put hH t _ hk hq e z oq rfl rfl rfl (fun b hb => same_uR hb) (by simp [fv, uR, gR, u2, va_rf]) (fun j hj => fv_uR _ hj)) (hS.put z oq (ab_of hH hk))
theorem v_alen (F : Fx X D cc nL own ret nm) {a : Nat} (hk : gK G a = 20) (hd : decode cc pc = .ok (.arraylength, 1)) (kk : V X D nL Q G cells slots (pc + 1) L (.int (nI (gN G a)) :: st)) : V X D nL Q G cells slots pc L (.ref a :: st) := by
  intro ls H locs hl hH hS
  exact W.alen (n := nI (gN G a)) F.1 F.2.1 (arr_at hH 0 _ hk rfl) ((F.2.2.2.2.2.1.1.2 0 _ rfl).1 _ _) (by rw [arrV_size]; rfl) rfl rfl hd (kk ls H locs hl hH hS)
/-! the one static: the kinds' wider kinds -/
def wider (j : Nat) : Int32 := match j with | 3 => 1 | 4 => 2 | _ => 0
theorem v_gets (F : Fx X D cc nL own ret nm) {idx : Nat} (hw : Cond.fieldLink own idx RX5 "WIDER" "[I" ∈ tG) (hd : decode cc pc = .ok (.getstatic idx, 3)) (kk : V X D nL Q G cells slots (pc + 3) L (.ref (dW D) :: st)) : V X D nL Q G cells slots pc L st := by
  intro ls H locs hl hH hS
  exact va_gets F.1 F.2.1 F.2.2.2.2.2.1.2.2.2.2.1 hS F.2.2.2.1 (F.2.2.2.2.1 _ hw) (fun _ h => h) hd (kk ls H locs hl hH hS)
theorem v_wald (F : Fx X D cc nL own ret nm) {i : Int32} (hin : vp_in i 5) (hd : decode cc pc = .ok (.iaload, 1)) (kk : V X D nL Q G cells slots (pc + 1) L (.int (wider i.toNatClampNeg) :: st)) : V X D nL Q G cells slots pc L (.int i :: .ref (dW D) :: st) := by
  intro ls H locs hl hH hS
  have hlt : i.toNatClampNeg < 5 := Nat.not_le.mp fun q => hin (Or.inr q)
  obtain ⟨cell, h1, h2, h3, h4, h5, h6, h7⟩ := F.2.2.2.2.2.1.2.2.2.2.2.1
  refine W.iald (v := .int (wider i.toNatClampNeg)) F.1 F.2.1 (by rw [hS.2.1 (dW D) (Array.getElem?_eq_some_iff.mp h1).1 h7]; exact h1) h2 h3 (fun q => q.elim (fun q => hin (Or.inl q)) (fun q => by omega)) (h6 _ hlt) rfl rfl hd (kk ls H locs hl hH hS)
/-! new -/
theorem v_new (F : Fx X D cc nL own ret nm) {idx ci n : Nat} {r : vw_C} (hr : vwCl[ci]? = some r) (hN : r.2.2 = n) (hw1 : Cond.classLink own idx r.1 ∈ tG) (hw2 : Cond.instantiable r.1 n ∈ tG) (hw3 : Cond.initialized r.1 ∈ tG) (hc : cells + 1 ≤ X.2.2.2.1.cells) (hs : slots + n ≤ X.2.2.2.1.slots) (hd : decode cc pc = .ok (.new idx, 3)) (kk : V X D nL Q (nC G (ci + 1) 0) (cells + 1) (slots + n) (pc + 3) L (.ref (gZ G) :: st)) : V X D nL Q G cells slots pc L st := by
  intro ls H locs hl hH hS
  obtain ⟨hx, hb, hml, hown, hts, hK, -⟩ := F
  obtain ⟨cin, cty, cnm, cdf⟩ := cls_ok ci r hr
  have hKn := hK.1.1 ci r hr
  have hbz : dB D ≤ gZ G := by rw [← hH.1]; exact Nat.le_trans hK.2.2.2.2.2.2 hS.1
  subst hN
  refine W.newcK hx hb hown (hts _ hw1) (hts _ hw2) (hts _ hw3) rfl hd hc hs hKn.2.1 hH.1 fun H1 kC hkC e1 z1 o1 => ?_
  refine kk ls H1 locs hl (hH.new hbz (by rw [z1, hH.1]) (fun q hq => o1 q (by rw [← hH.1]; exact hq)) ⟨fun ci' r' h1 h2 => ?_, fun t q h1 h2 => ?_⟩) ⟨Nat.le_trans hS.1 (by rw [z1, hH.1]; exact Nat.le_succ _), fun x h1 h2 => (o1 x (by rw [← hH.1]; exact Nat.lt_of_lt_of_le h1 hS.1)).trans (hS.2.1 x h1 h2), hS.2.2⟩
  · have e : ci' = ci := by simp [nC, gK, va_up] at h1; exact h1.symm
    subst e
    cases hr.symm.trans h2
    refine (u_born (tyOf ci') hts cin hKn hkC e1 cty).to (fun j hj => ?_)
    rw [cdf j hj]
    cases tyOf ci' j <;> simp [fv, nC, gI, gJ, gR, gZ, z2]
  · have := cls_lt hr
    simp [nC, gK, va_up] at h1
    omega
theorem v_newa (F : Fx X D cc nL own ret nm) {atype : ArrayType} {t N : Nat} {cA : ClassId} {n : Int32} (hq : (tysD D)[t]? = some (cA, newarray.typeOf atype)) (hdf : ∀ a j : Nat, defaultValue (newarray.typeOf atype) = fv (newarray.typeOf atype) (nC G (t + 20) N) (gZ G) j) (hnm : s_arrName (newarray.typeOf atype)) (hw : Cond.arrayClass (newarray.typeOf atype) ∈ tG) (hn : ¬ n < 0) (hN : n.toNatClampNeg = N) (hby : N * componentBytes (newarray.typeOf atype) ≤ 536870912) (hc : cells + 1 ≤ X.2.2.2.1.cells) (hs : slots + N ≤ X.2.2.2.1.slots) (hd : decode cc pc = .ok (.newarray atype, 2)) (kk : V X D nL Q (nC G (t + 20) N) (cells + 1) (slots + N) (pc + 2) L (.ref (gZ G) :: st)) : V X D nL Q G cells slots pc L (.int n :: st) := by
  intro ls H locs hl hH hS
  obtain ⟨hx, hb, hml, hown, hts, hK, -⟩ := F
  have hbz : dB D ≤ gZ G := by rw [← hH.1]; exact Nat.le_trans hK.2.2.2.2.2.2 hS.1
  refine va_newaK hx hb (hts _ hw) rfl hd rfl hn hN hby hc hs hH.1 fun H1 cA' e1 z1 o1 hAr hNm => ?_
  have hcA : cA' = cA := by
    have h2 := (hK.1.2 t _ hq).2
    have h3 : X.2.2.2.2.1.vm.findClass ("[" ++ (newarray.typeOf atype).toString) = some cA := hnm _ _ h2
    exact Option.some.inj (hNm.symm.trans h3)
  subst hcA
  refine kk ls H1 locs hl (hH.new hbz (by rw [z1, hH.1]) (fun q hq => o1 q (by rw [← hH.1]; exact hq)) ⟨fun ci' r' h1 h2 => ?_, fun t' q h1 h2 => ?_⟩) ⟨Nat.le_trans hS.1 (by rw [z1, hH.1]; exact Nat.le_succ _), fun x h1 h2 => (o1 x (by rw [← hH.1]; exact Nat.lt_of_lt_of_le h1 hS.1)).trans (hS.2.1 x h1 h2), hS.2.2⟩
  · have := cls_lt h2
    simp [nC, gK, va_up] at h1
    omega
  · have e : t' = t := by simp [nC, gK, va_up] at h1; exact h1.symm
    subst e
    cases hq.symm.trans h2
    rw [e1]
    congr 2
    · simp [nC, gN, va_up]
    · funext j
      exact hdf 0 j
theorem v_anew (F : Fx X D cc nL own ret nm) {C : String} {t N idx : Nat} {cA : ClassId} {n : Int32} (hq : (tysD D)[t]? = some (cA, .object C)) (hC : C ∈ aoW) (hw : Cond.classLink own idx C ∈ tG) (hn : ¬ n < 0) (hN : n.toNatClampNeg = N) (hby : N * 4 ≤ 536870912) (hc : cells + 1 ≤ X.2.2.2.1.cells) (hs : slots + N ≤ X.2.2.2.1.slots) (hd : decode cc pc = .ok (.anewarray idx, 3)) (kk : V X D nL Q (nC G (t + 20) N) (cells + 1) (slots + N) (pc + 3) L (.ref (gZ G) :: st)) : V X D nL Q G cells slots pc L (.int n :: st) := by
  intro ls H locs hl hH hS
  obtain ⟨hx, hb, hml, hown, hts, hK, -⟩ := F
  have hbz : dB D ≤ gZ G := by rw [← hH.1]; exact Nat.le_trans hK.2.2.2.2.2.2 hS.1
  subst hN
  refine W.anew hx hb hown (hts _ hw) (va_AO.use (hK.2.2.2.1 C hC)) rfl hd rfl hn hby hc hs fun cA' kA comp f1 f2 f3 f4 => ?_
  have hcA : cA' = cA := by
    obtain ⟨_, _, _, _, _, h3⟩ := (hK.1.2 t _ hq).2
    exact Option.some.inj (f1.symm.trans h3)
  subst hcA
  generalize hH1 : H.push ({ cls := cA', slots := Array.replicate n.toNatClampNeg .null, vm := .none } : Cell) = H1
  have z1 : H1.size = H.size + 1 := by rw [← hH1, Array.size_push]
  have e1 : H1[H.size]? = some (arrV cA' n.toNatClampNeg (fun _ => .null)) := by rw [← hH1, Array.getElem?_push_size, ← arrV_new]
  have o1 : ∀ q, q < H.size → H1[q]? = H[q]? := fun q hq => by rw [← hH1, Array.getElem?_push, if_neg (Nat.ne_of_lt hq)]
  have key := kk ls H1 locs hl (hH.new hbz (by rw [z1]) o1 ⟨fun ci' r' h1 h2 => by
      have := cls_lt h2
      simp [nC, gK, va_up] at h1
      omega, fun t' q h1 h2 => by
      have e : t' = t := by simp [nC, gK, va_up] at h1; exact h1.symm
      subst e
      cases hq.symm.trans h2
      rw [← hH.1, e1]
      congr 2
      · simp [nC, gN, va_up, hH.1]
      · funext j
        simp [fv, nC, gR, gZ, z2, va_rf, hH.1]⟩) ⟨Nat.le_trans hS.1 (by rw [z1]; exact Nat.le_succ _), fun x h1 h2 => (o1 x (Nat.lt_of_lt_of_le h1 hS.1)).trans (hS.2.1 x h1 h2), hS.2.2⟩
  rw [← hH.1] at key
  exact key
theorem v_objInit (F : Fx X D cc nL own ret nm) {idx a : Nat} (hw1 : Cond.methodLink own idx objectInit ∈ tG) (hw2 : Cond.instanceMethod objectInit ∈ tG) (hw3 : Cond.code objectInit ⟨#[0xb1]⟩ 1 none ∈ tG) (hR : 1 ≤ X.2.2.2.1.frames) (hR2 : (st.map fun v => v.category).sum + 12 ≤ X.2.2.2.1.locals) (hd : decode cc pc = .ok (.invokespecial idx, 3)) (kk : V X D nL Q G cells slots (pc + 3) L st) : V X D nL Q G cells slots pc L (.ref a :: st) := by
  intro ls H locs hl hH hS
  refine W.objInit F.1 F.2.1 F.2.2.2.1 (F.2.2.2.2.1 _ hw1) (F.2.2.2.2.1 _ hw2) (F.2.2.2.2.1 _ hw3) rfl (by rw [F.2.2.1]; exact hl.1) rfl hd hR ?_ (kk ls H locs hl hH hS)
  simpa using hR2
end RH
