theorem cls_inst : ∀ (ci : Nat) (r : vw_C), vwCl[ci]? = some r → Cond.instantiable r.1 r.2.2 ∈ lw_tbl
  | 0, r, h => by
    have e : r = (RX0, TX0, 1) := (Option.some.inj (show some (RX0, TX0, 1) = some r from h)).symm
    subst e
    exact (List.mem_of_getElem? (i := 185) (by decide +kernel))
  | 1, r, h => by
    have e : r = (RX1, TX1, 3) := (Option.some.inj (show some (RX1, TX1, 3) = some r from h)).symm
    subst e
    exact (List.mem_of_getElem? (i := 269) (by decide +kernel))
  | 2, r, h => by
    have e : r = (RX2, TX2, 3) := (Option.some.inj (show some (RX2, TX2, 3) = some r from h)).symm
    subst e
    exact (List.mem_of_getElem? (i := 103) (by decide +kernel))
  | 3, r, h => by
    have e : r = (RX4, TX4, 7) := (Option.some.inj (show some (RX4, TX4, 7) = some r from h)).symm
    subst e
    exact (List.mem_of_getElem? (i := 235) (by decide +kernel))
  | 4, r, h => by
    have e : r = (RX5, TX5, 14) := (Option.some.inj (show some (RX5, TX5, 14) = some r from h)).symm
    subst e
    exact (List.mem_of_getElem? (i := 363) (by decide +kernel))
  | 5, r, h => by
    have e : r = (RX6, TX6, 6) := (Option.some.inj (show some (RX6, TX6, 6) = some r from h)).symm
    subst e
    exact (List.mem_of_getElem? (i := 747) (by decide +kernel))
  | 6, r, h => by
    have e : r = (RX7, TX7, 2) := (Option.some.inj (show some (RX7, TX7, 2) = some r from h)).symm
    subst e
    exact (List.mem_of_getElem? (i := 199) (by decide +kernel))
  | 7, r, h => by
    have e : r = (RX8, TX8, 3) := (Option.some.inj (show some (RX8, TX8, 3) = some r from h)).symm
    subst e
    exact (List.mem_of_getElem? (i := 214) (by decide +kernel))
  | 8, r, h => by
    have e : r = (RX9, TX9, 11) := (Option.some.inj (show some (RX9, TX9, 11) = some r from h)).symm
    subst e
    exact (List.mem_of_getElem? (i := 95) (by decide +kernel))
  | 9, r, h => by
    have e : r = (RX10, TX10, 14) := (Option.some.inj (show some (RX10, TX10, 14) = some r from h)).symm
    subst e
    exact (List.mem_of_getElem? (i := 81) (by decide +kernel))
  | 10, r, h => by
    have e : r = (RX11, TX11, 46) := (Option.some.inj (show some (RX11, TX11, 46) = some r from h)).symm
    subst e
    exact (List.mem_of_getElem? (i := 868) (by decide +kernel))
  | n + 11, r, h => by
    have := (List.getElem?_eq_some_iff.mp h).1
    exact absurd (show n + 11 < 11 from this) (by omega)
theorem nest_in : ∀ q ∈ nestM, Cond.methodLinkNest q.1 q.2.1 q.2.2.1 q.2.2.2 ∈ lw_tbl := by
  intro q hq
  simp only [nestM, List.mem_cons, List.not_mem_nil, or_false] at hq
  rcases hq with hq | hq | hq | hq | hq | hq | hq | hq | hq | hq | hq | hq | hq <;> subst hq
  · exact (List.mem_of_getElem? (i := 104) (by decide +kernel))
  · exact (List.mem_of_getElem? (i := 186) (by decide +kernel))
  · exact (List.mem_of_getElem? (i := 189) (by decide +kernel))
  · exact (List.mem_of_getElem? (i := 200) (by decide +kernel))
  · exact (List.mem_of_getElem? (i := 203) (by decide +kernel))
  · exact (List.mem_of_getElem? (i := 215) (by decide +kernel))
  · exact (List.mem_of_getElem? (i := 218) (by decide +kernel))
  · exact (List.mem_of_getElem? (i := 220) (by decide +kernel))
  · exact (List.mem_of_getElem? (i := 236) (by decide +kernel))
  · exact (List.mem_of_getElem? (i := 239) (by decide +kernel))
  · exact (List.mem_of_getElem? (i := 268) (by decide +kernel))
  · exact (List.mem_of_getElem? (i := 369) (by decide +kernel))
  · exact (List.mem_of_getElem? (i := 753) (by decide +kernel))
theorem ao_in : ∀ C ∈ aoW, Cond.arrayOver (.object C) ∈ lw_tbl := by
  intro C hC
  simp only [aoW, List.mem_cons, List.not_mem_nil, or_false] at hC
  rcases hC with hC | hC | hC | hC <;> subst hC
  · exact (List.mem_of_getElem? (i := 91) (by decide +kernel))
  · exact (List.mem_of_getElem? (i := 102) (by decide +kernel))
  · exact (List.mem_of_getElem? (i := 89) (by decide +kernel))
  · exact (List.mem_of_getElem? (i := 93) (by decide +kernel))
def G00 (z : Nat) : Wd := (z, fun _ => 0, fun _ => 0, fun _ _ => 0, fun _ _ => 0, fun _ _ => none)
theorem arr_num {s : State} {a : Array Value} {ty : FieldType} (hp : ∀ C, ty ≠ .object C) (h : (Cond.arrayClass ty).before a s = true) : ∃ cA : ClassId, ArrOfT s cA ty ∧ va_RA s cA ty := by
  obtain ⟨c, k, comp, h1, h2, h3⟩ := Cond.arrayClass_spec h
  refine ⟨c, fun n z => ⟨fun k h => (by cases h), k, h2, comp, h3⟩, ?_⟩
  cases ty with
  | object C => exact absurd rfl (hp C)
  | _ => exact h1
theorem arr_obj {s : State} {a : Array Value} {C : String} (h : (Cond.arrayOver (.object C)).before a s = true) : ∃ cA : ClassId, ArrOfT s cA (.object C) ∧ va_RA s cA (.object C) := by
  obtain ⟨comp, c, k, h1, h2, h3, h4, h5⟩ := Cond.arrayOver_spec h
  exact ⟨c, fun n z => ⟨fun k h => (by cases h), k, h3, comp, h4⟩, k, comp, h3, h4, h1, h5⟩
theorem wider_start {s : State} {b : Nat} {A : Nat → Prop} (hA : ∀ a : Nat, a < s.heap.size → ¬ A a) (hts : ∀ w ∈ lw_tbl, w.before #[Value.ref b] s = true) (hgv : (Jvm.Cond.and given_1 narrow_1).before #[Value.ref b] s = true) : ∃ t : Nat, va_Z RX5 "WIDER" "[I" (.ref t) A s s.heap ∧ va_T .int t 5 widerV A s s.heap := by
  have hs := flat_of_before _ hgv
  have h0 : (Cond.arrayOf (.static "OldReckoner$Likeness" "WIDER" "[I") .int).before #[Value.ref b] s = true := hs _ (by decide +kernel)
  have h1 : (Cond.eq (.length (.static "OldReckoner$Likeness" "WIDER" "[I")) (.int 5)).before #[Value.ref b] s = true := hs _ (by decide +kernel)
  have e0 : (Cond.eq (.elem (.static "OldReckoner$Likeness" "WIDER" "[I") (.int 0)) (.int 0)).before #[Value.ref b] s = true := hs _ (by decide +kernel)
  have e1 : (Cond.eq (.elem (.static "OldReckoner$Likeness" "WIDER" "[I") (.int 1)) (.int 0)).before #[Value.ref b] s = true := hs _ (by decide +kernel)
  have e2 : (Cond.eq (.elem (.static "OldReckoner$Likeness" "WIDER" "[I") (.int 2)) (.int 0)).before #[Value.ref b] s = true := hs _ (by decide +kernel)
  have e3 : (Cond.eq (.elem (.static "OldReckoner$Likeness" "WIDER" "[I") (.int 3)) (.int 1)).before #[Value.ref b] s = true := hs _ (by decide +kernel)
  have e4 : (Cond.eq (.elem (.static "OldReckoner$Likeness" "WIDER" "[I") (.int 4)) (.int 2)).before #[Value.ref b] s = true := hs _ (by decide +kernel)
  obtain ⟨t, ht, hT⟩ := va_Tof (N := 5) (f := widerV) (A := A) (by decide) h0 (va_eqt h1) (fun j hj => by
    match j, hj with
    | 0, _ => exact va_eqt e0
    | 1, _ => exact va_eqt e1
    | 2, _ => exact va_eqt e2
    | 3, _ => exact va_eqt e3
    | 4, _ => exact va_eqt e4
    | n + 5, hj => exact absurd hj (by omega)) hA
  exact ⟨t, va_Zof (hts _ (List.mem_of_getElem? (i := 379) (by decide +kernel))) (hts _ (List.mem_of_getElem? (i := 75) (by decide +kernel))) ht hA, hT⟩
theorem kw_start {s : State} {b : Nat} (hts : ∀ w ∈ lw_tbl, w.before #[Value.ref b] s = true) (hgv : (Jvm.Cond.and given_1 narrow_1).before #[Value.ref b] s = true) : ∃ D : Dx, dB D = s.heap.size ∧ Kw D s := by
  have htG : ∀ w ∈ tG, w.before #[Value.ref b] s = true := fun w h => hts w (tG_in w h)
  have hc : ∀ ci : Nat, ∃ q : ClassId × (Nat → Nat), ∀ r : vw_C, vwCl[ci]? = some r → u_Kn s r.1 r.2.1 r.2.2 q.1 q.2 := by
    intro ci
    cases hr : vwCl[ci]? with
    | none => exact ⟨(0, fun _ => 0), fun r h => by cases h⟩
    | some r =>
      obtain ⟨cC, iS, h⟩ := u_known htG (cls_ok ci r hr).1 (hts _ (cls_inst ci r hr))
      exact ⟨(cC, iS), fun r' h' => by cases h'; exact h⟩
  obtain ⟨c0, h0⟩ := arr_num (ty := .int) (fun _ h => by cases h) (hts _ (List.mem_of_getElem? (i := 125) (by decide +kernel)))
  obtain ⟨c1, h1⟩ := arr_num (ty := .long) (fun _ h => by cases h) (hts _ (List.mem_of_getElem? (i := 1012) (by decide +kernel)))
  obtain ⟨c2, h2⟩ := arr_num (ty := .boolean) (fun _ h => by cases h) (hts _ (List.mem_of_getElem? (i := 266) (by decide +kernel)))
  obtain ⟨c3, h3⟩ := arr_obj (hts _ (ao_in RX1 (by decide +kernel)))
  obtain ⟨c4, h4⟩ := arr_obj (hts _ (ao_in RX2 (by decide +kernel)))
  obtain ⟨c5, h5⟩ := arr_obj (hts _ (ao_in RX5 (by decide +kernel)))
  obtain ⟨c6, h6⟩ := arr_obj (hts _ (ao_in RX6 (by decide +kernel)))
  obtain ⟨t, hZ, hT⟩ := wider_start (A := fun q => s.heap.size ≤ q) (fun a ha h => by omega) hts hgv
  refine ⟨(fun ci => (Classical.choose (hc ci)).1, fun ci => (Classical.choose (hc ci)).2, fun t => match t with | 0 => c0 | 1 => c1 | 2 => c2 | 3 => c3 | 4 => c4 | 5 => c5 | _ => c6, s.heap.size, t), rfl, ⟨fun ci r hr => Classical.choose_spec (hc ci) r hr, fun k q hk => ?_⟩, fun q hq => va_Nw.of rfl (hts _ (nest_in q hq)), va_Nw.of rfl (hts _ (List.mem_of_getElem? (i := 532) (by decide +kernel))), fun C hC => va_AO.of (hts _ (ao_in C hC)), hZ, hT, Nat.le_refl _⟩
  match k, hk with
  | 0, hk => cases hk; exact h0
  | 1, hk => cases hk; exact h1
  | 2, hk => cases hk; exact h2
  | 3, hk => cases hk; exact h3
  | 4, hk => cases hk; exact h4
  | 5, hk => cases hk; exact h5
  | 6, hk => cases hk; exact h6
  | n + 7, hk => exact absurd (tys_lt hk) (by omega)
/-- the law's walk out of the pure statement -/
theorem law_start (pure : ∀ (N : Nat) (xs : Nat → Int32) (z : Nat), N ≤ 320 → wpL_law N xs (G00 z)) {p : Program} {e : Env} {s : State} {m : MethodId} {below : List Frame} {meth : Method} {c : Code} (l : Launch) {b L : Nat} {xs : Nat → Int32} (hL : L ≤ 320) (C0 : lw_At p s m meth c b L xs) : W p l e room_1 s m #[Value.ref b] below meth c s.heap [] 0 0 (lw_Z below #[Value.ref b] s) (entryFrame m ([Value.ref b] : List Value).toArray 4) := by
  obtain ⟨hx, hb, hr, hml, hown, hts, hX, hbl, hlocks, hgv⟩ := C0
  obtain ⟨D, hB, hK⟩ := kw_start hts hgv
  have F : Fx (p, l, e, room_1, s, m, #[Value.ref b], below, meth, c) D cL_law 4 RL ret meth.name := ⟨hx, hb, hml, hown, fun w h => hts w (tG_in w h), hK, hr, hlocks, rfl⟩
  have hH : Hd D (G00 s.heap.size) s.heap := ⟨rfl, fun a h => absurd rfl h, fun a => ⟨fun ci r h _ => absurd (show (0 : Nat) = ci + 1 from h) (by omega), fun t q h _ => absurd (show (0 : Nat) = t + 20 from h) (by omega)⟩⟩
  rw [lg_entry_eq]
  exact sL_law F hB hX hbl (pure L xs s.heap.size hL) _ s.heap [] (lv_entry [Value.ref b] (Nat.le_of_ble_eq_true rfl)) hH va_S.rf
