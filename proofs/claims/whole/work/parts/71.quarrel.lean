/-! ===== quarrel ===== -/
theorem X4_begin {z : Nat} {G : Wd} {S : St} {la lb : Nat → Nat} {Q : Wd → Prop} (h : CR z G S la lb) (hQ : ∀ G', chg (fun b => b = z + 38 ∨ b = z + 41) (fun _ => False) G G' → gI G' (z + 38) 1 = 0 → gI G' (z + 38) 2 = 0 → gI G' (z + 38) 4 = 0 → (∀ k, k < 24 → gI G' (z + 41) k = 0) → Q G') : wpX4_begin (z + 38) G Q := by
  unfold wpX4_begin
  refine ⟨h.1.K 38 (by omega), fun G1 e1 G2 e2 G3 e3 => ?_⟩
  have f3 : chg (fun b => b = z + 38 ∨ b = z + 41) (fun _ => False) G G3 := by rw [e3, e2, e1]; exact ((chg.rf.wI _ _ _ (Or.inl rfl)).wI _ _ _ (Or.inl rfl)).wI _ _ _ (Or.inl rfl)
  have h3 := h.dst (f3.mono (fun b q => by omega) (fun _ q => q))
  refine ⟨z + 41, h3.1.R 38 5 41 (by decide), J7_fill (h3.1.K 41 (by omega)) (h3.1.N 41 (by omega)) (by show 24 < 1000000; omega) (fun G4 f4 e4 => ?_)⟩
  refine hQ G4 (f3.tr (f4.mono (fun b q => Or.inr q) (fun _ q => q))) ?_ ?_ ?_ e4
  · rw [f4.I (by omega), e3, gI_uI, if_neg (by omega), e2, gI_uI, if_neg (by omega), e1, gI_uI, if_pos ⟨rfl, rfl⟩]
  · rw [f4.I (by omega), e3, gI_uI, if_neg (by omega), e2, gI_uI, if_pos ⟨rfl, rfl⟩]
  · rw [f4.I (by omega), e3, gI_uI, if_pos ⟨rfl, rfl⟩]
abbrev opq (S : St) (v : Int32) : List Nat := opl S (v / 10000) (v % 10000) (sM S)
abbrev boQ (ch : Bool) (S : St) (v : Int32) : Nat → Nat := boC (cho ch S (v / 10000) (v % 10000))
abbrev jfin (ch : Bool) (S : St) (v : Int32) : Jst := run (jstep S (boQ ch S v)) jstop jst0 (rgs S (opq S v))
def oQuarrel (S : St) (v i : Int32) : Int64 := if rng v 0 79999 ∧ 0 ≤ i then (if (jfin false S v).1 then -9000000000000000004 else (match (jfin false S v).2.1 with | none => -9000000000000000005 | some r => if nv i < r.length then lN (r.getD (nv i) 0) else -9000000000000000005)) else -9000000000000000001
theorem C_quarrel {z : Nat} {G : Wd} {S T : St} {v i : Int32} {Q : Int64 → Wd → Prop} (h : mid z G S T) (hi : Inv S) (hQ : ∀ G', mid z G' S T → Q (oQuarrel S v i) G') : wpX10_quarrel z v i G Q := by
  unfold oQuarrel at hQ
  have hb : ¬ (rng v 0 79999 ∧ 0 ≤ i) → Q (-9000000000000000001) G := fun n => by have := hQ G h; rw [if_neg n] at this; exact this
  obtain ⟨⟨la, lb, hc⟩, hm⟩ := h
  unfold wpX10_quarrel
  refine X10_isPlaceAndDay (fun b => ifN (fun e => n10 e) (ifE (fun ci => ⟨hc.K, ?_⟩) (fun ci => hb (fun c => ci c.2)))) (fun b => ifP rfl (hb (fun c => b c.1)))
  rw [if_pos ⟨b, ci⟩] at hQ
  obtain ⟨hl, h24⟩ := opl_ok hi (v / 10000) (v % 10000)
  have i0' : 0 ≤ i.toInt := by rw [i_le, il0] at ci; exact ci
  have ir := i_rng i
  have iv := nv_i i0'
  refine X10_gather hc hi b (fun G1 f1 c1 o1 => ⟨c1.K, z + 38, c1.1.R 0 10 38 (by decide), c1.1.K 38 (by omega), ?_⟩)
  refine X4_begin c1 (fun G2 f2 b1 b2 b4 bb => ?_)
  have c2 := c1.dst (f2.mono (fun b q => by omega) (fun _ q => q))
  have o2 : opnd z G2 la (opq S v) := ⟨by rw [f2.I (by omega)]; exact o1.1, fun j hj => by rw [f2.Rf (fun q => q)]; exact o1.2 j hj⟩
  refine ⟨c2.K, z + 5, c2.1.R 0 6 5 (by decide), z + 38, c2.1.R 0 10 38 (by decide), c2.1.K 5 (by omega), ?_⟩
  have I2 : jI z (boQ false S v) 0 0 jst0 G2 := ⟨by rw [b2]; rfl, b1, fun n hn => absurd hn (Nat.not_lt_zero _), fun k hk => bb k hk, b4⟩
  refine X9_seekRings c2 hi o2 hl h24 (boC_lt (cho_10 _ _ _ _)) rfl I2 (fun G3 f3 I3 => ?_)
  have c3 := c2.dst f3
  have fin := hQ G3 (mid.cls c3 hm ((f1.mono (P' := fun b => z + 5 ≤ b ∧ b ≤ z + 45) (R' := fun b => b = z + 6) (fun b q => by omega) (fun _ q => q)).tr ((f2.mono (fun b q => by omega) (fun _ q => absurd q id)).tr (f3.mono (fun b q => by omega) (fun _ q => absurd q id)))) (fun b q1 q2 => ⟨by omega, by omega⟩))
  have I3' : jI z (boQ false S v) 0 0 (jfin false S v) G3 := I3
  obtain ⟨a1, a2, _⟩ := I3'
  refine ⟨c3.K, z + 38, c3.1.R 0 10 38 (by decide), c3.1.K 38 (by omega), ?_⟩
  rw [a1]
  cases e : (jfin false S v).1 with
  | true =>
    rw [e] at fin
    exact ifN (by decide) fin
  | false =>
    rw [e] at fin
    refine ifP rfl ⟨z + 38, c3.1.R 0 10 38 (by decide), c3.1.K 38 (by omega), ?_⟩
    cases em : (jfin false S v).2.1 with
    | none =>
      rw [em] at a2 fin
      have a2 : gI G3 (z + 38) 1 = 0 := a2
      rw [a2]
      exact ifP ci fin
    | some r =>
      rw [em] at a2 fin
      obtain ⟨b1, b2, b3, b4, b5⟩ := a2
      rw [b1]
      refine ifE (fun c => ?_) (fun c => ⟨z + 38, c3.1.R 0 10 38 (by decide), c3.1.K 38 (by omega), z + 39, c3.1.R 38 0 39 (by decide), c3.1.K 39 (by omega), ?_⟩)
      · rw [i_le, nI_toInt (by omega)] at c
        have fin' : Q (if nv i < r.length then lN (r.getD (nv i) 0) else -9000000000000000005) G3 := fin
        rw [if_neg (by omega)] at fin'
        exact fin'
      · rw [i_le, nI_toInt (by omega)] at c
        have hlt : nv i < r.length := by omega
        have fin' : Q (if nv i < r.length then lN (r.getD (nv i) 0) else -9000000000000000005) G3 := fin
        rw [if_pos hlt] at fin'
        have hx := b5 _ (getD_mem hlt)
        refine ⟨by rw [c3.1.N 39 (by omega)]; exact vpn i0' (by show i.toInt < (10 : Nat); omega), ?_⟩
        rw [nv_c, b2 (nv i) hlt, nI_64 (by omega)]
        exact fin'
theorem M_quarrel {z : Nat} {G : Wd} {S T : St} {v i : Int32} {Q : Int64 → Wd → Prop} (h : mid z G T S) (hi : Inv S) (hQ : ∀ G', mid z G' T S → Q (oQuarrel S v i) G') : wpX11_quarrel (z + 54) v i G Q := by
  unfold oQuarrel at hQ
  have hb : ¬ (rng v 0 79999 ∧ 0 ≤ i) → Q (-9000000000000000001) G := fun n => by have := hQ G h; rw [if_neg n] at this; exact this
  unfold wpX11_quarrel
  refine X11_isTime (fun b => ifN (fun e => n10 e) (ifE (fun ci => ⟨h.K, ?_⟩) (fun ci => hb (fun c => ci c.2)))) (fun b => ifP rfl (hb (fun c => b c.1)))
  rw [if_pos ⟨b, ci⟩] at hQ
  obtain ⟨hl, h24⟩ := opl_ok hi (v / 10000) (v % 10000)
  have i0' : 0 ≤ i.toInt := by rw [i_le, il0] at ci; exact ci
  have ir := i_rng i
  have iv := nv_i i0'
  obtain ⟨r1, r2⟩ := rings_eq hi (boQ false S v) (opq S v) hl
  have fin0 : ∀ G', fxM (z + 54) frI rgJ frA G G' → mid z G' T S := fun G' f' => h.fx f' (by decide) (by decide) (by decide)
  refine X11_findRings (ch := false) h hi (pd_rng b).1 rfl (fun G1 f1 hx => ifP rfl ?_) (fun G1 f1 hs _ I1 _ _ => ifN (fun e => n10 e) ?_)
  · have hx' : (jfin false S v).1 = true := by
      rcases hx with w | w
      · rw [← r1]; exact w
      · cases w.1
    have fin := hQ G1 (fin0 G1 f1)
    rw [hx'] at fin
    exact fin
  · have hs' : (jfin false S v).1 = false := by rw [← r1]; exact hs
    have I1' : mI z (jfin false S v) G1 := by
      have := I1
      rw [r2 hs'] at this
      exact this
    have fin := hQ G1 (fin0 G1 f1)
    rw [hs'] at fin
    have m1 := fin0 G1 f1
    obtain ⟨a1, _⟩ := I1'.2 hs'
    refine ⟨m1.K, ?_⟩
    cases em : (jfin false S v).2.1 with
    | none =>
      rw [em] at a1 fin
      exact ifP a1 fin
    | some r =>
      rw [em] at a1 fin
      obtain ⟨b1, b2, b3, b4, b5, b6⟩ := a1
      have fin' : Q (if nv i < r.length then lN (r.getD (nv i) 0) else -9000000000000000005) G1 := fin
      rw [b1, b2]
      refine ifN (fun e => n10 e) (ifE (fun c => ?_) (fun c => ?_))
      · rw [i_le, nI_toInt (by omega)] at c
        rw [if_neg (by omega)] at fin'
        exact fin'
      · rw [i_le, nI_toInt (by omega)] at c
        have hlt : nv i < r.length := by omega
        rw [if_pos hlt] at fin'
        have hx := b6 _ (getD_mem hlt)
        refine m1.2.at 23 32 20 25 rfl rfl rfl (by omega) (by omega) (vpn i0' (by show i.toInt < (25 : Nat); omega)) ?_
        rw [nv_c, b3 (nv i) hlt, nI_64 (by omega)]
        exact fin'
theorem ok_quarrel : ok2 wpX10_quarrel wpX11_quarrel := ⟨fun S v i => (oQuarrel S v i, S), fun _ _ _ _ _ _ _ h hi hQ => C_quarrel h hi hQ, fun _ _ _ _ _ _ _ h hi hQ => M_quarrel h hi hQ, fun _ _ _ hi => hi⟩
