/-! THE START: a world of cells in any order; the store's first numbers; the tables' words -/
theorem Eqv.un (e : va_E) : Eqv (trE e) e := by
  rcases e with ⟨c, n, f | f | f | f | f⟩ | o
  · exact Or.inl rfl
  · exact Or.inl rfl
  · exact Or.inl rfl
  · exact Or.inl rfl
  · exact Or.inr ⟨c, n, fun i => if i < n then f i else none, f, rfl, rfl, fun i hi => if_pos hi⟩
  · exact Or.inl rfl
theorem cW_subP {D : va_G} {H : Heap} {ks ks' : List Nat} {ad : Nat → Nat} {E : Nat → va_E} (hs : ∀ k ∈ ks', k ∈ ks) (h : va_P D gmCl (cW ks ad E) H) : va_P D gmCl (cW ks' ad E) H := fun i q hq => by
  obtain ⟨k, h1, rfl⟩ := cW_inv hq
  obtain ⟨j, hj⟩ := c_idx (hs k (List.mem_of_getElem? h1))
  exact h j _ (cW_at hj)
theorem cW_subD {A : Nat → Prop} {ks ks' : List Nat} {ad : Nat → Nat} {E : Nat → va_E} (hn : ks'.Nodup) (hs : ∀ k ∈ ks', k ∈ ks) (h : va_D A (cW ks ad E)) : va_D A (cW ks' ad E) := by
  refine ⟨fun i j p q hi hj hpq => ?_, fun k q hk => ?_⟩
  · obtain ⟨k1, h1, rfl⟩ := cW_inv hi
    obtain ⟨k2, h2, rfl⟩ := cW_inv hj
    obtain ⟨j1, g1⟩ := c_idx (hs k1 (List.mem_of_getElem? h1))
    obtain ⟨j2, g2⟩ := c_idx (hs k2 (List.mem_of_getElem? h2))
    have e := h.1 j1 j2 _ _ (cW_at g1) (cW_at g2) hpq
    subst e
    have e2 : k1 = k2 := Option.some.inj (g1.symm.trans g2)
    subst e2
    exact (List.getElem?_inj (List.getElem?_eq_some_iff.mp h1).1 hn).mp (h1.trans h2.symm)
  · obtain ⟨k1, h1, rfl⟩ := cW_inv hk
    obtain ⟨j, g⟩ := c_idx (hs k1 (List.mem_of_getElem? h1))
    exact h.2 j (ad k1, E k1) (cW_at g)
theorem clo_all : ∀ k, k < 150 → clo 0 149 k = true := by decide +kernel
theorem clo_lo : ∀ k, k < 133 → clo 0 132 k = true := by decide +kernel
theorem clo_hi : ∀ k, k < 150 → 133 ≤ k → clo 133 149 k = true := by decide +kernel
theorem st_world {G : GG} {A : Nat → Prop} {H : Heap} {ks : List Nat} {ad : Nat → Nat} {E : Nat → va_E} {b : Nat} (hks : ∀ k, k < 150 → k ∈ ks) (hP : va_P G.1 gmCl (cW ks ad E) H) (hD : va_D A (cW ks ad E)) (hE : ∀ k, k < 150 → E k = E1 G ad k) : va_P G.1 gmCl (gmW (G.1, upC ad 150 b, G.2.2) st0) H ∧ va_D A (gmW (G.1, upC ad 150 b, G.2.2) st0) := by
  have hs : ∀ k ∈ List.range 150, k ∈ ks := fun k hk => hks k (List.mem_range.mp hk)
  have hP1 : va_P G.1 gmCl (cW (List.range 150) ad (gmE (G.1, upC ad 150 b, G.2.2) st0)) H := cW_P (cW_subP hs hP) (fun k hk => by
    have hk := List.mem_range.mp hk
    rw [hE k hk, ← E1_blk (clo_all k hk) (ad' := upC ad 150 b) (fun j _ h => upC_n (by omega))]
    exact Eqv.un _)
  have hD1 : va_D A (cW (List.range 150) ad (gmE (G.1, upC ad 150 b, G.2.2) st0)) := cW_D (cW_subD List.nodup_range hs hD)
  have ew : gmW (G.1, upC ad 150 b, G.2.2) st0 = cW (List.range 150) ad (gmE (G.1, upC ad 150 b, G.2.2) st0) := cW_congr (ks := List.range 150) (ad' := upC ad 150 b) (fun k hk => ⟨upC_n (by have := List.mem_range.mp hk; omega), rfl⟩)
  rw [ew]
  exact ⟨hP1, hD1⟩
/-! the first numbers -/
theorem st0_v (k i : Nat) : st0 k i = 0 ∨ st0 k i = 1 ∨ st0 k i = 12 := by
  unfold st0
  by_cases a : k = 16 ∨ k = 33 ∨ k = 50
  · rw [if_pos a]
    by_cases z : i = 0
    · rw [if_pos z]; exact Or.inr (Or.inl rfl)
    · rw [if_neg z]; exact Or.inl rfl
  · rw [if_neg a]
    by_cases a2 : k = 1 ∨ k = 18 ∨ k = 35
    · rw [if_pos a2]
      by_cases z : i = 5
      · rw [if_pos z]; exact Or.inr (Or.inr rfl)
      · rw [if_neg z]; exact Or.inl rfl
    · rw [if_neg a2]
      by_cases a3 : k = 134
      · rw [if_pos a3]
        by_cases z : i = 67
        · rw [if_pos z]; exact Or.inr (Or.inl rfl)
        · rw [if_neg z]
          by_cases z2 : i = 70
          · rw [if_pos z2]; exact Or.inr (Or.inr rfl)
          · rw [if_neg z2]; exact Or.inl rfl
      · rw [if_neg a3]; exact Or.inl rfl
theorem st0_ok : gmOK st0 := fun k i => by
  have := st0_v k i
  exact ⟨by omega, by omega⟩
theorem st0_rep : ∀ k, k < 78 → st0 (1 + lc k) (lf k) = st0 134 k := by decide +kernel
theorem st0_invP : InvP (st0 134) := by
  unfold InvP
  decide +kernel
theorem st0_invC : InvC (st0 134) := by
  refine ⟨st0_invP, ?_⟩
  decide +kernel
theorem st0_inv : Inv (st0 134) := by
  refine ⟨st0_invC, by decide +kernel, fun s hs => ?_⟩
  have : st0 134 36 = 0 := by decide +kernel
  omega
theorem st0_rel : Rel st0 := by
  refine ⟨fun k hk _ => st0_rep k hk, st0_inv, fun i hi => ?_⟩
  have h1 : st0 53 i = 0 := st0_z (by omega) i
  have h2 : st0 136 i = 0 := st0_z (by omega) i
  exact ⟨by rw [h1, h2], Or.inl h1, fun z => by omega⟩
/-! the tables -/
theorem st_nest : ∀ q ∈ gmNestL, Cond.methodLinkNest q.1 q.2.1 q.2.2.1 q.2.2.2 ∈ lw_tbl := List.forall_mem_cons.mpr ⟨List.mem_append_right _ (List.mem_of_getElem? (i := 27) (by decide +kernel)), List.forall_mem_cons.mpr ⟨List.mem_append_right _ (List.mem_of_getElem? (i := 62) (by decide +kernel)), List.forall_mem_cons.mpr ⟨List.mem_append_right _ (List.mem_of_getElem? (i := 148) (by decide +kernel)), List.forall_mem_cons.mpr ⟨List.mem_append_right _ (List.mem_of_getElem? (i := 252) (by decide +kernel)), List.forall_mem_cons.mpr ⟨List.mem_append_right _ (List.mem_of_getElem? (i := 381) (by decide +kernel)), fun _ h => absurd h List.not_mem_nil⟩⟩⟩⟩⟩
theorem st_nw {s : State} {args : Array Value} (hts : ∀ w ∈ lw_tbl, w.before args s = true) : gmNw s := fun q hq => va_Nw.of rfl (hts _ (st_nest q hq))
theorem st_ov1 : Cond.arrayOver (.object (gmC 1).1) ∈ lw_tbl := List.mem_append_right _ (List.mem_of_getElem? (i := 146) (by decide +kernel))
theorem st_ov2 : Cond.arrayOver (.object (gmC 2).1) ∈ lw_tbl := List.mem_append_right _ (List.mem_of_getElem? (i := 25) (by decide +kernel))
theorem st_ov3 : Cond.arrayOver (.object (gmC 3).1) ∈ lw_tbl := List.mem_append_right _ (List.mem_of_getElem? (i := 60) (by decide +kernel))
theorem st_ov4 : Cond.arrayOver (.object (gmC 4).1) ∈ lw_tbl := List.mem_append_right _ (List.mem_of_getElem? (i := 138) (by decide +kernel))
theorem st_ao {s : State} {args : Array Value} (hts : ∀ w ∈ lw_tbl, w.before args s = true) : gmAOs s := ⟨va_AO.of (hts _ st_ov1), va_AO.of (hts _ st_ov2), va_AO.of (hts _ st_ov3), va_AO.of (hts _ st_ov4)⟩
theorem st_arr {s : State} {args : Array Value} {C : String} (h : (Cond.arrayOver (.object C)).before args s = true) : ∃ cA : ClassId, ArrOfT s cA (.object C) ∧ va_RA s cA (.object C) := by
  obtain ⟨comp, c, k, h1, h2, h3, h4, h5⟩ := Cond.arrayOver_spec h
  exact ⟨c, fun n z => ⟨(fun k h => by cases h), k, h3, comp, h4⟩, k, comp, h3, h4, h1, h5⟩
theorem st_arr0 {s : State} {args : Array Value} (h : (Cond.arrayClass .int).before args s = true) : ∃ cA : ClassId, ArrOfT s cA .int ∧ va_RA s cA .int := by
  obtain ⟨c, k, comp, h1, h2, h3⟩ := Cond.arrayClass_spec h
  exact ⟨c, fun n z => ⟨(fun k h => by cases h), k, h2, comp, h3⟩, h1⟩
theorem st_arr1 {s : State} {args : Array Value} (h : (Cond.arrayClass .boolean).before args s = true) : ∃ cA : ClassId, ArrOfT s cA .boolean ∧ va_RA s cA .boolean := by
  obtain ⟨c, k, comp, h1, h2, h3⟩ := Cond.arrayClass_spec h
  exact ⟨c, fun n z => ⟨(fun k h => by cases h), k, h2, comp, h3⟩, h1⟩
theorem st_gmT {s : State} {args : Array Value} (hts : ∀ w ∈ lw_tbl, w.before args s = true) : ∀ w ∈ gmT, w.before args s = true := fun w hw => hts w (List.mem_filter.mp hw).1
theorem st_arrs {s : State} {args : Array Value} (hts : ∀ w ∈ lw_tbl, w.before args s = true) (c : Nat) : ∃ cA : ClassId, c < 6 → ArrOfT s cA (gmTyF c) ∧ va_RA s cA (gmTyF c) := by
  match c with
  | 0 => obtain ⟨a, h⟩ := st_arr0 (st_gmT hts _ ac_0); exact ⟨a, fun _ => h⟩
  | 1 => obtain ⟨a, h⟩ := st_arr1 (st_gmT hts _ ac_1); exact ⟨a, fun _ => h⟩
  | 2 => obtain ⟨a, h⟩ := st_arr (hts _ st_ov2); exact ⟨a, fun _ => h⟩
  | 3 => obtain ⟨a, h⟩ := st_arr (hts _ st_ov3); exact ⟨a, fun _ => h⟩
  | 4 => obtain ⟨a, h⟩ := st_arr (hts _ st_ov4); exact ⟨a, fun _ => h⟩
  | 5 => obtain ⟨a, h⟩ := st_arr (hts _ st_ov1); exact ⟨a, fun _ => h⟩
  | n + 6 => exact ⟨(0 : Nat), fun h => absurd h (by omega)⟩
theorem st_inst : ∀ c, c < 7 → Cond.instantiable (gmC c).1 (gmC c).2.2 ∈ gmT
  | 0, _ => in_0
  | 1, _ => in_1
  | 2, _ => in_2
  | 3, _ => in_3
  | 4, _ => in_4
  | 5, _ => in_5
  | 6, _ => in_6
  | n + 7, h => absurd h (by omega)
theorem st_cls {s : State} {args : Array Value} (hts : ∀ w ∈ lw_tbl, w.before args s = true) (c : Nat) : ∃ q : ClassId × (Nat → Nat), c < 7 → u_Kn s (gmC c).1 (gmC c).2.1 (gmC c).2.2 q.1 q.2 := by
  by_cases h7 : c < 7
  · obtain ⟨cC, iS, h⟩ := u_known (C := (gmC c).1) (T := (gmC c).2.1) (N := (gmC c).2.2) (n := (gmC c).2.2) (st_gmT hts) (gmU h7) (st_gmT hts _ (st_inst c h7))
    exact ⟨(cC, iS), fun _ => h⟩
  · exact ⟨((0 : Nat), fun _ => 0), fun h => absurd h h7⟩
theorem st_known {s : State} {args : Array Value} (hts : ∀ w ∈ lw_tbl, w.before args s = true) : ∃ (D : va_G) (N : Nat → ClassId), ∀ ad : Nat → Nat, va_K D gmCl (gmTy (D, ad, N)) s := by
  refine ⟨(fun c => (Classical.choose (st_cls hts c)).1, fun c => (Classical.choose (st_cls hts c)).2), fun k => Classical.choose (st_arrs hts (k - 10)), fun ad => ⟨fun c q hq => ?_, fun k q hq => ?_⟩⟩
  · have h7 : c < 7 := (List.getElem?_eq_some_iff.mp hq).1
    have e := (gmCl_at h7).symm.trans hq
    cases e
    exact Classical.choose_spec (st_cls hts c) h7
  · have h6 : k < 6 := by
      have := (List.getElem?_eq_some_iff.mp hq).1
      simpa [gmTy] using this
    have e := (gmTy_at _ h6).symm.trans hq
    cases e
    exact Classical.choose_spec (st_arrs hts (k + 10 - 10)) h6
