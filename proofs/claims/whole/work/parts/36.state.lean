/-! CONSTRUCTORS: State -/
def Eqv (e e' : va_E) : Prop := e = e' ∨ ∃ (c : ClassId) (n : Nat) (f f' : Nat → Option Nat), e = .inl (c, n, .inr (.inr (.inr (.inr f)))) ∧ e' = .inl (c, n, .inr (.inr (.inr (.inr f')))) ∧ ∀ i, i < n → f i = f' i
theorem Eqv.at {e e' : va_E} (h : Eqv e e') {D : va_G} {q : Nat} {H : Heap} (h1 : va_at D gmCl (q, e) H) : va_at D gmCl (q, e') H := by
  rcases h with rfl | ⟨c, n, f, f', rfl, rfl, hf⟩
  · exact h1
  · have h2 : H[q]? = some (arrV c n (fun j => va_rf (f j))) := h1
    show H[q]? = some (arrV c n (fun j => va_rf (f' j)))
    rw [h2]
    unfold arrV
    congr 3
    funext j
    show va_rf (f j.val) = va_rf (f' j.val)
    rw [hf j.val j.isLt]
def trE (e : va_E) : va_E := match e with
  | .inl (c, n, .inr (.inr (.inr (.inr f)))) => .inl (c, n, .inr (.inr (.inr (.inr (fun i => if i < n then f i else none)))))
  | e => e
theorem Eqv.to {e e' : va_E} (h : Eqv e e') : Eqv e (trE e') := by
  rcases h with rfl | ⟨c, n, f, f', rfl, rfl, hf⟩
  · rcases e with ⟨c, n, f | f | f | f | f⟩ | o
    · exact Or.inl rfl
    · exact Or.inl rfl
    · exact Or.inl rfl
    · exact Or.inl rfl
    · exact Or.inr ⟨c, n, f, fun i => if i < n then f i else none, rfl, rfl, fun i hi => (if_pos hi).symm⟩
    · exact Or.inl rfl
  · exact Or.inr ⟨c, n, f, fun i => if i < n then f' i else none, rfl, rfl, fun i hi => (hf i hi).trans (if_pos hi).symm⟩
theorem cW_inv {ks : List Nat} {ad : Nat → Nat} {E : Nat → va_E} {i : Nat} {q : Nat × va_E} (h : (cW ks ad E)[i]? = some q) : ∃ k, ks[i]? = some k ∧ q = (ad k, E k) := by
  unfold cW at h
  rw [List.getElem?_map] at h
  cases hk : ks[i]? with
  | none => rw [hk] at h; cases h
  | some k => rw [hk] at h; cases h; exact ⟨k, rfl, rfl⟩
theorem cW_P {ks : List Nat} {ad : Nat → Nat} {E E2 : Nat → va_E} {D : va_G} {H : Heap} (h : va_P D gmCl (cW ks ad E) H) (he : ∀ k ∈ ks, Eqv (E k) (E2 k)) : va_P D gmCl (cW ks ad E2) H := fun i q hq => by
  obtain ⟨k, h1, rfl⟩ := cW_inv hq
  exact (he k (List.mem_of_getElem? h1)).at (h i _ (cW_at h1))
theorem cW_D {ks : List Nat} {ad : Nat → Nat} {E E2 : Nat → va_E} {A : Nat → Prop} (h : va_D A (cW ks ad E)) : va_D A (cW ks ad E2) := by
  refine ⟨fun i j p q hi hj hpq => ?_, fun k q hk => ?_⟩
  · obtain ⟨k1, h1, rfl⟩ := cW_inv hi
    obtain ⟨k2, h2, rfl⟩ := cW_inv hj
    exact h.1 i j _ _ (cW_at h1) (cW_at h2) hpq
  · obtain ⟨k1, h1, rfl⟩ := cW_inv hk
    exact h.2 k (ad k1, E k1) (cW_at h1)
theorem c_ret2 {φ : Fx} {cc : ByteArray} {mc ms k0 h0 : Nat} {ks ks' : List Nat} {E' : E4} {ad : Nat → Nat} {E : Nat → va_E} {cl sl pc : Nat} {lv : List (Nat × AV)} (hF : FinC φ cc mc ms k0 h0 ks' E') (hks : ks = ks') (hE : ∀ k ∈ ks', Eqv (E k) (E' (fG φ) ad k)) (h0' : ad k0 = h0) (hr : cl ≤ mc ∧ sl ≤ ms) (hd : decode cc pc = .ok (.return_, 1)) : JC φ ks ad E cl sl pc lv [] := by
  subst hks
  obtain ⟨p, l, e, R, s, m, args, below, meth, c, Q, G, A, cells, slots, nL⟩ := φ
  intro H locs ls hn hP hD hS h
  exact hF pc H locs ls ad cl sl hd h0' (cW_P hP hE) (cW_D hD) hS hr.1 hr.2
theorem rf_0_0 (q : Nat) : narrow (gmTy0 0 0) (.ref q) = .ref q ∧ fits (gmTy0 0 0) (.ref q) = true := by rw [show gmTy0 0 0 = .array (.object "GarmentMarker$Part") from by decide +kernel]; exact ⟨rfl, rfl⟩
theorem rf_0_3 (q : Nat) : narrow (gmTy0 0 3) (.ref q) = .ref q ∧ fits (gmTy0 0 3) (.ref q) = true := by rw [show gmTy0 0 3 = .array (.int) from by decide +kernel]; exact ⟨rfl, rfl⟩
theorem rf_0_4 (q : Nat) : narrow (gmTy0 0 4) (.ref q) = .ref q ∧ fits (gmTy0 0 4) (.ref q) = true := by rw [show gmTy0 0 4 = .array (.int) from by decide +kernel]; exact ⟨rfl, rfl⟩
theorem rf_0_5 (q : Nat) : narrow (gmTy0 0 5) (.ref q) = .ref q ∧ fits (gmTy0 0 5) (.ref q) = true := by rw [show gmTy0 0 5 = .array (.int) from by decide +kernel]; exact ⟨rfl, rfl⟩
theorem rf_0_6 (q : Nat) : narrow (gmTy0 0 6) (.ref q) = .ref q ∧ fits (gmTy0 0 6) (.ref q) = true := by rw [show gmTy0 0 6 = .array (.int) from by decide +kernel]; exact ⟨rfl, rfl⟩
theorem rf_4_0 (q : Nat) : narrow (gmTy0 4 0) (.ref q) = .ref q ∧ fits (gmTy0 4 0) (.ref q) = true := by rw [show gmTy0 4 0 = .array (.object "GarmentMarker$Piece") from by decide +kernel]; exact ⟨rfl, rfl⟩
theorem rf_4_1 (q : Nat) : narrow (gmTy0 4 1) (.ref q) = .ref q ∧ fits (gmTy0 4 1) (.ref q) = true := by rw [show gmTy0 4 1 = .array (.object "GarmentMarker$Seam") from by decide +kernel]; exact ⟨rfl, rfl⟩
theorem rf_4_3 (q : Nat) : narrow (gmTy0 4 3) (.ref q) = .ref q ∧ fits (gmTy0 4 3) (.ref q) = true := by rw [show gmTy0 4 3 = .array (.int) from by decide +kernel]; exact ⟨rfl, rfl⟩
theorem rf_4_4 (q : Nat) : narrow (gmTy0 4 4) (.ref q) = .ref q ∧ fits (gmTy0 4 4) (.ref q) = true := by rw [show gmTy0 4 4 = .array (.int) from by decide +kernel]; exact ⟨rfl, rfl⟩
theorem rf_5_0 (q : Nat) : narrow (gmTy0 5 0) (.ref q) = .ref q ∧ fits (gmTy0 5 0) (.ref q) = true := by rw [show gmTy0 5 0 = .object "GarmentMarker$State" from by decide +kernel]; exact ⟨rfl, rfl⟩
theorem rf_5_1 (q : Nat) : narrow (gmTy0 5 1) (.ref q) = .ref q ∧ fits (gmTy0 5 1) (.ref q) = true := by rw [show gmTy0 5 1 = .array (.object "GarmentMarker$State") from by decide +kernel]; exact ⟨rfl, rfl⟩
theorem rf_5_2 (q : Nat) : narrow (gmTy0 5 2) (.ref q) = .ref q ∧ fits (gmTy0 5 2) (.ref q) = true := by rw [show gmTy0 5 2 = .array (.boolean) from by decide +kernel]; exact ⟨rfl, rfl⟩
theorem rf_5_3 (q : Nat) : narrow (gmTy0 5 3) (.ref q) = .ref q ∧ fits (gmTy0 5 3) (.ref q) = true := by rw [show gmTy0 5 3 = .object "GarmentMarker$Marker" from by decide +kernel]; exact ⟨rfl, rfl⟩
theorem rf_5_4 (q : Nat) : narrow (gmTy0 5 4) (.ref q) = .ref q ∧ fits (gmTy0 5 4) (.ref q) = true := by rw [show gmTy0 5 4 = .array (.int) from by decide +kernel]; exact ⟨rfl, rfl⟩
theorem rf_6_0 (q : Nat) : narrow (gmTy0 6 0) (.ref q) = .ref q ∧ fits (gmTy0 6 0) (.ref q) = true := by rw [show gmTy0 6 0 = .array (.int) from by decide +kernel]; exact ⟨rfl, rfl⟩
theorem rf_6_1 (q : Nat) : narrow (gmTy0 6 1) (.ref q) = .ref q ∧ fits (gmTy0 6 1) (.ref q) = true := by rw [show gmTy0 6 1 = .array (.int) from by decide +kernel]; exact ⟨rfl, rfl⟩
theorem rf_6_2 (q : Nat) : narrow (gmTy0 6 2) (.ref q) = .ref q ∧ fits (gmTy0 6 2) (.ref q) = true := by rw [show gmTy0 6 2 = .array (.boolean) from by decide +kernel]; exact ⟨rfl, rfl⟩
theorem rf_6_3 (q : Nat) : narrow (gmTy0 6 3) (.ref q) = .ref q ∧ fits (gmTy0 6 3) (.ref q) = true := by rw [show gmTy0 6 3 = .array (.int) from by decide +kernel]; exact ⟨rfl, rfl⟩
theorem rf_6_4 (q : Nat) : narrow (gmTy0 6 4) (.ref q) = .ref q ∧ fits (gmTy0 6 4) (.ref q) = true := by rw [show gmTy0 6 4 = .array (.int) from by decide +kernel]; exact ⟨rfl, rfl⟩
theorem rf_6_5 (q : Nat) : narrow (gmTy0 6 5) (.ref q) = .ref q ∧ fits (gmTy0 6 5) (.ref q) = true := by rw [show gmTy0 6 5 = .array (.int) from by decide +kernel]; exact ⟨rfl, rfl⟩
theorem rf_6_6 (q : Nat) : narrow (gmTy0 6 6) (.ref q) = .ref q ∧ fits (gmTy0 6 6) (.ref q) = true := by rw [show gmTy0 6 6 = .array (.int) from by decide +kernel]; exact ⟨rfl, rfl⟩
theorem rf_6_7 (q : Nat) : narrow (gmTy0 6 7) (.ref q) = .ref q ∧ fits (gmTy0 6 7) (.ref q) = true := by rw [show gmTy0 6 7 = .array (.boolean) from by decide +kernel]; exact ⟨rfl, rfl⟩
theorem rf_6_9 (q : Nat) : narrow (gmTy0 6 9) (.ref q) = .ref q ∧ fits (gmTy0 6 9) (.ref q) = true := by rw [show gmTy0 6 9 = .array (.int) from by decide +kernel]; exact ⟨rfl, rfl⟩
theorem rf_6_10 (q : Nat) : narrow (gmTy0 6 10) (.ref q) = .ref q ∧ fits (gmTy0 6 10) (.ref q) = true := by rw [show gmTy0 6 10 = .array (.int) from by decide +kernel]; exact ⟨rfl, rfl⟩
theorem rf_6_11 (q : Nat) : narrow (gmTy0 6 11) (.ref q) = .ref q ∧ fits (gmTy0 6 11) (.ref q) = true := by rw [show gmTy0 6 11 = .array (.int) from by decide +kernel]; exact ⟨rfl, rfl⟩
theorem rf_6_12 (q : Nat) : narrow (gmTy0 6 12) (.ref q) = .ref q ∧ fits (gmTy0 6 12) (.ref q) = true := by rw [show gmTy0 6 12 = .array (.int) from by decide +kernel]; exact ⟨rfl, rfl⟩
theorem rf_6_13 (q : Nat) : narrow (gmTy0 6 13) (.ref q) = .ref q ∧ fits (gmTy0 6 13) (.ref q) = true := by rw [show gmTy0 6 13 = .array (.int) from by decide +kernel]; exact ⟨rfl, rfl⟩
theorem rf_6_14 (q : Nat) : narrow (gmTy0 6 14) (.ref q) = .ref q ∧ fits (gmTy0 6 14) (.ref q) = true := by rw [show gmTy0 6 14 = .array (.int) from by decide +kernel]; exact ⟨rfl, rfl⟩
theorem rf_6_16 (q : Nat) : narrow (gmTy0 6 16) (.ref q) = .ref q ∧ fits (gmTy0 6 16) (.ref q) = true := by rw [show gmTy0 6 16 = .array (.int) from by decide +kernel]; exact ⟨rfl, rfl⟩
theorem rf_6_18 (q : Nat) : narrow (gmTy0 6 18) (.ref q) = .ref q ∧ fits (gmTy0 6 18) (.ref q) = true := by rw [show gmTy0 6 18 = .array (.int) from by decide +kernel]; exact ⟨rfl, rfl⟩
theorem nf_4_5 (x : Int) : narrow (gmTy0 4 5) (.int (Int32.ofInt x)) = .int (Int32.ofInt x) ∧ fits (gmTy0 4 5) (.int (Int32.ofInt x)) = true := by rw [show gmTy0 4 5 = .int from by decide +kernel]; exact ⟨rfl, rfl⟩
theorem nf_4_8 (x : Int) : narrow (gmTy0 4 8) (.int (Int32.ofInt x)) = .int (Int32.ofInt x) ∧ fits (gmTy0 4 8) (.int (Int32.ofInt x)) = true := by rw [show gmTy0 4 8 = .int from by decide +kernel]; exact ⟨rfl, rfl⟩
theorem nf_4_9 (x : Int) : narrow (gmTy0 4 9) (.int (Int32.ofInt x)) = .int (Int32.ofInt x) ∧ fits (gmTy0 4 9) (.int (Int32.ofInt x)) = true := by rw [show gmTy0 4 9 = .int from by decide +kernel]; exact ⟨rfl, rfl⟩
theorem isB_k {B : Nat} (hB : isB B) : gmKd B = 4 ∧ gmKd (B + 1) = 12 ∧ gmKd (B + 8) = 13 ∧ gmKd (B + 15) = 10 ∧ gmKd (B + 16) = 10 ∧ gmLn (B + 1) = 6 ∧ gmLn (B + 8) = 6 ∧ gmLn (B + 15) = 3 ∧ gmLn (B + 16) = 3 ∧ (∀ i, i < 6 → gmKd (B + 2 + i) = 2) ∧ (∀ i, i < 6 → gmKd (B + 9 + i) = 3) := by
  rcases hB with rfl | rfl | rfl <;> decide
theorem E0_B {G : GG} {ad : Nat → Nat} {B : Nat} (hB : isB B) : E0 G ad B = .inr (4, [.ref (ad (B + 1)), .ref (ad (B + 8)), .int 0, .ref (ad (B + 15)), .ref (ad (B + 16)), .int (Int32.ofInt 12), .int 0, .int 0, .int 0, .int 0]) := by
  rcases hB with rfl | rfl | rfl <;> rfl
theorem E0_2 {G : GG} {ad : Nat → Nat} {k : Nat} (h : gmKd k = 2) (hz : ∀ i, st0 k i = 0) : E0 G ad k = .inr (2, fs2) := by
  show gmE (G.1, ad, G.2.2) st0 k = _
  rw [gmE_obj h (by decide)]
  have : ∀ i, gmFv (G.1, ad, G.2.2) st0 k i = .int 0 := fun i => by
    unfold gmFv
    rw [gmFrN i (by omega), hz i]
    rfl
  rw [show gmFv (G.1, ad, G.2.2) st0 k = fun _ => Value.int 0 from funext this]
  rfl
theorem E0_3 {G : GG} {ad : Nat → Nat} {k : Nat} (h : gmKd k = 3) (hz : ∀ i, st0 k i = 0) : E0 G ad k = .inr (3, fs3) := by
  show gmE (G.1, ad, G.2.2) st0 k = _
  rw [gmE_obj h (by decide)]
  have : ∀ i, gmFv (G.1, ad, G.2.2) st0 k i = .int 0 := fun i => by
    unfold gmFv
    rw [gmFrN i (by omega), hz i]
    rfl
  rw [show gmFv (G.1, ad, G.2.2) st0 k = fun _ => Value.int 0 from funext this]
  rfl
theorem E0_1 {G : GG} {ad : Nat → Nat} {k : Nat} (h : gmKd k = 1) (hz : ∀ i, st0 k i = 0) : E0 G ad k = .inr (1, fs1) := by
  show gmE (G.1, ad, G.2.2) st0 k = _
  rw [gmE_obj h (by decide)]
  have : ∀ i, gmFv (G.1, ad, G.2.2) st0 k i = .int 0 := fun i => by
    unfold gmFv
    rw [gmFrN i (by omega), hz i]
    rfl
  rw [show gmFv (G.1, ad, G.2.2) st0 k = fun _ => Value.int 0 from funext this]
  rfl
theorem E0_q {G : GG} {ad : Nat → Nat} {k c : Nat} (h : gmKd k = c + 10) (hc : 2 ≤ c) : E0 G ad k = .inl (G.2.2 (c + 10), gmLn k, .inr (.inr (.inr (.inr (fun i => some (ad (gmTg k i))))))) := by
  show gmE (G.1, ad, G.2.2) st0 k = _
  rw [gmE_ref h hc]
theorem st0_z {k : Nat} (h : k ≠ 1 ∧ k ≠ 16 ∧ k ≠ 18 ∧ k ≠ 33 ∧ k ≠ 35 ∧ k ≠ 50 ∧ k ≠ 134) (i : Nat) : st0 k i = 0 := by
  unfold st0
  rw [if_neg (by omega), if_neg (by omega), if_neg (by omega)]
theorem isB_z {B k : Nat} (hB : isB B) (h : B < k ∧ k ≤ B + 16 ∧ k ≠ B + 15) (i : Nat) : st0 k i = 0 := st0_z (by omega) i
theorem st0_ra {B : Nat} (hB : isB B) (i : Nat) : st0 (B + 15) i = if i = 0 then 1 else 0 := by
  unfold st0
  rw [if_pos (by omega)]
theorem mem_A {B k : Nat} (h : k ∈ ([B] ++ [B + 1]) ++ (List.range 6).flatMap (fun i => [B + 2 + i])) : B ≤ k ∧ k ≤ B + 7 := by
  simp only [List.mem_append, List.mem_flatMap, List.mem_range, List.mem_singleton] at h
  rcases h with (h | h) | ⟨i, h1, h⟩ <;> omega
theorem mem_B {B k : Nat} (h : k ∈ (([B] ++ [B + 1]) ++ (List.range 6).flatMap (fun i => [B + 2 + i])) ++ [B + 8]) : B ≤ k ∧ k ≤ B + 8 := by
  rcases List.mem_append.mp h with h | h
  · have := mem_A h
    omega
  · have := List.mem_singleton.mp h
    omega
theorem mem_C {B k : Nat} (h : k ∈ ((([B] ++ [B + 1]) ++ (List.range 6).flatMap (fun i => [B + 2 + i])) ++ [B + 8]) ++ (List.range 6).flatMap (fun i => [B + 9 + i])) : B ≤ k ∧ k ≤ B + 14 := by
  rcases List.mem_append.mp h with h | h
  · have := mem_B h
    omega
  · obtain ⟨i, h1, h2⟩ := List.mem_flatMap.mp h
    have := List.mem_range.mp h1
    have := List.mem_singleton.mp h2
    omega
theorem mem_D {B k : Nat} (h : k ∈ (((([B] ++ [B + 1]) ++ (List.range 6).flatMap (fun i => [B + 2 + i])) ++ [B + 8]) ++ (List.range 6).flatMap (fun i => [B + 9 + i])) ++ [B + 15]) : B ≤ k ∧ k ≤ B + 15 := by
  rcases List.mem_append.mp h with h | h
  · have := mem_C h
    omega
  · have := List.mem_singleton.mp h
    omega
def E1 : E4 := fun G ad k => trE (E0 G ad k)
set_option maxHeartbeats 4000000 in
theorem C_state {B : Nat} (hB : isB B) : CtrC gmY4_init prog_6_method_1_code 2 2 32 16 84 B (.inr (4, fs4)) (ksS B) E1 := by
  refine CtrC.of (own := "GarmentMarker$State") (by decide +kernel) rfl rfl (by decide) (fun φ h0 hG hC hI hF => ?_)
  refine c_aload_n hG 0 i4_0 rfl rfl ?_
  refine c_objInit hG oi_4_1 oi_2 oi_3 ⟨by decide, by decide⟩ i4_1 ?_
  refine c_aload_n hG 0 i4_4 rfl rfl ?_
  refine c_bipush hG i4_5 (by decide) ?_
  refine c_newq (kn := B + 1) (c0 := 2) (ci := 2) (N := 6) hG hC (by decide) rfl (Or.inr (Or.inl rfl)) cl_4_9 (by simp) rfl (by decide) ⟨by decide, by decide⟩ i4_7 (fun q1 => ?_)
  refine c_putR (ko := B) (fs := fs4) hG hI gmF_4_11 rfl rfl (by simp) (by rw [upC_n (by omega)]) (by rw [upC_n (by omega)]) (by decide) (rf_4_0 q1).1 (rf_4_0 q1).2 i4_10 ?_
  refine c_iconst hG i4_13 ?_
  refine c_istore_n (lv' := [(1, .inl 0), (0, .inr h0)]) hG i4_14 rfl (by decide) rfl ?_
  have key := c_fill (φ := φ) (mc := 16) (ms := 84) (ko := B) (ka := B + 1) (h0 := h0) (N := 6) (c0 := 2) (ci := 2) (ec := 1) (es := 6) (cl0 := 1) (sl0 := 6) (ks0 := [B] ++ [B + 1]) (fsO := fs4.set 0 (.ref q1)) (ad0 := upC (fun _ => h0) (B + 1) q1) (E0 := upC (upC (fun _ => (.inr (4, fs4) : va_E)) (B + 1) (.inl ((fG φ).2.2 (2 + 10), 6, .inr (.inr (.inr (.inr (fun _ => none))))))) B (.inr (4, fs4.set 0 (.ref q1)))) (kE := fun c => B + 2 + c) (blk := fun c => [B + 2 + c]) (V := fun _ _ => .inr (2, fs2)) (p0 := 15) (p2 := 18) (px := 40) hG (by decide) (by decide) gmF_4_11 (by simp) (by simp) (by omega) (fun c _ => List.mem_cons_self) (fun c _ k hk => by rw [List.mem_singleton.mp hk]; simp; omega) (fun c c' _ _ k hk z => by rw [List.mem_singleton.mp hk] at z; have := List.mem_singleton.mp z; omega) (fun _ _ _ _ _ _ _ => rfl) (by decide) (by decide) rfl (upC_n (by omega)) upC_s (by rw [upC_s]; rfl) ⟨by decide, by decide⟩ (fun _ _ _ _ _ _ _ k => c_bipush hG i4_16 (by decide) k) (fun c hc ks ad E cl sl lv st hst hk hr kk => el_leaf hG hC (by decide) cl_4_9 in_2 ii_2 fs2_ok C_piece (host := "GarmentMarker") (by decide +kernel) im_2 rfl ic_2 rfl iy_2 ⟨by decide, by decide⟩ i4_26 i4_29 i4_30 (B + 2 + c) ks ad E cl sl lv st hst hk hr kk) i4_15 i4_18 (by decide) i4_21 i4_22 i4_25 i4_33 i4_34 i4_37 (by decide) (fun ad E hI1 => ?_) 6 0 _ _ rfl ⟨fun _ _ => rfl, fun _ _ _ => rfl, by rw [upC_n (by omega), upC_s]; exact fill0, fun i hi => absurd hi (Nat.not_lt_zero i)⟩
  · rw [show List.range 0 = [] from rfl, List.flatMap_nil, List.append_nil] at key
    exact key
  obtain ⟨a1, a2, a3, a4⟩ := hI1
  have adB : ad B = h0 := (a1 B (by simp)).trans (upC_n (by omega))
  have adA : ad (B + 1) = q1 := (a1 (B + 1) (by simp)).trans upC_s
  have eB : E B = .inr (4, fs4.set 0 (.ref q1)) := (a2 B (by simp) (by omega)).trans upC_s
  have eP : ∀ i, i < 6 → E (B + 2 + i) = .inr (2, fs2) := fun i hi => a4 i hi _ List.mem_cons_self
  refine c_aload_n hG 1 i4_40 rfl rfl ?_
  refine c_bipush hG i4_41 (by decide) ?_
  refine c_newq (kn := B + 8) (c0 := 3) (ci := 3) (N := 6) hG hC (by decide) rfl (Or.inr (Or.inr (Or.inl rfl))) cl_4_18 (fun z => by have := mem_A z; omega) rfl (by decide) ⟨by decide, by decide⟩ i4_43 (fun q2 => ?_)
  refine c_putR (ko := B) (fs := fs4.set 0 (.ref q1)) hG hI gmF_4_20 rfl rfl (by simp) (by rw [upC_n (by omega), adB]) (by rw [upC_n (by omega), eB]) (by simp [fs4]) (rf_4_1 q2).1 (rf_4_1 q2).2 i4_46 ?_
  refine c_iconst hG i4_49 ?_
  refine c_istore_n (lv' := [(1, .inl 0), (0, .inr h0)]) hG i4_50 rfl (by decide) rfl ?_
  have key := c_fill (φ := φ) (mc := 16) (ms := 84) (ko := B) (ka := B + 8) (h0 := h0) (N := 6) (c0 := 3) (ci := 3) (ec := 1) (es := 5) (cl0 := 8) (sl0 := 48) (ks0 := (([B] ++ [B + 1]) ++ (List.range 6).flatMap (fun i => [B + 2 + i])) ++ [B + 8]) (fsO := (fs4.set 0 (.ref q1)).set 1 (.ref q2)) (ad0 := upC ad (B + 8) q2) (E0 := upC (upC E (B + 8) (.inl ((fG φ).2.2 (3 + 10), 6, .inr (.inr (.inr (.inr (fun _ => none))))))) B (.inr (4, (fs4.set 0 (.ref q1)).set 1 (.ref q2)))) (kE := fun c => B + 9 + c) (blk := fun c => [B + 9 + c]) (V := fun _ _ => .inr (3, fs3)) (p0 := 51) (p2 := 54) (px := 76) hG (by decide) (by decide) gmF_4_20 (by simp) (by simp) (by omega) (fun c _ => List.mem_cons_self) (fun c _ k hk z => by have := mem_B z; have := List.mem_singleton.mp hk; omega) (fun c c' _ _ k hk z => by rw [List.mem_singleton.mp hk] at z; have := List.mem_singleton.mp z; omega) (fun _ _ _ _ _ _ _ => rfl) (by decide) (by decide) rfl (by rw [upC_n (by omega), adB]) upC_s (by rw [upC_s]; rfl) ⟨by decide, by decide⟩ (fun _ _ _ _ _ _ _ k => c_bipush hG i4_52 (by decide) k) (fun c hc ks ad E cl sl lv st hst hk hr kk => el_leaf hG hC (by decide) cl_4_18 in_3 ii_3 fs3_ok C_seam (host := "GarmentMarker") (by decide +kernel) im_3 rfl ic_3 rfl iy_3 ⟨by decide, by decide⟩ i4_62 i4_65 i4_66 (B + 9 + c) ks ad E cl sl lv st hst hk hr kk) i4_51 i4_54 (by decide) i4_57 i4_58 i4_61 i4_69 i4_70 i4_73 (by decide) (fun ad2 E2 hI2 => ?_) 6 0 _ _ rfl ⟨fun _ _ => rfl, fun _ _ _ => rfl, by rw [upC_n (by omega), upC_s]; exact fill0, fun i hi => absurd hi (Nat.not_lt_zero i)⟩
  · rw [show List.range 0 = [] from rfl, List.flatMap_nil, List.append_nil] at key
    exact key
  obtain ⟨b1, b2, b3, b4⟩ := hI2
  have m0 : ∀ k, (B ≤ k ∧ k ≤ B + 8) → k ∈ (([B] ++ [B + 1]) ++ (List.range 6).flatMap (fun i => [B + 2 + i])) ++ [B + 8] := fun k hk => by
    simp only [List.mem_append, List.mem_flatMap, List.mem_range, List.mem_singleton]
    rcases (by omega : k = B ∨ k = B + 1 ∨ (B + 2 ≤ k ∧ k < B + 8) ∨ k = B + 8) with h | h | h | h
    · exact Or.inl (Or.inl (Or.inl h))
    · exact Or.inl (Or.inl (Or.inr h))
    · exact Or.inl (Or.inr ⟨k - (B + 2), by omega, by omega⟩)
    · exact Or.inr h
  have adB2 : ad2 B = h0 := (b1 B (m0 B (by omega))).trans ((upC_n (by omega)).trans adB)
  have adA2 : ad2 (B + 1) = q1 := (b1 (B + 1) (m0 _ (by omega))).trans ((upC_n (by omega)).trans adA)
  have adS2 : ad2 (B + 8) = q2 := (b1 (B + 8) (m0 _ (by omega))).trans upC_s
  have adP2 : ∀ i, i < 6 → ad2 (B + 2 + i) = ad (B + 2 + i) := fun i hi => (b1 _ (m0 _ (by omega))).trans (upC_n (by omega))
  have eB2 : E2 B = .inr (4, (fs4.set 0 (.ref q1)).set 1 (.ref q2)) := (b2 B (m0 _ (by omega)) (by omega)).trans upC_s
  have eA2 : E2 (B + 1) = .inl ((fG φ).2.2 (2 + 10), 6, .inr (.inr (.inr (.inr (fun i => if i < 6 then some (ad (B + 2 + i)) else none))))) := (b2 (B + 1) (m0 _ (by omega)) (by omega)).trans ((upC_n (by omega)).trans ((upC_n (by omega)).trans a3))
  have eP2 : ∀ i, i < 6 → E2 (B + 2 + i) = .inr (2, fs2) := fun i hi => (b2 _ (m0 _ (by omega)) (by omega)).trans ((upC_n (by omega)).trans ((upC_n (by omega)).trans (eP i hi)))
  have eS2 : ∀ i, i < 6 → E2 (B + 9 + i) = .inr (3, fs3) := fun i hi => b4 i hi _ List.mem_cons_self
  refine c_aload_n hG 1 i4_76 rfl rfl ?_
  refine c_iconst hG i4_77 ?_
  refine c_newa (atype := .int) (kn := B + 15) (c0 := 0) (N := 3) hG hC (by decide) rfl ac_0 (fun z => by have := mem_C z; omega) rfl (by decide) ⟨by decide, by decide⟩ i4_78 (fun q3 => ?_)
  refine c_putR (ko := B) (fs := (fs4.set 0 (.ref q1)).set 1 (.ref q2)) hG hI gmF_4_25 rfl rfl (by simp) (by rw [upC_n (by omega), adB2]) (by rw [upC_n (by omega), eB2]) (by simp [fs4]) (rf_4_3 q3).1 (rf_4_3 q3).2 i4_80 ?_
  refine c_aload_n hG 1 i4_83 rfl rfl ?_
  refine c_getR (ko := B) (q := q3) hG gmF_4_25 (by simp) (by rw [upC_n (by omega), adB2]) upC_s rfl i4_84 ?_
  refine c_iconst hG i4_87 ?_
  refine c_iconst hG i4_88 ?_
  refine c_iast (ka := B + 15) (N := 3) (t := 0) (f := fun _ => 0) hG (by simp) upC_s.symm (by rw [upC_n (by omega), upC_s]) rfl (by decide) (by decide) i4_89 ?_
  refine c_aload_n hG 1 i4_90 rfl rfl ?_
  refine c_iconst hG i4_91 ?_
  refine c_newa (atype := .int) (kn := B + 16) (c0 := 0) (N := 3) hG hC (by decide) rfl ac_0 (fun z => by have := mem_D z; omega) rfl (by decide) ⟨by decide, by decide⟩ i4_92 (fun q4 => ?_)
  refine c_putR (ko := B) (fs := ((fs4.set 0 (.ref q1)).set 1 (.ref q2)).set 3 (.ref q3)) hG hI gmF_4_29 rfl rfl (by simp) (by rw [upC_n (by omega), upC_n (by omega), adB2]) (by rw [upC_n (by omega), upC_n (by omega), upC_s]) (by simp [fs4]) (rf_4_4 q4).1 (rf_4_4 q4).2 i4_94 ?_
  refine c_aload_n hG 1 i4_97 rfl rfl ?_
  refine c_bipush hG i4_98 (by decide) ?_
  refine c_putI (ko := B) (fs := (((fs4.set 0 (.ref q1)).set 1 (.ref q2)).set 3 (.ref q3)).set 4 (.ref q4)) hG gmF_4_32 rfl (by simp) (by rw [upC_n (by omega), upC_n (by omega), adB2]) upC_s (by simp [fs4]) (nf_4_5 _).1 (nf_4_5 _).2 i4_100 ?_
  refine c_aload_n hG 1 i4_103 rfl rfl ?_
  refine c_iconst hG i4_104 ?_
  refine c_putI (ko := B) (fs := ((((fs4.set 0 (.ref q1)).set 1 (.ref q2)).set 3 (.ref q3)).set 4 (.ref q4)).set 5 (.int (Int32.ofInt 12))) hG gmF_4_36 rfl (by simp) (by rw [upC_n (by omega), upC_n (by omega), adB2]) upC_s (by simp [fs4]) (nf_4_8 _).1 (nf_4_8 _).2 i4_105 ?_
  refine c_aload_n hG 1 i4_108 rfl rfl ?_
  refine c_iconst hG i4_109 ?_
  refine c_putI (ko := B) (fs := (((((fs4.set 0 (.ref q1)).set 1 (.ref q2)).set 3 (.ref q3)).set 4 (.ref q4)).set 5 (.int (Int32.ofInt 12))).set 8 (.int (Int32.ofInt 0))) hG gmF_4_39 rfl (by simp) (by rw [upC_n (by omega), upC_n (by omega), adB2]) upC_s (by simp [fs4]) (nf_4_9 _).1 (nf_4_9 _).2 i4_110 ?_
  obtain ⟨k1, k2, k3, k4, k5, l1, l2, l3, l4, k6, k7⟩ := isB_k hB
  refine c_ret2 hF rfl (fun k hk => ?_) (by rw [upC_n (by omega), upC_n (by omega), adB2]) ⟨by decide, by decide⟩ i4_113
  have hk := ksS_mem.mp hk
  refine Eqv.to ?_
  have hcase : k = B ∨ k = B + 1 ∨ (∃ i, i < 6 ∧ k = B + 2 + i) ∨ k = B + 8 ∨ (∃ i, i < 6 ∧ k = B + 9 + i) ∨ k = B + 15 ∨ k = B + 16 := by
    rcases (by omega : k = B ∨ k = B + 1 ∨ (B + 2 ≤ k ∧ k < B + 8) ∨ k = B + 8 ∨ (B + 9 ≤ k ∧ k < B + 15) ∨ k = B + 15 ∨ k = B + 16) with h | h | h | h | h | h | h
    · exact Or.inl h
    · exact Or.inr (Or.inl h)
    · exact Or.inr (Or.inr (Or.inl ⟨k - (B + 2), by omega, by omega⟩))
    · exact Or.inr (Or.inr (Or.inr (Or.inl h)))
    · exact Or.inr (Or.inr (Or.inr (Or.inr (Or.inl ⟨k - (B + 9), by omega, by omega⟩))))
    · exact Or.inr (Or.inr (Or.inr (Or.inr (Or.inr (Or.inl h)))))
    · exact Or.inr (Or.inr (Or.inr (Or.inr (Or.inr (Or.inr h)))))
  rcases hcase with h | h | h | h | h | h | h
  · subst h
    refine Or.inl ?_
    rw [upC_s, E0_B hB]
    simp only [upC_n (show k + 1 ≠ k + 16 by omega), upC_n (show k + 1 ≠ k + 15 by omega), upC_n (show k + 8 ≠ k + 16 by omega), upC_n (show k + 8 ≠ k + 15 by omega), upC_n (show k + 15 ≠ k + 16 by omega), upC_s, adA2, adS2]
    rfl
  · subst h
    refine Or.inr ⟨(fG φ).2.2 12, 6, fun i => if i < 6 then some (ad (B + 2 + i)) else none, fun i => some ((upC (upC ad2 (B + 15) q3) (B + 16) q4) (gmTg (B + 1) i)), ?_, ?_, fun i hi => ?_⟩
    · rw [upC_n (by omega), upC_n (by omega), upC_n (by omega), upC_n (by omega), upC_n (by omega), upC_n (by omega), upC_n (by omega), upC_n (by omega), eA2]
    · rw [E0_q (c := 2) k2 (by decide), l1]
    · show (if i < 6 then some (ad (B + 2 + i)) else none) = some ((upC (upC ad2 (B + 15) q3) (B + 16) q4) (gmTg (B + 1) i))
      rw [if_pos hi, gmTg_B1 hB, upC_n (by omega), upC_n (by omega), show B + (2 + i) = B + 2 + i by omega, adP2 i hi]
  · obtain ⟨i, hi, rfl⟩ := h
    refine Or.inl ?_
    rw [E0_2 (k6 i hi) (isB_z hB (by omega)), upC_n (by omega), upC_n (by omega), upC_n (by omega), upC_n (by omega), upC_n (by omega), upC_n (by omega), upC_n (by omega), upC_n (by omega), eP2 i hi]
  · subst h
    refine Or.inr ⟨(fG φ).2.2 13, 6, fun i => if i < 6 then some (ad2 (B + 9 + i)) else none, fun i => some ((upC (upC ad2 (B + 15) q3) (B + 16) q4) (gmTg (B + 8) i)), ?_, ?_, fun i hi => ?_⟩
    · rw [upC_n (by omega), upC_n (by omega), upC_n (by omega), upC_n (by omega), upC_n (by omega), upC_n (by omega), upC_n (by omega), upC_n (by omega), b3]
    · rw [E0_q (c := 3) k3 (by decide), l2]
    · show (if i < 6 then some (ad2 (B + 9 + i)) else none) = some ((upC (upC ad2 (B + 15) q3) (B + 16) q4) (gmTg (B + 8) i))
      rw [if_pos hi, gmTg_B8 hB, upC_n (by omega), upC_n (by omega), show B + (9 + i) = B + 9 + i by omega]
  · obtain ⟨i, hi, rfl⟩ := h
    refine Or.inl ?_
    rw [E0_3 (k7 i hi) (isB_z hB (by omega)), upC_n (by omega), upC_n (by omega), upC_n (by omega), upC_n (by omega), upC_n (by omega), upC_n (by omega), upC_n (by omega), upC_n (by omega), eS2 i hi]
  · subst h
    refine Or.inl ?_
    rw [upC_n (by omega), upC_n (by omega), upC_n (by omega), upC_n (by omega), upC_n (by omega), upC_s]
    show _ = gmE ((fG φ).1, _, (fG φ).2.2) st0 (B + 15)
    rw [gmE_num (c := 0) k4 (by decide), l3]
    congr 4
    funext i
    rw [st0_ra hB]
    unfold upd
    by_cases h0 : i = 0
    · rw [if_pos h0, if_pos h0]
    · rw [if_neg h0, if_neg h0]; rfl
  · subst h
    refine Or.inl ?_
    rw [E0_num (c := 0) k5 (by decide) (isB_z hB (by omega)), l4, upC_n (by omega), upC_n (by omega), upC_n (by omega), upC_n (by omega), upC_s]

