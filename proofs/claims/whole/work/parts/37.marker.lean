/-! CONSTRUCTORS: what a block's contents depend on; Marker; the reference -/
theorem E1_loc {G : GG} {ad ad' : Nat → Nat} {k : Nat} (h1 : gmKd k < 7 → ∀ i, i < (gmC (gmKd k)).2.2 → ∀ t, gmFr k i = some t → ad' t = ad t) (h2 : 12 ≤ gmKd k → ∀ i, i < gmLn k → ad' (gmTg k i) = ad (gmTg k i)) : E1 G ad' k = E1 G ad k := by
  show trE (gmE (G.1, ad', G.2.2) st0 k) = trE (gmE (G.1, ad, G.2.2) st0 k)
  unfold gmE
  by_cases a : gmKd k < 7
  · rw [if_pos a, if_pos a]
    show (Sum.inr _ : va_E) = Sum.inr _
    congr 2
    refine List.map_congr_left (fun i hi => ?_)
    have hi := List.mem_range.mp hi
    unfold gmFv
    cases hf : gmFr k i with
    | none => rfl
    | some t => show Value.ref (ad' t) = Value.ref (ad t); rw [h1 a i hi t hf]
  · rw [if_neg a, if_neg a]
    by_cases b : gmKd k < 12
    · rw [if_pos b, if_pos b]
    · rw [if_neg b, if_neg b]
      show (Sum.inl _ : va_E) = Sum.inl _
      congr 7
      funext i
      by_cases hi : i < gmLn k
      · rw [if_pos hi, if_pos hi]
        show some (ad' (gmTg k i)) = some (ad (gmTg k i))
        rw [h2 (by omega) i hi]
      · rw [if_neg hi, if_neg hi]
def clo (lo hi k : Nat) : Bool := (List.range 23).all (fun i => match gmFr k i with | some t => decide (lo ≤ t ∧ t ≤ hi) | none => true) && (decide (gmKd k < 12) || (List.range (gmLn k)).all (fun i => decide (lo ≤ gmTg k i ∧ gmTg k i ≤ hi)))
theorem gmC_23 : ∀ c, c < 7 → (gmC c).2.2 ≤ 23 := by decide +kernel
theorem E1_blk {G : GG} {ad ad' : Nat → Nat} {lo hi k : Nat} (hc : clo lo hi k = true) (h : ∀ j, lo ≤ j → j ≤ hi → ad' j = ad j) : E1 G ad' k = E1 G ad k := by
  unfold clo at hc
  rw [Bool.and_eq_true] at hc
  refine E1_loc (fun a i hi2 t ht => ?_) (fun a i hi2 => ?_)
  · have h3 := List.all_eq_true.mp hc.1 i (List.mem_range.mpr (Nat.lt_of_lt_of_le hi2 (gmC_23 _ a)))
    rw [ht] at h3
    have := of_decide_eq_true h3
    exact h t this.1 this.2
  · have h3 := hc.2
    rw [Bool.or_eq_true] at h3
    rcases h3 with h3 | h3
    · exact absurd (of_decide_eq_true h3) (by omega)
    · have := of_decide_eq_true (List.all_eq_true.mp h3 i (List.mem_range.mpr hi2))
      exact h _ this.1 this.2
theorem clo_1 : ∀ k, 1 ≤ k → k ≤ 17 → clo 1 17 k = true := by
  have : ∀ k, k < 18 → 1 ≤ k → clo 1 17 k = true := by decide +kernel
  exact fun k a b => this k (by omega) a
theorem clo_18 : ∀ k, 18 ≤ k → k ≤ 34 → clo 18 34 k = true := by
  have : ∀ k, k < 35 → 18 ≤ k → clo 18 34 k = true := by decide +kernel
  exact fun k a b => this k (by omega) a
theorem clo_35 : ∀ k, 35 ≤ k → k ≤ 51 → clo 35 51 k = true := by
  have : ∀ k, k < 52 → 35 ≤ k → clo 35 51 k = true := by decide +kernel
  exact fun k a b => this k (by omega) a
theorem clo_54 : ∀ k, 54 ≤ k → k ≤ 131 → clo 54 131 k = true := by
  have : ∀ k, k < 132 → 54 ≤ k → clo 54 131 k = true := by decide +kernel
  exact fun k a b => this k (by omega) a
theorem clo_S {B : Nat} (hB : isB B) {k : Nat} (h : B ≤ k ∧ k ≤ B + 16) : clo B (B + 16) k = true := by
  rcases hB with rfl | rfl | rfl
  · exact clo_1 k h.1 h.2
  · exact clo_18 k h.1 h.2
  · exact clo_35 k h.1 h.2
def ksM : List Nat := ((((([54] ++ [55]) ++ (List.range 72).flatMap (fun i => [56 + i])) ++ [128]) ++ [129]) ++ [130]) ++ [131]
theorem mem_P {k : Nat} (h : k ∈ ([54] ++ [55]) ++ (List.range 72).flatMap (fun i => [56 + i])) : 54 ≤ k ∧ k ≤ 127 := by
  simp only [List.mem_append, List.mem_flatMap, List.mem_range, List.mem_singleton] at h
  rcases h with (h | h) | ⟨i, h1, h⟩ <;> omega
theorem mem_Q {l : List Nat} {a b k : Nat} (hl : ∀ j ∈ l, a ≤ j ∧ j ≤ b) (h : k ∈ l ++ [b + 1]) (hab : a ≤ b) : a ≤ k ∧ k ≤ b + 1 := by
  rcases List.mem_append.mp h with h | h
  · have := hl k h
    omega
  · have := List.mem_singleton.mp h
    omega
theorem mem_P1 {k : Nat} (h : k ∈ (([54] ++ [55]) ++ (List.range 72).flatMap (fun i => [56 + i])) ++ [128]) : 54 ≤ k ∧ k ≤ 128 := mem_Q (fun _ z => mem_P z) h (by decide)
theorem mem_P2 {k : Nat} (h : k ∈ ((([54] ++ [55]) ++ (List.range 72).flatMap (fun i => [56 + i])) ++ [128]) ++ [129]) : 54 ≤ k ∧ k ≤ 129 := mem_Q (fun _ z => mem_P1 z) h (by decide)
theorem mem_P3 {k : Nat} (h : k ∈ (((([54] ++ [55]) ++ (List.range 72).flatMap (fun i => [56 + i])) ++ [128]) ++ [129]) ++ [130]) : 54 ≤ k ∧ k ≤ 130 := mem_Q (fun _ z => mem_P2 z) h (by decide)
theorem ksM_le {k : Nat} (h : k ∈ ksM) : 54 ≤ k ∧ k ≤ 131 := mem_Q (fun _ z => mem_P3 z) h (by decide)
theorem ksM_in {k : Nat} (h : 54 ≤ k ∧ k ≤ 131) : k ∈ ksM := by
  unfold ksM
  simp only [List.mem_append, List.mem_flatMap, List.mem_range, List.mem_singleton]
  rcases (by omega : k = 54 ∨ k = 55 ∨ (56 ≤ k ∧ k < 128) ∨ k = 128 ∨ k = 129 ∨ k = 130 ∨ k = 131) with h | h | h | h | h | h | h
  · exact Or.inl (Or.inl (Or.inl (Or.inl (Or.inl (Or.inl h)))))
  · exact Or.inl (Or.inl (Or.inl (Or.inl (Or.inl (Or.inr h)))))
  · exact Or.inl (Or.inl (Or.inl (Or.inl (Or.inr ⟨k - 56, by omega, by omega⟩))))
  · exact Or.inl (Or.inl (Or.inl (Or.inr h)))
  · exact Or.inl (Or.inl (Or.inr h))
  · exact Or.inl (Or.inr h)
  · exact Or.inr h
theorem kd_P : ∀ i, i < 72 → gmKd (56 + i) = 1 := by decide +kernel
theorem E0_54 {G : GG} {ad : Nat → Nat} : E0 G ad 54 = .inr (0, [.ref (ad 55), .int 0, .int 0, .ref (ad 128), .ref (ad 129), .ref (ad 130), .ref (ad 131)]) := rfl
set_option maxHeartbeats 4000000 in
theorem C_marker : CtrC gmY0_init prog_2_method_1_code 2 2 32 77 1008 54 (.inr (0, fs0)) ksM E1 := by
  refine CtrC.of (own := "GarmentMarker$Marker") (by decide +kernel) rfl rfl (by decide) (fun φ h0 hG hC hI hF => ?_)
  refine c_aload_n hG 0 i0_0 rfl rfl ?_
  refine c_objInit hG oi_0_1 oi_2 oi_3 ⟨by decide, by decide⟩ i0_1 ?_
  refine c_aload_n hG 0 i0_4 rfl rfl ?_
  refine c_bipush hG i0_5 (by decide) ?_
  refine c_newq (kn := 55) (c0 := 5) (ci := 1) (N := 72) hG hC (by decide) rfl (Or.inl rfl) cl_0_9 (by simp) rfl (by decide) ⟨by decide, by decide⟩ i0_7 (fun q1 => ?_)
  refine c_putR (ko := 54) (fs := fs0) hG hI gmF_0_11 rfl rfl (by simp) (by rw [upC_n (by omega)]) (by rw [upC_n (by omega)]) (by decide) (rf_0_0 q1).1 (rf_0_0 q1).2 i0_10 ?_
  refine c_iconst hG i0_13 ?_
  refine c_istore_n (lv' := [(1, .inl 0), (0, .inr h0)]) hG i0_14 rfl (by decide) rfl ?_
  have key := c_fill (φ := φ) (mc := 77) (ms := 1008) (ko := 54) (ka := 55) (h0 := h0) (N := 72) (c0 := 5) (ci := 1) (ec := 1) (es := 9) (cl0 := 1) (sl0 := 72) (ks0 := [54] ++ [55]) (fsO := fs0.set 0 (.ref q1)) (ad0 := upC (fun _ => h0) 55 q1) (E0 := upC (upC (fun _ => (.inr (0, fs0) : va_E)) 55 (.inl ((fG φ).2.2 (5 + 10), 72, .inr (.inr (.inr (.inr (fun _ => none))))))) 54 (.inr (0, fs0.set 0 (.ref q1)))) (kE := fun c => 56 + c) (blk := fun c => [56 + c]) (V := fun _ _ => .inr (1, fs1)) (p0 := 15) (p2 := 18) (px := 40) hG (by decide) (by decide) gmF_0_11 (by simp) (by simp) (by omega) (fun c _ => List.mem_cons_self) (fun c _ k hk => by rw [List.mem_singleton.mp hk]; simp; omega) (fun c c' _ _ k hk z => by rw [List.mem_singleton.mp hk] at z; have := List.mem_singleton.mp z; omega) (fun _ _ _ _ _ _ _ => rfl) (by decide) (by decide) rfl (upC_n (by omega)) upC_s (by rw [upC_s]; rfl) ⟨by decide, by decide⟩ (fun _ _ _ _ _ _ _ k => c_bipush hG i0_16 (by decide) k) (fun c hc ks ad E cl sl lv st hst hk hr kk => el_leaf hG hC (by decide) cl_0_9 in_1 ii_1 fs1_ok C_part (host := "GarmentMarker") (by decide +kernel) im_1 rfl ic_1 rfl iy_1 ⟨by decide, by decide⟩ i0_26 i0_29 i0_30 (56 + c) ks ad E cl sl lv st hst hk hr kk) i0_15 i0_18 (by decide) i0_21 i0_22 i0_25 i0_33 i0_34 i0_37 (by decide) (fun ad E hI1 => ?_) 72 0 _ _ rfl ⟨fun _ _ => rfl, fun _ _ _ => rfl, by rw [upC_n (by omega), upC_s]; exact fill0, fun i hi => absurd hi (Nat.not_lt_zero i)⟩
  · rw [show List.range 0 = [] from rfl, List.flatMap_nil, List.append_nil] at key
    exact key
  obtain ⟨a1, a2, a3, a4⟩ := hI1
  have adB : ad 54 = h0 := (a1 54 (by simp)).trans (upC_n (by omega))
  have adA : ad 55 = q1 := (a1 55 (by simp)).trans upC_s
  have eB : E 54 = .inr (0, fs0.set 0 (.ref q1)) := (a2 54 (by simp) (by omega)).trans upC_s
  have eP : ∀ i, i < 72 → E (56 + i) = .inr (1, fs1) := fun i hi => a4 i hi _ List.mem_cons_self

  refine c_aload_n hG 1 i0_40 rfl rfl ?_
  refine c_bipush hG i0_41 (by decide) ?_
  refine c_newa (atype := .int) (kn := 128) (c0 := 0) (N := 72) hG hC (by decide) rfl ac_0 (fun z => by have := mem_P z; omega) rfl (by decide) ⟨by decide, by decide⟩ i0_43 (fun q128 => ?_)
  refine c_putR (ko := 54) (fs := (fs0.set 0 (.ref q1))) hG hI gmF_0_18 rfl rfl (by simp) (by rw [upC_n (by omega), adB]) (by rw [upC_n (by omega), eB]) (by simp [fs0]) (rf_0_3 q128).1 (rf_0_3 q128).2 i0_45 ?_
  refine c_aload_n hG 1 i0_48 rfl rfl ?_
  refine c_bipush hG i0_49 (by decide) ?_
  refine c_newa (atype := .int) (kn := 129) (c0 := 0) (N := 72) hG hC (by decide) rfl ac_0 (fun z => by have := mem_P1 z; omega) rfl (by decide) ⟨by decide, by decide⟩ i0_51 (fun q129 => ?_)
  refine c_putR (ko := 54) (fs := ((fs0.set 0 (.ref q1)).set 3 (.ref q128))) hG hI gmF_0_22 rfl rfl (by simp) (by rw [upC_n (by omega), upC_n (by omega), adB]) (by rw [upC_n (by omega), upC_s]) (by simp [fs0]) (rf_0_4 q129).1 (rf_0_4 q129).2 i0_53 ?_
  refine c_aload_n hG 1 i0_56 rfl rfl ?_
  refine c_bipush hG i0_57 (by decide) ?_
  refine c_newa (atype := .int) (kn := 130) (c0 := 0) (N := 72) hG hC (by decide) rfl ac_0 (fun z => by have := mem_P2 z; omega) rfl (by decide) ⟨by decide, by decide⟩ i0_59 (fun q130 => ?_)
  refine c_putR (ko := 54) (fs := (((fs0.set 0 (.ref q1)).set 3 (.ref q128)).set 4 (.ref q129))) hG hI gmF_0_25 rfl rfl (by simp) (by rw [upC_n (by omega), upC_n (by omega), upC_n (by omega), adB]) (by rw [upC_n (by omega), upC_s]) (by simp [fs0]) (rf_0_5 q130).1 (rf_0_5 q130).2 i0_61 ?_
  refine c_aload_n hG 1 i0_64 rfl rfl ?_
  refine c_bipush hG i0_65 (by decide) ?_
  refine c_newa (atype := .int) (kn := 131) (c0 := 0) (N := 72) hG hC (by decide) rfl ac_0 (fun z => by have := mem_P3 z; omega) rfl (by decide) ⟨by decide, by decide⟩ i0_67 (fun q131 => ?_)
  refine c_putR (ko := 54) (fs := ((((fs0.set 0 (.ref q1)).set 3 (.ref q128)).set 4 (.ref q129)).set 5 (.ref q130))) hG hI gmF_0_28 rfl rfl (by simp) (by rw [upC_n (by omega), upC_n (by omega), upC_n (by omega), upC_n (by omega), adB]) (by rw [upC_n (by omega), upC_s]) (by simp [fs0]) (rf_0_6 q131).1 (rf_0_6 q131).2 i0_69 ?_
  refine c_ret2 hF rfl (fun k hk => ?_) (by rw [upC_n (by omega), upC_n (by omega), upC_n (by omega), upC_n (by omega), adB]) ⟨by decide, by decide⟩ i0_72
  have hk := ksM_le hk
  refine Eqv.to ?_
  have hcase : k = 54 ∨ k = 55 ∨ (∃ i, i < 72 ∧ k = 56 + i) ∨ k = 128 ∨ k = 129 ∨ k = 130 ∨ k = 131 := by
    rcases (by omega : k = 54 ∨ k = 55 ∨ (56 ≤ k ∧ k < 128) ∨ k = 128 ∨ k = 129 ∨ k = 130 ∨ k = 131) with h | h | h | h
    · exact Or.inl h
    · exact Or.inr (Or.inl h)
    · exact Or.inr (Or.inr (Or.inl ⟨k - 56, by omega, by omega⟩))
    · exact Or.inr (Or.inr (Or.inr h))
  rcases hcase with rfl | rfl | ⟨i, hi, rfl⟩ | rfl | rfl | rfl | rfl
  · refine Or.inl ?_
    rw [upC_s, E0_54]
    rw [upC_n (show 55 ≠ 131 by omega), upC_n (show 55 ≠ 130 by omega), upC_n (show 55 ≠ 129 by omega), upC_n (show 55 ≠ 128 by omega), adA]
    rfl
  · refine Or.inr ⟨(fG φ).2.2 15, 72, fun i => if i < 72 then some (ad (56 + i)) else none, fun i => some ((upC (upC (upC (upC ad 128 q128) 129 q129) 130 q130) 131 q131) (gmTg 55 i)), ?_, ?_, fun i hi => ?_⟩
    · rw [upC_n (by omega), upC_n (by omega), upC_n (by omega), upC_n (by omega), upC_n (by omega), upC_n (by omega), upC_n (by omega), upC_n (by omega), a3]
    · rw [E0_q (c := 5) rfl (by decide)]
      rfl
    · show (if i < 72 then some (ad (56 + i)) else none) = some ((upC (upC (upC (upC ad 128 q128) 129 q129) 130 q130) 131 q131) (gmTg 55 i))
      rw [if_pos hi, gmTg_55, upC_n (by omega), upC_n (by omega), upC_n (by omega), upC_n (by omega)]
  · refine Or.inl ?_
    rw [E0_1 (kd_P i hi) (st0_z (by omega)), upC_n (by omega), upC_n (by omega), upC_n (by omega), upC_n (by omega), upC_n (by omega), upC_n (by omega), upC_n (by omega), upC_n (by omega), eP i hi]
  · refine Or.inl ?_
    rw [E0_num (c := 0) rfl (by decide) (st0_z (by omega)), upC_n (by omega), upC_n (by omega), upC_n (by omega), upC_n (by omega), upC_n (by omega), upC_n (by omega), upC_n (by omega), upC_s]
    rfl
  · refine Or.inl ?_
    rw [E0_num (c := 0) rfl (by decide) (st0_z (by omega)), upC_n (by omega), upC_n (by omega), upC_n (by omega), upC_n (by omega), upC_n (by omega), upC_s]
    rfl
  · refine Or.inl ?_
    rw [E0_num (c := 0) rfl (by decide) (st0_z (by omega)), upC_n (by omega), upC_n (by omega), upC_n (by omega), upC_s]
    rfl
  · refine Or.inl ?_
    rw [E0_num (c := 0) rfl (by decide) (st0_z (by omega)), upC_n (by omega), upC_s]
    rfl
