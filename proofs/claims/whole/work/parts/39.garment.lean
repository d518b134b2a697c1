/-! CONSTRUCTORS: the class -/
theorem ksS_nd {B : Nat} (hB : isB B) : (ksS B).Nodup := by
  rcases hB with rfl | rfl | rfl <;> decide +kernel
theorem ksM_nd : ksM.Nodup := by
  have e : ksM = (List.range 78).map (fun i => 54 + i) := by decide +kernel
  rw [e]
  exact List.Pairwise.map (fun i => 54 + i) (fun a b (h : a ≠ b) (z : 54 + a = 54 + b) => h (by omega)) List.nodup_range
/-- an element that is a State -/
theorem el_state {φ : Fx} {cc : ByteArray} {nl fr lo mc ms : Nat} (hG : Good φ "GarmentMarker" cc nl fr lo) (hC : ConC φ mc ms) (hR : 3 ≤ fr ∧ 53 ≤ lo) {p : Nat} (d1 : decode cc p = .ok (.new 9, 3)) (d2 : decode cc (p + 3) = .ok (.dup, 1)) (d3 : decode cc (p + 4) = .ok (.invokespecial 11, 3)) {B : Nat} (hB : isB B) (ks : List Nat) (ad : Nat → Nat) (E : Nat → va_E) (cl sl : Nat) (lv : List (Nat × AV)) (st : List AV) (hst : st.length ≤ 2) (hk : ∀ k ∈ ksS B, k ∉ ks) (hr : cl + 17 ≤ mc ∧ sl + 94 ≤ ms)
    (kk : ∀ (ad' : Nat → Nat) (E' : Nat → va_E) (q : Nat), (∀ k ∈ ks, ad' k = ad k ∧ E' k = E k) → q = ad' B → (∀ k ∈ ksS B, E' k = E1 (fG φ) ad' k) → (∃ vs, E' B = .inr (4, vs)) → JC φ (ks ++ ksS B) ad' E' (cl + 17) (sl + 94) (p + 7) lv (.inr q :: st)) : JC φ ks ad E cl sl p lv st := by
  have hB0 : B ∈ ksS B := ksS_mem.mpr (by omega)
  have hk0 : B ∉ ks := hk B hB0
  refine c_new (kn := B) (fs := fs4) hG hC (by decide) cl_5_9 in_4 ii_4 hk0 fs4_ok ⟨by omega, by show sl + 10 ≤ ms; omega⟩ d1 (fun q => ?_)
  refine c_dup hG d2 ?_
  refine c_callI (kr := ks) (k0 := B) hG hC (C_state hB) ml_5_11 im_4 ii_4 ic_4 rfl iy_4 upC_s.symm upC_s (fun k hk2 z => hk k z hk2) (ksS_nd hB) ⟨by omega, by omega⟩ ⟨by omega, by show sl + 10 + 84 ≤ ms; omega⟩ (by show st.length + 1 ≤ 8; omega) d3 (fun ad1 h1 => ?_)
  refine kk _ _ q (fun k hk2 => ?_) ?_ (fun k hk2 => ?_) ?_
  · have hne : k ≠ B := fun z => hk0 (z ▸ hk2)
    have hnm : k ∉ ksS B := fun z => hk k z hk2
    exact ⟨by rw [mgC_0 hnm, upC_n hne], by rw [mgC_0 hnm, upC_n hne]⟩
  · rw [mgC_1 hB0, h1]
  · rw [mgC_1 hk2]
    exact (E1_blk (clo_S hB (ksS_mem.mp hk2)) (fun j a b => mgC_1 (ksS_mem.mpr ⟨a, b⟩))).symm
  · rw [mgC_1 hB0]
    show ∃ vs, trE (E0 (fG φ) ad1 B) = _
    rw [E0_B hB]
    exact ⟨_, rfl⟩
def ksG : List Nat := (((((([0] ++ ksS 1) ++ [52]) ++ (List.range 2).flatMap (fun c => ksS (18 + 17 * c))) ++ [53]) ++ ksM) ++ [132])
theorem E0_0 {G : GG} {ad : Nat → Nat} : E0 G ad 0 = .inr (5, [.ref (ad 1), .ref (ad 52), .ref (ad 53), .ref (ad 54), .ref (ad 132)]) := rfl
theorem isB_c {c : Nat} (h : c < 2) : isB (18 + 17 * c) := by unfold isB; omega
set_option maxRecDepth 4000 in
set_option maxHeartbeats 4000000 in
theorem C_garment : CtrC gmY5_init prog_1_method_1_code 2 3 53 132 1304 0 (.inr (5, fs5)) ksG E1 := by
  refine CtrC.of (own := "GarmentMarker") (by decide +kernel) rfl rfl (by decide) (fun φ h0 hG hC hI hF => ?_)
  refine c_aload_n hG 0 i5_0 rfl rfl ?_
  refine c_objInit hG oi_5_1 oi_2 oi_3 ⟨by decide, by decide⟩ i5_1 ?_
  refine c_aload_n hG 0 i5_4 rfl rfl ?_
  refine el_state hG hC ⟨by decide, by decide⟩ i5_5 i5_8 i5_9 (Or.inl rfl) [0] _ _ 0 0 _ _ (Nat.le_of_ble_eq_true rfl) (by decide +kernel) ⟨by decide, by decide⟩ (fun adn En q1 n1 n2 n3 _ => ?_)
  have m0 : (0 : Nat) ∈ ([0] : List Nat) := List.mem_cons_self
  refine c_putR (ko := 0) (fs := fs5) hG hI gmF_5_12 rfl rfl (List.mem_append_left _ m0) (n1 0 m0).1.symm (n1 0 m0).2 (by decide) (rf_5_0 q1).1 (rf_5_0 q1).2 i5_12 ?_
  refine c_aload_n hG 0 i5_15 rfl rfl ?_
  refine c_iconst hG i5_16 ?_
  refine c_newq (kn := 52) (c0 := 4) (ci := 4) (N := 2) hG hC (by decide) rfl (Or.inr (Or.inr (Or.inr rfl))) cl_5_9 (by decide +kernel) rfl (by decide) ⟨by decide, by decide⟩ i5_17 (fun q2 => ?_)
  refine c_putR (ko := 0) (fs := fs5.set 0 (.ref q1)) hG hI gmF_5_16 rfl rfl (List.mem_append_left _ (List.mem_append_left _ m0)) (by rw [upC_n (by omega)]; exact (n1 0 m0).1.symm) (by rw [upC_n (by omega), upC_s]) (by simp [fs5]) (rf_5_1 q2).1 (rf_5_1 q2).2 i5_20 ?_
  refine c_iconst hG i5_23 ?_
  refine c_istore_n (lv' := [(1, .inl 0), (0, .inr h0)]) hG i5_24 rfl (by decide) rfl ?_
  have key := c_fill (φ := φ) (mc := 132) (ms := 1304) (ko := 0) (ka := 52) (h0 := h0) (N := 2) (c0 := 4) (ci := 4) (ec := 17) (es := 94) (cl0 := 18) (sl0 := 96) (ks0 := ([0] ++ ksS 1) ++ [52]) (fsO := (fs5.set 0 (.ref q1)).set 1 (.ref q2)) (ad0 := upC adn 52 q2) (E0 := upC (upC (upC En 0 (.inr (5, fs5.set 0 (.ref q1)))) 52 (.inl ((fG φ).2.2 (4 + 10), 2, .inr (.inr (.inr (.inr (fun _ => none))))))) 0 (.inr (5, (fs5.set 0 (.ref q1)).set 1 (.ref q2)))) (kE := fun c => 18 + 17 * c) (blk := fun c => ksS (18 + 17 * c)) (V := fun ad k => E1 (fG φ) ad k) (p0 := 25) (p2 := 27) (px := 49) hG (by decide) (by decide) gmF_5_16 (by decide +kernel) (by decide +kernel) (by omega) (fun c _ => ksS_mem.mpr (by omega)) (by decide +kernel) (fun c c' hc hc' k hk z => by have := ksS_mem.mp hk; have := ksS_mem.mp z; omega) (fun c hc ad ad' h k hk => E1_blk (clo_S (isB_c hc) (ksS_mem.mp hk)) (fun j a b => h j (ksS_mem.mpr ⟨a, b⟩))) (by decide) (by decide) rfl (by rw [upC_n (by omega)]; exact (n1 0 m0).1) upC_s (by rw [upC_s]; rfl) ⟨by decide, by decide⟩ (fun _ _ _ _ _ _ _ k => c_iconst hG i5_26 k) (fun c hc ks ad E cl sl lv st hst hk hr kk => el_state hG hC ⟨by decide, by decide⟩ i5_35 i5_38 i5_39 (isB_c hc) ks ad E cl sl lv st hst hk hr kk) i5_25 i5_27 (by decide) i5_30 i5_31 i5_34 i5_42 i5_43 i5_46 (by decide) (fun ad E hI1 => ?_) 2 0 _ _ rfl ⟨fun _ _ => rfl, fun _ _ _ => rfl, by rw [upC_n (by omega), upC_s]; exact fill0, fun i hi => absurd hi (Nat.not_lt_zero i)⟩
  · rw [show List.range 0 = [] from rfl, List.flatMap_nil, List.append_nil] at key
    exact key
  obtain ⟨a1, a2, a3, a4⟩ := hI1
  have mS : ∀ k, (1 ≤ k ∧ k ≤ 17) → k ∈ ([0] ++ ksS 1) ++ [52] := fun k hk => List.mem_append_left _ (List.mem_append_right _ (ksS_mem.mpr hk))
  have m0' : (0 : Nat) ∈ ([0] ++ ksS 1) ++ [52] := by decide +kernel
  have adB : ad 0 = h0 := (a1 0 m0').trans ((upC_n (by omega)).trans (n1 0 m0).1)
  have adN : ∀ k, (1 ≤ k ∧ k ≤ 17) → ad k = adn k := fun k hk => (a1 k (mS k hk)).trans (upC_n (by omega))
  have adQ : ad 52 = q2 := (a1 52 (by decide +kernel)).trans upC_s
  have eB : E 0 = .inr (5, (fs5.set 0 (.ref q1)).set 1 (.ref q2)) := (a2 0 m0' (by omega)).trans upC_s
  have eN : ∀ k, (1 ≤ k ∧ k ≤ 17) → E k = E1 (fG φ) adn k := fun k hk => (a2 k (mS k hk) (by omega)).trans ((upC_n (by omega)).trans ((upC_n (by omega)).trans ((upC_n (by omega)).trans (n3 k (ksS_mem.mpr hk)))))
  refine c_aload_n hG 1 i5_49 rfl rfl ?_
  refine c_iconst hG i5_50 ?_
  refine c_newa (atype := .boolean) (kn := 53) (c0 := 1) (N := 2) hG hC (by decide) rfl ac_1 (by decide +kernel) rfl (by decide) ⟨by decide, by decide⟩ i5_51 (fun q3 => ?_)
  refine c_putR (ko := 0) (fs := (fs5.set 0 (.ref q1)).set 1 (.ref q2)) hG hI gmF_5_20 rfl rfl (by decide +kernel) (by rw [upC_n (by omega), adB]) (by rw [upC_n (by omega), eB]) (by simp [fs5]) (rf_5_2 q3).1 (rf_5_2 q3).2 i5_53 ?_
  refine c_aload_n hG 1 i5_56 rfl rfl ?_
  refine c_new (kn := 54) (ci := 0) (fs := fs0) hG hC (by decide) cl_5_24 in_0 ii_0 (by decide +kernel) fs0_ok ⟨by decide, by decide⟩ i5_57 (fun q4 => ?_)
  refine c_dup hG i5_60 ?_
  refine c_callI (k0 := 54) hG hC C_marker ml_5_26 im_0 ii_0 ic_0 rfl iy_0 upC_s.symm upC_s (by decide +kernel) ksM_nd ⟨by decide, by decide⟩ ⟨by decide, by decide⟩ (Nat.le_of_ble_eq_true rfl) i5_61 (fun adm hm => ?_)
  refine c_putR (ko := 0) (fs := ((fs5.set 0 (.ref q1)).set 1 (.ref q2)).set 2 (.ref q3)) hG hI gmF_5_27 rfl rfl (by decide +kernel) (by rw [mgC_0 (by decide +kernel), upC_n (by omega), upC_n (by omega), adB]) (by rw [mgC_0 (by decide +kernel), upC_n (by omega), upC_s]) (by simp [fs5]) (rf_5_3 q4).1 (rf_5_3 q4).2 i5_64 ?_
  refine c_aload_n hG 1 i5_67 rfl rfl ?_
  refine c_iconst hG i5_68 ?_
  refine c_newa (atype := .int) (kn := 132) (c0 := 0) (N := 3) hG hC (by decide) rfl ac_0 (by decide +kernel) rfl (by decide) ⟨by decide, by decide⟩ i5_69 (fun q5 => ?_)
  refine c_putR (ko := 0) (fs := (((fs5.set 0 (.ref q1)).set 1 (.ref q2)).set 2 (.ref q3)).set 3 (.ref q4)) hG hI gmF_5_31 rfl rfl (by decide +kernel) (by rw [upC_n (by omega), mgC_0 (by decide +kernel), upC_n (by omega), upC_n (by omega), adB]) (by rw [upC_n (by omega), upC_s]) (by simp [fs5]) (rf_5_4 q5).1 (rf_5_4 q5).2 i5_71 ?_
  refine c_ret2 hF rfl (fun k hk => ?_) (by rw [upC_n (by omega), mgC_0 (by decide +kernel), upC_n (by omega), upC_n (by omega), adB]) ⟨by decide, by decide⟩ i5_74
  have hAd : ∀ k, (k < 53) → upC (mgC ksM adm (upC (upC ad 53 q3) 54 q4)) 132 q5 k = ad k := fun k hk => by
    rw [upC_n (by omega), mgC_0 (fun z => by have := ksM_le z; omega), upC_n (by omega), upC_n (by omega)]
  have hAdM : ∀ k, (54 ≤ k ∧ k ≤ 131) → upC (mgC ksM adm (upC (upC ad 53 q3) 54 q4)) 132 q5 k = adm k := fun k hk => by
    rw [upC_n (by omega), mgC_1 (ksM_in hk)]
  have hAd53 : upC (mgC ksM adm (upC (upC ad 53 q3) 54 q4)) 132 q5 53 = q3 := by
    rw [upC_n (by omega), mgC_0 (fun z => by have := ksM_le z; omega), upC_n (by omega), upC_s]
  generalize hAdF : upC (mgC ksM adm (upC (upC ad 53 q3) 54 q4)) 132 q5 = adF at hAd hAdM hAd53
  have hAd132 : adF 132 = q5 := by rw [← hAdF, upC_s]
  have hks : k = 0 ∨ (1 ≤ k ∧ k ≤ 17) ∨ k = 52 ∨ (∃ c, c < 2 ∧ k ∈ ksS (18 + 17 * c)) ∨ k = 53 ∨ (54 ≤ k ∧ k ≤ 131) ∨ k = 132 := by
    unfold ksG at hk
    rcases List.mem_append.mp hk with hk | hk
    · rcases List.mem_append.mp hk with hk | hk
      · rcases List.mem_append.mp hk with hk | hk
        · rcases List.mem_append.mp hk with hk | hk
          · rcases List.mem_append.mp hk with hk | hk
            · rcases List.mem_append.mp hk with hk | hk
              · exact Or.inl (List.mem_singleton.mp hk)
              · exact Or.inr (Or.inl (ksS_mem.mp hk))
            · exact Or.inr (Or.inr (Or.inl (List.mem_singleton.mp hk)))
          · obtain ⟨c, h1, h2⟩ := List.mem_flatMap.mp hk
            exact Or.inr (Or.inr (Or.inr (Or.inl ⟨c, List.mem_range.mp h1, h2⟩)))
        · exact Or.inr (Or.inr (Or.inr (Or.inr (Or.inl (List.mem_singleton.mp hk)))))
      · exact Or.inr (Or.inr (Or.inr (Or.inr (Or.inr (Or.inl (ksM_le hk))))))
    · exact Or.inr (Or.inr (Or.inr (Or.inr (Or.inr (Or.inr (List.mem_singleton.mp hk))))))
  have low : ∀ {x : va_E} {y : va_E} {z : va_E} {u : va_E} {j : Nat}, 0 < j → j < 53 → upC (upC (upC (mgC ksM (E1 (fG φ) adm) (upC (upC (upC E 53 x) 0 y) 54 (.inr (0, fs0)))) 0 z) 132 u) 0 (.inr (5, ((((fs5.set 0 (.ref q1)).set 1 (.ref q2)).set 2 (.ref q3)).set 3 (.ref q4)).set 4 (.ref q5))) j = E j := fun h1 h2 => by
    rw [upC_n (by omega), upC_n (by omega), upC_n (by omega), mgC_0 (fun z => by have := ksM_le z; omega), upC_n (by omega), upC_n (by omega), upC_n (by omega)]
  rcases hks with rfl | hk | rfl | ⟨c, hc, hk⟩ | rfl | hk | rfl
  · refine Eqv.to (Or.inl ?_)
    rw [upC_s, E0_0, hAd 1 (by omega), hAd 52 (by omega), hAd53, hAdM 54 (by omega), hAd132, adN 1 (by omega), adQ, ← n2, hm]
    rfl
  · refine Or.inl ?_
    rw [low (by omega) (by omega), eN k hk]
    exact (E1_blk (clo_1 k hk.1 hk.2) (fun j a b => by rw [hAd j (by omega), adN j ⟨a, b⟩])).symm
  · refine Eqv.to (Or.inr ⟨(fG φ).2.2 14, 2, fun i => if i < 2 then some (ad (18 + 17 * i)) else none, fun i => some (adF (gmTg 52 i)), ?_, ?_, fun i hi => ?_⟩)
    · rw [low (by omega) (by omega), a3]
    · rw [E0_q (c := 4) rfl (by decide)]
      rfl
    · show (if i < 2 then some (ad (18 + 17 * i)) else none) = some (adF (gmTg 52 i))
      rw [if_pos hi, gmTg_52, hAd _ (by omega)]
  · have hk2 := ksS_mem.mp hk
    refine Or.inl ?_
    rw [low (by omega) (by omega), a4 c hc k hk]
    exact (E1_blk (clo_S (isB_c hc) hk2) (fun j a b => hAd j (by omega))).symm
  · refine Eqv.to (Or.inl ?_)
    rw [E0_num (c := 1) rfl (by decide) (st0_z (by omega)), upC_n (by omega), upC_n (by omega), upC_n (by omega), mgC_0 (fun z => by have := ksM_le z; omega), upC_n (by omega), upC_n (by omega), upC_s]
    rfl
  · refine Or.inl ?_
    rw [upC_n (by omega), upC_n (by omega), upC_n (by omega), mgC_1 (ksM_in hk)]
    exact (E1_blk (clo_54 k hk.1 hk.2) (fun j a b => hAdM j ⟨a, b⟩)).symm
  · refine Eqv.to (Or.inl ?_)
    rw [E0_num (c := 0) rfl (by decide) (st0_z (by omega)), upC_n (by omega), upC_s]
    rfl
