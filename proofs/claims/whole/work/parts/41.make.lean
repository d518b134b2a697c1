/-! THE LAW'S START: both objects are made -/
theorem ksG_nd : ksG.Nodup := by decide +kernel
theorem ksR_nd : ksR.Nodup := by decide +kernel
theorem ksG_in : ∀ k, k < 133 → k ∈ ksG := by decide +kernel
theorem ksG_lt : ∀ k ∈ ksG, k < 133 := by decide +kernel
set_option maxRecDepth 4000 in
set_option maxHeartbeats 4000000 in
theorem st_con {φ : Fx} {b : Nat} (hG : Good φ "GarmentMarkerLaw" code 4 10 229) (hC : ConC φ 160 4000) (kk : ∀ (ks : List Nat) (ad : Nat → Nat) (E : Nat → va_E), (∀ k, k < 150 → k ∈ ks) → (∀ k, k < 150 → E k = E1 (fG φ) ad k) → JC φ ks ad E 150 3763 18 [(3, .inl 0), (2, .inr (ad 133)), (1, .inr (ad 0)), (0, .inr b)] []) : JC φ [] (fun _ => 0) (fun _ => .inr (0, [])) 0 0 0 [(0, .inr b)] [] := by
  refine c_new (kn := 0) (ci := 5) (fs := fs5) hG hC (by decide) cl_L_7 in_5 ii_5 List.not_mem_nil fs5_ok ⟨by decide, by decide⟩ d_l_law_0 (fun q1 => ?_)
  refine c_dup hG d_l_law_3 ?_
  refine c_callI (kr := []) (k0 := 0) hG hC C_garment ml_L_9 im_5 ii_5 ic_5 rfl iy_5 upC_s.symm upC_s (fun k hk => absurd hk List.not_mem_nil) ksG_nd ⟨by decide, by decide⟩ ⟨by decide, by decide⟩ (Nat.le_of_ble_eq_true rfl) d_l_law_4 (fun adn hn => ?_)
  refine c_astore_n (i := 1) (lv' := [(1, .inr q1), (0, .inr b)]) hG d_l_law_7 rfl (by decide) rfl ?_
  refine c_new (kn := 133) (ci := 6) (fs := fs6) hG hC (by decide) cl_L_10 in_6 ii_6 (fun z => absurd (ksG_lt 133 z) (by decide)) fs6_ok ⟨by decide, by decide⟩ d_l_law_8 (fun q2 => ?_)
  refine c_dup hG d_l_law_11 ?_
  refine c_callI (kr := [] ++ ksG) (k0 := 133) hG hC C_model ml_L_12 im_6 ii_6 ic_6 rfl iy_6 upC_s.symm upC_s (fun k hk z => by have := ksG_lt k hk; have := ksR_mem.mp z; omega) ksR_nd ⟨by decide, by decide⟩ ⟨by decide, by decide⟩ (Nat.le_of_ble_eq_true rfl) d_l_law_12 (fun adm hm => ?_)
  refine c_astore_n (i := 2) (lv' := [(2, .inr q2), (1, .inr q1), (0, .inr b)]) hG d_l_law_15 rfl (by decide) rfl ?_
  refine c_iconst hG d_l_law_16 ?_
  refine c_istore_n (i := 3) (lv' := [(3, .inl 0), (2, .inr q2), (1, .inr q1), (0, .inr b)]) hG d_l_law_17 rfl (by decide) rfl ?_
  have lo : ∀ {α : Type} (f g : Nat → α) (h : Nat → α) (x : α) (k : Nat), k < 133 → mgC ksR f (upC (mgC ksG g h) 133 x) k = g k := fun f g h x k hk => by
    rw [mgC_0 (fun z => by have := ksR_mem.mp z; omega), upC_n (by omega), mgC_1 (ksG_in k hk)]
  have hi : ∀ {α : Type} (f g : Nat → α) (k : Nat), (133 ≤ k ∧ k ≤ 149) → mgC ksR f g k = f k := fun f g k hk => mgC_1 (ksR_mem.mpr hk)
  have key := kk (([] ++ ksG) ++ ksR) (mgC ksR adm (upC (mgC ksG adn (upC (fun _ => 0) 0 q1)) 133 q2)) (mgC ksR (E1 (fG φ) adm) (upC (mgC ksG (E1 (fG φ) adn) (upC (fun _ => .inr (0, [])) 0 (.inr (5, fs5)))) 133 (.inr (6, fs6)))) (fun k hk => ?_) (fun k hk => ?_)
  · rw [lo adm adn _ _ 0 (by omega), hi adm _ 133 (by omega), hn, hm] at key
    exact key
  · by_cases h : k < 133
    · exact List.mem_append_left _ (ksG_in k h)
    · exact List.mem_append_right _ (ksR_mem.mpr (by omega))
  · by_cases h : k < 133
    · rw [lo _ (E1 (fG φ) adn) _ _ k h]
      exact (E1_blk (clo_lo k h) (fun j _ hj => lo adm adn _ _ j (by omega))).symm
    · rw [hi _ _ k (by omega)]
      exact (E1_blk (clo_hi k hk (by omega)) (fun j h1 h2 => hi adm _ j ⟨h1, h2⟩)).symm
