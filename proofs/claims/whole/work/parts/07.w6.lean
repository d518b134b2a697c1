def Fm_clothLength (σ : St) : Option (Int × St) := gmB (Fm_clothNow σ) (fun r2 s1 => some (r2, s1))
set_option maxRecDepth 100000 in
set_option maxHeartbeats 4000000 in
theorem Wm_clothLength {σ : St} {rv : Int} {rs : St} (h : Fm_clothLength σ = some (rv, rs)) : Ctr gmY6_clothLength prog_8_method_62_code 1 (some .int) 7 165 [.inr 133] σ (some rv) rs := by
  refine Ctr.ofI (own := "GarmentMarkerModel") (by decide +kernel) rfl (Nat.le_of_ble_eq_true rfl) (fun φ hG hF => ?_)
  unfold Fm_clothLength at h
  refine gm_lv (l2 := [(0, .inr 133)]) rfl ?_
  refine gm_ok (fun hO => ?_)
  refine gm_aload_n hG 0 d_m_clothLength_0 rfl rfl ?_
  obtain ⟨r2, s1, es1, h⟩ := gmB_of h
  refine gm_callVi hG [] [] gmM_6_165 (Wm_clothNow es1) gmKc_133 rfl (by decide) (Nat.le_of_ble_eq_true rfl) rfl d_m_clothLength_1 (fun qr2 => ?_)
  refine gm_ok (fun hOs1 => ?_)
  exact gm_iret' hF h qr2 d_m_clothLength_4
def Fm_surplusNow_9 : Nat → Int → Int → Int → St → (Int → St → Option (Int × St)) → Option (Int × St)
  | 0, _, _, _, _, _ => none
  | n + 1, y1, y2, y3, σ, k => if 3 ≤ y3 then k y2 σ else gmG (0 ≤ (67 + y3) ∧ (67 + y3) < 78) (gmG (0 ≤ (75 + y3) ∧ (75 + y3) < 78) (gmL ((y2 + ((y1 * (σ 134 ((67 + y3)).toNat)) - (σ 134 ((75 + y3)).toNat))) : Int) (fun x6 => gmG (gmR x6) (gmG (gmR (y3 + 1)) (Fm_surplusNow_9 n y1 x6 (y3 + 1) σ k)))))
def Fm_surplusNow (σ : St) : Option (Int × St) := gmB (Fm_pliesNow σ) (fun r2 s1 => Fm_surplusNow_9 gmN r2 0 0 s1 (fun x9 s10 => some ((if 0 ≤ r2 then x9 else (-1008)), s10)))
set_option maxRecDepth 100000 in
set_option maxHeartbeats 4000000 in
theorem Wm_surplusNow_9 {φ : Fx} {rv : Int} {rs : St} (hG : Good φ "GarmentMarkerModel" prog_8_method_63_code 4 1 25) (hF : FinI φ prog_8_method_63_code rv rs) : ∀ (n : Nat) {y1 : Int} {y2 : Int} {y3 : Int} {σ : St} {k : Int → St → Option (Int × St)}, gmR y1 → gmR y2 → gmR y3 → Fm_surplusNow_9 n y1 y2 y3 σ k = some (rv, rs) → (∀ {z2 : Int} {τ : St}, gmR z2 → k z2 τ = some (rv, rs) → J φ τ 44 [(1, .inl y1), (2, .inl z2)] []) → J φ σ 9 [(0, .inr 133), (1, .inl y1), (2, .inl y2), (3, .inl y3)] [] := by
  intro n
  induction n with
  | zero =>
    intro _ _ _ _ _ _ _ _ h
    exact absurd h (by rw [Fm_surplusNow_9.eq_1]; exact fun q => by cases q)
  | succ n ih =>
    intro y1 y2 y3 σ k r1 r2 r3 h hk
    rw [Fm_surplusNow_9.eq_2] at h
    refine gm_ok (fun hO => ?_)
    refine gm_iload_n hG 3 d_m_surplusNow_9 rfl rfl ?_
    refine gm_iconst hG d_m_surplusNow_10 ?_
    refine gm_icmp_ge (tgt := 44) hG d_m_surplusNow_11 (by decide) r3 (by decide) (fun c3 => ?_) (fun c3 => ?_)
    · replace h := gmI_pos c3 h
      refine gm_sub [1, 2] rfl ?_
      exact hk r2 h
    · replace h := gmI_neg c3 h
      refine gm_iload_n hG 2 d_m_surplusNow_14 rfl rfl ?_
      refine gm_iload_n hG 1 d_m_surplusNow_15 rfl rfl ?_
      refine gm_aload_n hG 0 d_m_surplusNow_16 rfl rfl ?_
      refine gm_getR (t := 134) hG gmF_6_7 gmKc_133 rfl d_m_surplusNow_17 ?_
      refine gm_bipush hG d_m_surplusNow_20 (by decide) ?_
      refine gm_iload_n hG 3 d_m_surplusNow_22 rfl rfl ?_
      refine gm_iadd hG d_m_surplusNow_23 ?_
      obtain ⟨g4, h⟩ := gmG_of h
      refine gm_iald (t := ((67 + y3)).toNat) hG gmKc_134 gmLc_134 g4 rfl d_m_surplusNow_24 (fun _ => ?_)
      refine gm_imul hG d_m_surplusNow_25 ?_
      refine gm_aload_n hG 0 d_m_surplusNow_26 rfl rfl ?_
      refine gm_getR (t := 134) hG gmF_6_7 gmKc_133 rfl d_m_surplusNow_27 ?_
      refine gm_bipush hG d_m_surplusNow_30 (by decide) ?_
      refine gm_iload_n hG 3 d_m_surplusNow_32 rfl rfl ?_
      refine gm_iadd hG d_m_surplusNow_33 ?_
      obtain ⟨g5, h⟩ := gmG_of h
      refine gm_iald (t := ((75 + y3)).toNat) hG gmKc_134 gmLc_134 g5 rfl d_m_surplusNow_34 (fun _ => ?_)
      refine gm_isub hG d_m_surplusNow_35 ?_
      refine gm_iadd hG d_m_surplusNow_36 ?_
      obtain ⟨x6, ex6, h⟩ := gmL_of h
      refine gm_top ex6 ?_
      refine gm_istore_n (lv' := [(2, .inl x6), (0, .inr 133), (1, .inl y1), (3, .inl y3)]) hG d_m_surplusNow_37 rfl (by decide) rfl ?_
      refine gm_iinc (lv' := [(3, .inl (y3 + 1)), (2, .inl x6), (0, .inr 133), (1, .inl y1)]) hG 3 d_m_surplusNow_38 rfl (by decide) rfl ?_
      refine gm_goto (tgt := 9) hG d_m_surplusNow_41 (by decide) ?_
      obtain ⟨g7, h⟩ := gmG_of h
      obtain ⟨g8, h⟩ := gmG_of h
      refine gm_sub [2, 3, 1, 0] rfl ?_
      exact ih r1 g7 g8 h hk
set_option maxRecDepth 100000 in
set_option maxHeartbeats 4000000 in
theorem Wm_surplusNow {σ : St} {rv : Int} {rs : St} (h : Fm_surplusNow σ = some (rv, rs)) : Ctr gmY6_surplusNow prog_8_method_63_code 4 (some .int) 1 25 [.inr 133] σ (some rv) rs := by
  refine Ctr.ofI (own := "GarmentMarkerModel") (by decide +kernel) rfl (Nat.le_of_ble_eq_true rfl) (fun φ hG hF => ?_)
  unfold Fm_surplusNow at h
  refine gm_lv (l2 := [(0, .inr 133)]) rfl ?_
  refine gm_ok (fun hO => ?_)
  refine gm_aload_n hG 0 d_m_surplusNow_0 rfl rfl ?_
  obtain ⟨r2, s1, es1, h⟩ := gmB_of h
  refine gm_callVi hG [] [] gmM_6_162 (Wm_pliesNow es1) gmKc_133 rfl (by decide) (Nat.le_of_ble_eq_true rfl) rfl d_m_surplusNow_1 (fun qr2 => ?_)
  refine gm_ok (fun hOs1 => ?_)
  refine gm_istore_n (lv' := [(1, .inl r2), (0, .inr 133)]) hG d_m_surplusNow_4 rfl (by decide) rfl ?_
  refine gm_iconst hG d_m_surplusNow_5 ?_
  refine gm_istore_n (lv' := [(2, .inl 0), (1, .inl r2), (0, .inr 133)]) hG d_m_surplusNow_6 rfl (by decide) rfl ?_
  refine gm_iconst hG d_m_surplusNow_7 ?_
  refine gm_istore_n (lv' := [(3, .inl 0), (2, .inl 0), (1, .inl r2), (0, .inr 133)]) hG d_m_surplusNow_8 rfl (by decide) rfl ?_
  refine gm_sub [3, 2, 1, 0] rfl ?_
  refine Wm_surplusNow_9 hG hF gmN qr2 (by decide) (by decide) h (fun {x9} {s10} qx9 h => ?_)
  refine gm_ok (fun hOs10 => ?_)
  refine gm_iload_n hG 0 d_m_surplusNow_44 rfl rfl ?_
  suffices hj : J φ s10 55 [(1, .inl r2), (2, .inl x9)] [.inl (if 0 ≤ r2 then x9 else (-1008))] by
    refine gm_if_ge (tgt := 54) hG d_m_surplusNow_45 (by decide) qr2 (fun c11 => ?_) (fun c11 => ?_)
    · replace hj := gmJ_pos c11 hj
      refine gm_iload_n hG 1 d_m_surplusNow_54 rfl rfl ?_
      exact hj
    · replace hj := gmJ_neg c11 hj
      refine gm_sipush hG d_m_surplusNow_48 (by decide) ?_
      refine gm_goto (tgt := 55) hG d_m_surplusNow_51 (by decide) ?_
      exact hj
  exact gm_iret' hF h (gmR_ite (fun c11 => qx9) (fun c11 => (by decide))) d_m_surplusNow_55
def Fm_surplus (σ : St) : Option (Int × St) := gmB (Fm_surplusNow σ) (fun r2 s1 => some (r2, s1))
set_option maxRecDepth 100000 in
set_option maxHeartbeats 4000000 in
theorem Wm_surplus {σ : St} {rv : Int} {rs : St} (h : Fm_surplus σ = some (rv, rs)) : Ctr gmY6_surplus prog_8_method_64_code 1 (some .int) 2 48 [.inr 133] σ (some rv) rs := by
  refine Ctr.ofI (own := "GarmentMarkerModel") (by decide +kernel) rfl (Nat.le_of_ble_eq_true rfl) (fun φ hG hF => ?_)
  unfold Fm_surplus at h
  refine gm_lv (l2 := [(0, .inr 133)]) rfl ?_
  refine gm_ok (fun hO => ?_)
  refine gm_aload_n hG 0 d_m_surplus_0 rfl rfl ?_
  obtain ⟨r2, s1, es1, h⟩ := gmB_of h
  refine gm_callVi hG [] [] gmM_6_168 (Wm_surplusNow es1) gmKc_133 rfl (by decide) (Nat.le_of_ble_eq_true rfl) rfl d_m_surplus_1 (fun qr2 => ?_)
  refine gm_ok (fun hOs1 => ?_)
  exact gm_iret' hF h qr2 d_m_surplus_4
def Fm_setMix (a0 : Int) (σ : St) : Option St := gmG (0 ≤ a0 ∧ a0 < 2147483648) (gmL (gmUp σ 134 67 (a0 / 100)) (fun s2 => gmG (0 ≤ (a0 / 10) ∧ (a0 / 10) < 2147483648) (gmL (gmUp s2 134 68 ((a0 / 10) % 10)) (fun s4 => gmL (gmUp s4 134 69 (a0 % 10)) (fun s5 => some s5)))))
set_option maxRecDepth 100000 in
set_option maxHeartbeats 4000000 in
theorem Wm_setMix {a0 : Int} {σ : St} {rs : St} (ra0 : gmR a0) (h : Fm_setMix a0 σ = some rs) : Ctr gmY6_setMix prog_8_method_65_code 2 none 0 0 [.inr 133, .inl a0] σ none rs := by
  refine Ctr.ofV (own := "GarmentMarkerModel") (by decide +kernel) rfl (Nat.le_of_ble_eq_true rfl) (fun φ hG hF => ?_)
  unfold Fm_setMix at h
  refine gm_lv (l2 := [(0, .inr 133), (1, .inl a0)]) rfl ?_
  refine gm_ok (fun hO => ?_)
  refine gm_aload_n hG 0 d_m_setMix_0 rfl rfl ?_
  refine gm_getR (t := 134) hG gmF_6_7 gmKc_133 rfl d_m_setMix_1 ?_
  refine gm_bipush hG d_m_setMix_4 (by decide) ?_
  refine gm_iload_n hG 1 d_m_setMix_6 rfl rfl ?_
  refine gm_bipush hG d_m_setMix_7 (by decide) ?_
  obtain ⟨g1, h⟩ := gmG_of h
  refine gm_idiv hG d_m_setMix_9 g1 (by decide) (fun _ => ?_)
  obtain ⟨s2, es2, h⟩ := gmL_of h
  refine gm_iast (t := 67) hG gmKc_134 gmLc_134 (by decide) rfl (gm_kdiv g1 (by decide)) es2 d_m_setMix_10 ?_
  refine gm_ok (fun hOs2 => ?_)
  refine gm_aload_n hG 0 d_m_setMix_11 rfl rfl ?_
  refine gm_getR (t := 134) hG gmF_6_7 gmKc_133 rfl d_m_setMix_12 ?_
  refine gm_bipush hG d_m_setMix_15 (by decide) ?_
  refine gm_iload_n hG 1 d_m_setMix_17 rfl rfl ?_
  refine gm_bipush hG d_m_setMix_18 (by decide) ?_
  refine gm_idiv hG d_m_setMix_20 g1 (by decide) (fun _ => ?_)
  refine gm_bipush hG d_m_setMix_21 (by decide) ?_
  obtain ⟨g3, h⟩ := gmG_of h
  refine gm_irem hG d_m_setMix_23 g3 (by decide) (fun _ => ?_)
  obtain ⟨s4, es4, h⟩ := gmL_of h
  refine gm_iast (t := 68) hG gmKc_134 gmLc_134 (by decide) rfl (gm_krem (x := (a0 / 10)) (by decide)) es4 d_m_setMix_24 ?_
  refine gm_ok (fun hOs4 => ?_)
  refine gm_aload_n hG 0 d_m_setMix_25 rfl rfl ?_
  refine gm_getR (t := 134) hG gmF_6_7 gmKc_133 rfl d_m_setMix_26 ?_
  refine gm_bipush hG d_m_setMix_29 (by decide) ?_
  refine gm_iload_n hG 1 d_m_setMix_31 rfl rfl ?_
  refine gm_bipush hG d_m_setMix_32 (by decide) ?_
  refine gm_irem hG d_m_setMix_34 g1 (by decide) (fun _ => ?_)
  obtain ⟨s5, es5, h⟩ := gmL_of h
  refine gm_iast (t := 69) hG gmKc_134 gmLc_134 (by decide) rfl (gm_krem (x := a0) (by decide)) es5 d_m_setMix_35 ?_
  refine gm_ok (fun hOs5 => ?_)
  exact gm_vret' hF h d_m_setMix_36
def Fm_tryMix (a0 : Int) (σ : St) : Option St := gmBv (Fm_setMix a0 σ) (fun s1 => gmB (Fm_clothNow s1) (fun r3 s2 => if r3 < 0 then some s2 else gmG (gmR ((s2 133 19) + 1)) (gmL (gmUp s2 133 19 ((s2 133 19) + 1)) (fun s6 => gmB (Fm_surplusNow s6) (fun r8 s7 => if (s7 133 20) < 0 then gmL (gmUp s7 133 20 a0) (fun s10 => gmL (gmUp s10 133 21 r3) (fun s11 => gmL (gmUp s11 133 22 r8) (fun s12 => some s12))) else if r3 < (s7 133 21) then gmL (gmUp s7 133 20 a0) (fun s14 => gmL (gmUp s14 133 21 r3) (fun s15 => gmL (gmUp s15 133 22 r8) (fun s16 => some s16))) else if r3 = (s7 133 21) then if (s7 133 22) ≤ r8 then some s7 else gmL (gmUp s7 133 20 a0) (fun s19 => gmL (gmUp s19 133 21 r3) (fun s20 => gmL (gmUp s20 133 22 r8) (fun s21 => some s21))) else some s7)))))
set_option maxRecDepth 100000 in
set_option maxHeartbeats 4000000 in
theorem Wm_tryMix {a0 : Int} {σ : St} {rs : St} (ra0 : gmR a0) (h : Fm_tryMix a0 σ = some rs) : Ctr gmY6_tryMix prog_8_method_66_code 4 none 7 165 [.inr 133, .inl a0] σ none rs := by
  refine Ctr.ofV (own := "GarmentMarkerModel") (by decide +kernel) rfl (Nat.le_of_ble_eq_true rfl) (fun φ hG hF => ?_)
  unfold Fm_tryMix at h
  refine gm_lv (l2 := [(0, .inr 133), (1, .inl a0)]) rfl ?_
  refine gm_ok (fun hO => ?_)
  refine gm_aload_n hG 0 d_m_tryMix_0 rfl rfl ?_
  refine gm_iload_n hG 1 d_m_tryMix_1 rfl rfl ?_
  obtain ⟨s1, es1, h⟩ := gmBv_of h
  refine gm_callVv hG [.inl a0] [] gmM_6_171 (Wm_setMix ra0 es1) gmKc_133 rfl (by decide) (Nat.le_of_ble_eq_true rfl) rfl d_m_tryMix_2 ?_
  refine gm_ok (fun hOs1 => ?_)
  refine gm_aload_n hG 0 d_m_tryMix_5 rfl rfl ?_
  obtain ⟨r3, s2, es2, h⟩ := gmB_of h
  refine gm_callVi hG [] [] gmM_6_165 (Wm_clothNow es2) gmKc_133 rfl (by decide) (Nat.le_of_ble_eq_true rfl) rfl d_m_tryMix_6 (fun qr3 => ?_)
  refine gm_ok (fun hOs2 => ?_)
  refine gm_istore_n (lv' := [(2, .inl r3), (0, .inr 133), (1, .inl a0)]) hG d_m_tryMix_9 rfl (by decide) rfl ?_
  refine gm_iload_n hG 0 d_m_tryMix_10 rfl rfl ?_
  refine gm_if_lt (tgt := 75) hG d_m_tryMix_11 (by decide) qr3 (fun c4 => ?_) (fun c4 => ?_)
  · replace h := gmI_pos c4 h
    exact gm_vret' hF h d_m_tryMix_75
  · replace h := gmI_neg c4 h
    refine gm_aload_n hG 1 d_m_tryMix_14 rfl rfl ?_
    refine gm_dup hG d_m_tryMix_15 ?_
    refine gm_getI hG gmF_6_174 gmKc_133 rfl d_m_tryMix_16 (fun _ => ?_)
    refine gm_iconst hG d_m_tryMix_19 ?_
    refine gm_iadd hG d_m_tryMix_20 ?_
    obtain ⟨g5, h⟩ := gmG_of h
    obtain ⟨s6, es6, h⟩ := gmL_of h
    refine gm_putI hG gmF_6_174 gmKc_133 rfl rfl (by decide +kernel) g5 es6 d_m_tryMix_21 ?_
    refine gm_ok (fun hOs6 => ?_)
    refine gm_aload_n hG 1 d_m_tryMix_24 rfl rfl ?_
    obtain ⟨r8, s7, es7, h⟩ := gmB_of h
    refine gm_callVi hG [] [] gmM_6_168 (Wm_surplusNow es7) gmKc_133 rfl (by decide) (Nat.le_of_ble_eq_true rfl) rfl d_m_tryMix_25 (fun qr8 => ?_)
    refine gm_ok (fun hOs7 => ?_)
    refine gm_istore_n (lv' := [(3, .inl r8), (2, .inl r3), (0, .inr 133), (1, .inl a0)]) hG d_m_tryMix_28 rfl (by decide) rfl ?_
    refine gm_aload_n hG 2 d_m_tryMix_29 rfl rfl ?_
    refine gm_getI hG gmF_6_177 gmKc_133 rfl d_m_tryMix_30 (fun _ => ?_)
    refine gm_if_lt (tgt := 60) hG d_m_tryMix_33 (by decide) (hOs7 133 20) (fun c9 => ?_) (fun c9 => ?_)
    · replace h := gmI_pos c9 h
      refine gm_aload_n hG 2 d_m_tryMix_60 rfl rfl ?_
      refine gm_iload_n hG 3 d_m_tryMix_61 rfl rfl ?_
      obtain ⟨s10, es10, h⟩ := gmL_of h
      refine gm_putI hG gmF_6_177 gmKc_133 rfl rfl (by decide +kernel) ra0 es10 d_m_tryMix_62 ?_
      refine gm_ok (fun hOs10 => ?_)
      refine gm_aload_n hG 2 d_m_tryMix_65 rfl rfl ?_
      refine gm_iload_n hG 1 d_m_tryMix_66 rfl rfl ?_
      obtain ⟨s11, es11, h⟩ := gmL_of h
      refine gm_putI hG gmF_6_180 gmKc_133 rfl rfl (by decide +kernel) qr3 es11 d_m_tryMix_67 ?_
      refine gm_ok (fun hOs11 => ?_)
      refine gm_aload_n hG 2 d_m_tryMix_70 rfl rfl ?_
      refine gm_iload_n hG 0 d_m_tryMix_71 rfl rfl ?_
      obtain ⟨s12, es12, h⟩ := gmL_of h
      refine gm_putI hG gmF_6_183 gmKc_133 rfl rfl (by decide +kernel) qr8 es12 d_m_tryMix_72 ?_
      refine gm_ok (fun hOs12 => ?_)
      exact gm_vret' hF h d_m_tryMix_75
    · replace h := gmI_neg c9 h
      refine gm_iload_n hG 1 d_m_tryMix_36 rfl rfl ?_
      refine gm_aload_n hG 2 d_m_tryMix_37 rfl rfl ?_
      refine gm_getI hG gmF_6_180 gmKc_133 rfl d_m_tryMix_38 (fun _ => ?_)
      refine gm_icmp_lt (tgt := 60) hG d_m_tryMix_41 (by decide) qr3 (hOs7 133 21) (fun c13 => ?_) (fun c13 => ?_)
      · replace h := gmI_pos c13 h
        refine gm_aload_n hG 2 d_m_tryMix_60 rfl rfl ?_
        refine gm_iload_n hG 3 d_m_tryMix_61 rfl rfl ?_
        obtain ⟨s14, es14, h⟩ := gmL_of h
        refine gm_putI hG gmF_6_177 gmKc_133 rfl rfl (by decide +kernel) ra0 es14 d_m_tryMix_62 ?_
        refine gm_ok (fun hOs14 => ?_)
        refine gm_aload_n hG 2 d_m_tryMix_65 rfl rfl ?_
        refine gm_iload_n hG 1 d_m_tryMix_66 rfl rfl ?_
        obtain ⟨s15, es15, h⟩ := gmL_of h
        refine gm_putI hG gmF_6_180 gmKc_133 rfl rfl (by decide +kernel) qr3 es15 d_m_tryMix_67 ?_
        refine gm_ok (fun hOs15 => ?_)
        refine gm_aload_n hG 2 d_m_tryMix_70 rfl rfl ?_
        refine gm_iload_n hG 0 d_m_tryMix_71 rfl rfl ?_
        obtain ⟨s16, es16, h⟩ := gmL_of h
        refine gm_putI hG gmF_6_183 gmKc_133 rfl rfl (by decide +kernel) qr8 es16 d_m_tryMix_72 ?_
        refine gm_ok (fun hOs16 => ?_)
        exact gm_vret' hF h d_m_tryMix_75
      · replace h := gmI_neg c13 h
        refine gm_iload_n hG 1 d_m_tryMix_44 rfl rfl ?_
        refine gm_aload_n hG 2 d_m_tryMix_45 rfl rfl ?_
        refine gm_getI hG gmF_6_180 gmKc_133 rfl d_m_tryMix_46 (fun _ => ?_)
        refine gm_icmp_ne (tgt := 75) hG d_m_tryMix_49 (by decide) qr3 (hOs7 133 21) (fun c17 => ?_) (fun c17 => ?_)
        · replace h := gmI_neg c17 h
          exact gm_vret' hF h d_m_tryMix_75
        · replace h := gmI_pos c17 h
          refine gm_iload_n hG 0 d_m_tryMix_52 rfl rfl ?_
          refine gm_aload_n hG 2 d_m_tryMix_53 rfl rfl ?_
          refine gm_getI hG gmF_6_183 gmKc_133 rfl d_m_tryMix_54 (fun _ => ?_)
          refine gm_icmp_ge (tgt := 75) hG d_m_tryMix_57 (by decide) qr8 (hOs7 133 22) (fun c18 => ?_) (fun c18 => ?_)
          · replace h := gmI_pos c18 h
            exact gm_vret' hF h d_m_tryMix_75
          · replace h := gmI_neg c18 h
            refine gm_aload_n hG 2 d_m_tryMix_60 rfl rfl ?_
            refine gm_iload_n hG 3 d_m_tryMix_61 rfl rfl ?_
            obtain ⟨s19, es19, h⟩ := gmL_of h
            refine gm_putI hG gmF_6_177 gmKc_133 rfl rfl (by decide +kernel) ra0 es19 d_m_tryMix_62 ?_
            refine gm_ok (fun hOs19 => ?_)
            refine gm_aload_n hG 2 d_m_tryMix_65 rfl rfl ?_
            refine gm_iload_n hG 1 d_m_tryMix_66 rfl rfl ?_
            obtain ⟨s20, es20, h⟩ := gmL_of h
            refine gm_putI hG gmF_6_180 gmKc_133 rfl rfl (by decide +kernel) qr3 es20 d_m_tryMix_67 ?_
            refine gm_ok (fun hOs20 => ?_)
            refine gm_aload_n hG 2 d_m_tryMix_70 rfl rfl ?_
            refine gm_iload_n hG 0 d_m_tryMix_71 rfl rfl ?_
            obtain ⟨s21, es21, h⟩ := gmL_of h
            refine gm_putI hG gmF_6_183 gmKc_133 rfl rfl (by decide +kernel) qr8 es21 d_m_tryMix_72 ?_
            refine gm_ok (fun hOs21 => ?_)
            exact gm_vret' hF h d_m_tryMix_75
def Fm_findMix_2 : Nat → Int → St → (St → Option St) → Option St
  | 0, _, _, _ => none
  | n + 1, y1, σ, k => if 3 ≤ y1 then k σ else gmG (0 ≤ (67 + y1) ∧ (67 + y1) < 78) (gmG (0 ≤ y1 ∧ y1 < 3) (gmL (gmUp σ 149 (y1).toNat (σ 134 ((67 + y1)).toNat)) (fun s4 => gmG (gmR (y1 + 1)) (Fm_findMix_2 n (y1 + 1) s4 k))))
def Fm_findMix_49 : Nat → Int → St → (St → Option St) → Option St
  | 0, _, _, _ => none
  | n + 1, y1, σ, k => if 27 ≤ y1 then k σ else gmG (0 ≤ y1 ∧ y1 < 2147483648) (gmG (0 ≤ (y1 / 3) ∧ (y1 / 3) < 2147483648) (gmG (gmR (((100 * (y1 / 9)) + (10 * ((y1 / 3) % 3))) + (y1 % 3))) (gmBv (Fm_tryMix (((100 * (y1 / 9)) + (10 * ((y1 / 3) % 3))) + (y1 % 3)) σ) (fun s14 => gmG (gmR (y1 + 1)) (Fm_findMix_49 n (y1 + 1) s14 k)))))
def Fm_findMix_87 : Nat → Int → St → (St → Option St) → Option St
  | 0, _, _, _ => none
  | n + 1, y1, σ, k => if 3 ≤ y1 then k σ else gmG (0 ≤ y1 ∧ y1 < 3) (gmG (0 ≤ (67 + y1) ∧ (67 + y1) < 78) (gmL (gmUp σ 134 ((67 + y1)).toNat (σ 149 (y1).toNat)) (fun s20 => gmG (gmR (y1 + 1)) (Fm_findMix_87 n (y1 + 1) s20 k))))
def Fm_findMix (σ : St) : Option St := Fm_findMix_2 gmN 0 σ (fun s6 => gmL (gmUp s6 133 19 0) (fun s7 => gmL (gmUp s7 133 20 (-1009)) (fun s8 => gmL (gmUp s8 133 21 (-1009)) (fun s9 => Fm_findMix_49 gmN 1 s9 (fun s16 => Fm_findMix_87 gmN 0 s16 (fun s22 => some s22))))))
set_option maxRecDepth 100000 in
set_option maxHeartbeats 4000000 in
theorem Wm_findMix_2 {φ : Fx} {rs : St} (hG : Good φ "GarmentMarkerModel" prog_8_method_67_code 2 8 188) (hF : FinV φ prog_8_method_67_code rs) : ∀ (n : Nat) {y1 : Int} {σ : St} {k : St → Option St}, gmR y1 → Fm_findMix_2 n y1 σ k = some rs → (∀ {τ : St}, k τ = some rs → J φ τ 28 [(0, .inr 133)] []) → J φ σ 2 [(0, .inr 133), (1, .inl y1)] [] := by
  intro n
  induction n with
  | zero =>
    intro _ _ _ _ h
    exact absurd h (by rw [Fm_findMix_2.eq_1]; exact fun q => by cases q)
  | succ n ih =>
    intro y1 σ k r1 h hk
    rw [Fm_findMix_2.eq_2] at h
    refine gm_ok (fun hO => ?_)
    refine gm_iload_n hG 1 d_m_findMix_2 rfl rfl ?_
    refine gm_iconst hG d_m_findMix_3 ?_
    refine gm_icmp_ge (tgt := 28) hG d_m_findMix_4 (by decide) r1 (by decide) (fun c1 => ?_) (fun c1 => ?_)
    · replace h := gmI_pos c1 h
      refine gm_sub [0] rfl ?_
      exact hk h
    · replace h := gmI_neg c1 h
      refine gm_aload_n hG 0 d_m_findMix_7 rfl rfl ?_
      refine gm_getR (t := 149) hG gmF_6_56 gmKc_133 rfl d_m_findMix_8 ?_
      refine gm_iload_n hG 1 d_m_findMix_11 rfl rfl ?_
      refine gm_aload_n hG 0 d_m_findMix_12 rfl rfl ?_
      refine gm_getR (t := 134) hG gmF_6_7 gmKc_133 rfl d_m_findMix_13 ?_
      refine gm_bipush hG d_m_findMix_16 (by decide) ?_
      refine gm_iload_n hG 1 d_m_findMix_18 rfl rfl ?_
      refine gm_iadd hG d_m_findMix_19 ?_
      obtain ⟨g2, h⟩ := gmG_of h
      refine gm_iald (t := ((67 + y1)).toNat) hG gmKc_134 gmLc_134 g2 rfl d_m_findMix_20 (fun _ => ?_)
      obtain ⟨g3, h⟩ := gmG_of h
      obtain ⟨s4, es4, h⟩ := gmL_of h
      refine gm_iast (t := (y1).toNat) hG gmKc_149 gmLc_149 g3 rfl (hO 134 ((67 + y1)).toNat) es4 d_m_findMix_21 ?_
      refine gm_ok (fun hOs4 => ?_)
      refine gm_iinc (lv' := [(1, .inl (y1 + 1)), (0, .inr 133)]) hG 1 d_m_findMix_22 rfl (by decide) rfl ?_
      refine gm_goto (tgt := 2) hG d_m_findMix_25 (by decide) ?_
      obtain ⟨g5, h⟩ := gmG_of h
      refine gm_sub [1, 0] rfl ?_
      exact ih g5 h hk
set_option maxRecDepth 100000 in
set_option maxHeartbeats 4000000 in
theorem Wm_findMix_49 {φ : Fx} {rs : St} (hG : Good φ "GarmentMarkerModel" prog_8_method_67_code 2 8 188) (hF : FinV φ prog_8_method_67_code rs) : ∀ (n : Nat) {y1 : Int} {σ : St} {k : St → Option St}, gmR y1 → Fm_findMix_49 n y1 σ k = some rs → (∀ {τ : St}, k τ = some rs → J φ τ 85 [(0, .inr 133)] []) → J φ σ 49 [(0, .inr 133), (1, .inl y1)] [] := by
  intro n
  induction n with
  | zero =>
    intro _ _ _ _ h
    exact absurd h (by rw [Fm_findMix_49.eq_1]; exact fun q => by cases q)
  | succ n ih =>
    intro y1 σ k r1 h hk
    rw [Fm_findMix_49.eq_2] at h
    refine gm_ok (fun hO => ?_)
    refine gm_iload_n hG 1 d_m_findMix_49 rfl rfl ?_
    refine gm_bipush hG d_m_findMix_50 (by decide) ?_
    refine gm_icmp_ge (tgt := 85) hG d_m_findMix_52 (by decide) r1 (by decide) (fun c10 => ?_) (fun c10 => ?_)
    · replace h := gmI_pos c10 h
      refine gm_sub [0] rfl ?_
      exact hk h
    · replace h := gmI_neg c10 h
      refine gm_aload_n hG 0 d_m_findMix_55 rfl rfl ?_
      refine gm_bipush hG d_m_findMix_56 (by decide) ?_
      refine gm_iload_n hG 1 d_m_findMix_58 rfl rfl ?_
      refine gm_bipush hG d_m_findMix_59 (by decide) ?_
      obtain ⟨g11, h⟩ := gmG_of h
      refine gm_idiv hG d_m_findMix_61 g11 (by decide) (fun _ => ?_)
      refine gm_imul hG d_m_findMix_62 ?_
      refine gm_bipush hG d_m_findMix_63 (by decide) ?_
      refine gm_iload_n hG 1 d_m_findMix_65 rfl rfl ?_
      refine gm_iconst hG d_m_findMix_66 ?_
      refine gm_idiv hG d_m_findMix_67 g11 (by decide) (fun _ => ?_)
      refine gm_iconst hG d_m_findMix_68 ?_
      obtain ⟨g12, h⟩ := gmG_of h
      refine gm_irem hG d_m_findMix_69 g12 (by decide) (fun _ => ?_)
      refine gm_imul hG d_m_findMix_70 ?_
      refine gm_iadd hG d_m_findMix_71 ?_
      refine gm_iload_n hG 1 d_m_findMix_72 rfl rfl ?_
      refine gm_iconst hG d_m_findMix_73 ?_
      refine gm_irem hG d_m_findMix_74 g11 (by decide) (fun _ => ?_)
      refine gm_iadd hG d_m_findMix_75 ?_
      obtain ⟨g13, h⟩ := gmG_of h
      obtain ⟨s14, es14, h⟩ := gmBv_of h
      refine gm_callVv hG [.inl (((100 * (y1 / 9)) + (10 * ((y1 / 3) % 3))) + (y1 % 3))] [] gmM_6_186 (Wm_tryMix g13 es14) gmKc_133 rfl (by decide) (Nat.le_of_ble_eq_true rfl) rfl d_m_findMix_76 ?_
      refine gm_ok (fun hOs14 => ?_)
      refine gm_iinc (lv' := [(1, .inl (y1 + 1)), (0, .inr 133)]) hG 1 d_m_findMix_79 rfl (by decide) rfl ?_
      refine gm_goto (tgt := 49) hG d_m_findMix_82 (by decide) ?_
      obtain ⟨g15, h⟩ := gmG_of h
      refine gm_sub [1, 0] rfl ?_
      exact ih g15 h hk
set_option maxRecDepth 100000 in
set_option maxHeartbeats 4000000 in
theorem Wm_findMix_87 {φ : Fx} {rs : St} (hG : Good φ "GarmentMarkerModel" prog_8_method_67_code 2 8 188) (hF : FinV φ prog_8_method_67_code rs) : ∀ (n : Nat) {y1 : Int} {σ : St} {k : St → Option St}, gmR y1 → Fm_findMix_87 n y1 σ k = some rs → (∀ {τ : St}, k τ = some rs → J φ τ 113 [] []) → J φ σ 87 [(0, .inr 133), (1, .inl y1)] [] := by
  intro n
  induction n with
  | zero =>
    intro _ _ _ _ h
    exact absurd h (by rw [Fm_findMix_87.eq_1]; exact fun q => by cases q)
  | succ n ih =>
    intro y1 σ k r1 h hk
    rw [Fm_findMix_87.eq_2] at h
    refine gm_ok (fun hO => ?_)
    refine gm_iload_n hG 1 d_m_findMix_87 rfl rfl ?_
    refine gm_iconst hG d_m_findMix_88 ?_
    refine gm_icmp_ge (tgt := 113) hG d_m_findMix_89 (by decide) r1 (by decide) (fun c17 => ?_) (fun c17 => ?_)
    · replace h := gmI_pos c17 h
      refine gm_sub [] rfl ?_
      exact hk h
    · replace h := gmI_neg c17 h
      refine gm_aload_n hG 0 d_m_findMix_92 rfl rfl ?_
      refine gm_getR (t := 134) hG gmF_6_7 gmKc_133 rfl d_m_findMix_93 ?_
      refine gm_bipush hG d_m_findMix_96 (by decide) ?_
      refine gm_iload_n hG 1 d_m_findMix_98 rfl rfl ?_
      refine gm_iadd hG d_m_findMix_99 ?_
      refine gm_aload_n hG 0 d_m_findMix_100 rfl rfl ?_
      refine gm_getR (t := 149) hG gmF_6_56 gmKc_133 rfl d_m_findMix_101 ?_
      refine gm_iload_n hG 1 d_m_findMix_104 rfl rfl ?_
      obtain ⟨g18, h⟩ := gmG_of h
      refine gm_iald (t := (y1).toNat) hG gmKc_149 gmLc_149 g18 rfl d_m_findMix_105 (fun _ => ?_)
      obtain ⟨g19, h⟩ := gmG_of h
      obtain ⟨s20, es20, h⟩ := gmL_of h
      refine gm_iast (t := ((67 + y1)).toNat) hG gmKc_134 gmLc_134 g19 rfl (hO 149 (y1).toNat) es20 d_m_findMix_106 ?_
      refine gm_ok (fun hOs20 => ?_)
      refine gm_iinc (lv' := [(1, .inl (y1 + 1)), (0, .inr 133)]) hG 1 d_m_findMix_107 rfl (by decide) rfl ?_
      refine gm_goto (tgt := 87) hG d_m_findMix_110 (by decide) ?_
      obtain ⟨g21, h⟩ := gmG_of h
      refine gm_sub [1, 0] rfl ?_
      exact ih g21 h hk
set_option maxRecDepth 100000 in
set_option maxHeartbeats 4000000 in
theorem Wm_findMix {σ : St} {rs : St} (h : Fm_findMix σ = some rs) : Ctr gmY6_findMix prog_8_method_67_code 2 none 8 188 [.inr 133] σ none rs := by
  refine Ctr.ofV (own := "GarmentMarkerModel") (by decide +kernel) rfl (Nat.le_of_ble_eq_true rfl) (fun φ hG hF => ?_)
  unfold Fm_findMix at h
  refine gm_lv (l2 := [(0, .inr 133)]) rfl ?_
  refine gm_ok (fun hO => ?_)
  refine gm_iconst hG d_m_findMix_0 ?_
  refine gm_istore_n (lv' := [(1, .inl 0), (0, .inr 133)]) hG d_m_findMix_1 rfl (by decide) rfl ?_
  refine gm_sub [1, 0] rfl ?_
  refine Wm_findMix_2 hG hF gmN (by decide) h (fun  {s6}  h => ?_)
  refine gm_ok (fun hOs6 => ?_)
  refine gm_aload_n hG 0 d_m_findMix_28 rfl rfl ?_
  refine gm_iconst hG d_m_findMix_29 ?_
  obtain ⟨s7, es7, h⟩ := gmL_of h
  refine gm_putI hG gmF_6_174 gmKc_133 rfl rfl (by decide +kernel) (by decide) es7 d_m_findMix_30 ?_
  refine gm_ok (fun hOs7 => ?_)
  refine gm_aload_n hG 0 d_m_findMix_33 rfl rfl ?_
  refine gm_sipush hG d_m_findMix_34 (by decide) ?_
  obtain ⟨s8, es8, h⟩ := gmL_of h
  refine gm_putI hG gmF_6_177 gmKc_133 rfl rfl (by decide +kernel) (by decide) es8 d_m_findMix_37 ?_
  refine gm_ok (fun hOs8 => ?_)
  refine gm_aload_n hG 0 d_m_findMix_40 rfl rfl ?_
  refine gm_sipush hG d_m_findMix_41 (by decide) ?_
  obtain ⟨s9, es9, h⟩ := gmL_of h
  refine gm_putI hG gmF_6_180 gmKc_133 rfl rfl (by decide +kernel) (by decide) es9 d_m_findMix_44 ?_
  refine gm_ok (fun hOs9 => ?_)
  refine gm_iconst hG d_m_findMix_47 ?_
  refine gm_istore_n (lv' := [(1, .inl 1), (0, .inr 133)]) hG d_m_findMix_48 rfl (by decide) rfl ?_
  refine gm_sub [1, 0] rfl ?_
  refine Wm_findMix_49 hG hF gmN (by decide) h (fun  {s16}  h => ?_)
  refine gm_ok (fun hOs16 => ?_)
  refine gm_iconst hG d_m_findMix_85 ?_
  refine gm_istore_n (lv' := [(1, .inl 0), (0, .inr 133)]) hG d_m_findMix_86 rfl (by decide) rfl ?_
  refine gm_sub [1, 0] rfl ?_
  refine Wm_findMix_87 hG hF gmN (by decide) h (fun  {s22}  h => ?_)
  refine gm_ok (fun hOs22 => ?_)
  exact gm_vret' hF h d_m_findMix_113
def Fm_goodMixes (σ : St) : Option (Int × St) := gmBv (Fm_findMix σ) (fun s1 => some ((s1 133 19), s1))
set_option maxRecDepth 100000 in
set_option maxHeartbeats 4000000 in
theorem Wm_goodMixes {σ : St} {rv : Int} {rs : St} (h : Fm_goodMixes σ = some (rv, rs)) : Ctr gmY6_goodMixes prog_8_method_68_code 1 (some .int) 9 209 [.inr 133] σ (some rv) rs := by
  refine Ctr.ofI (own := "GarmentMarkerModel") (by decide +kernel) rfl (Nat.le_of_ble_eq_true rfl) (fun φ hG hF => ?_)
  unfold Fm_goodMixes at h
  refine gm_lv (l2 := [(0, .inr 133)]) rfl ?_
  refine gm_ok (fun hO => ?_)
  refine gm_aload_n hG 0 d_m_goodMixes_0 rfl rfl ?_
  obtain ⟨s1, es1, h⟩ := gmBv_of h
  refine gm_callVv hG [] [] gmM_6_189 (Wm_findMix es1) gmKc_133 rfl (by decide) (Nat.le_of_ble_eq_true rfl) rfl d_m_goodMixes_1 ?_
  refine gm_ok (fun hOs1 => ?_)
  refine gm_aload_n hG 0 d_m_goodMixes_4 rfl rfl ?_
  refine gm_getI hG gmF_6_174 gmKc_133 rfl d_m_goodMixes_5 (fun _ => ?_)
  exact gm_iret' hF h (hOs1 133 19) d_m_goodMixes_8
def Fm_bestMix (σ : St) : Option (Int × St) := gmBv (Fm_findMix σ) (fun s1 => some ((s1 133 20), s1))
set_option maxRecDepth 100000 in
set_option maxHeartbeats 4000000 in
theorem Wm_bestMix {σ : St} {rv : Int} {rs : St} (h : Fm_bestMix σ = some (rv, rs)) : Ctr gmY6_bestMix prog_8_method_69_code 1 (some .int) 9 209 [.inr 133] σ (some rv) rs := by
  refine Ctr.ofI (own := "GarmentMarkerModel") (by decide +kernel) rfl (Nat.le_of_ble_eq_true rfl) (fun φ hG hF => ?_)
  unfold Fm_bestMix at h
  refine gm_lv (l2 := [(0, .inr 133)]) rfl ?_
  refine gm_ok (fun hO => ?_)
  refine gm_aload_n hG 0 d_m_bestMix_0 rfl rfl ?_
  obtain ⟨s1, es1, h⟩ := gmBv_of h
  refine gm_callVv hG [] [] gmM_6_189 (Wm_findMix es1) gmKc_133 rfl (by decide) (Nat.le_of_ble_eq_true rfl) rfl d_m_bestMix_1 ?_
  refine gm_ok (fun hOs1 => ?_)
  refine gm_aload_n hG 0 d_m_bestMix_4 rfl rfl ?_
  refine gm_getI hG gmF_6_177 gmKc_133 rfl d_m_bestMix_5 (fun _ => ?_)
  exact gm_iret' hF h (hOs1 133 20) d_m_bestMix_8
def Fm_bestMixCloth (σ : St) : Option (Int × St) := gmBv (Fm_findMix σ) (fun s1 => some ((s1 133 21), s1))
set_option maxRecDepth 100000 in
set_option maxHeartbeats 4000000 in
theorem Wm_bestMixCloth {σ : St} {rv : Int} {rs : St} (h : Fm_bestMixCloth σ = some (rv, rs)) : Ctr gmY6_bestMixCloth prog_8_method_70_code 1 (some .int) 9 209 [.inr 133] σ (some rv) rs := by
  refine Ctr.ofI (own := "GarmentMarkerModel") (by decide +kernel) rfl (Nat.le_of_ble_eq_true rfl) (fun φ hG hF => ?_)
  unfold Fm_bestMixCloth at h
  refine gm_lv (l2 := [(0, .inr 133)]) rfl ?_
  refine gm_ok (fun hO => ?_)
  refine gm_aload_n hG 0 d_m_bestMixCloth_0 rfl rfl ?_
  obtain ⟨s1, es1, h⟩ := gmBv_of h
  refine gm_callVv hG [] [] gmM_6_189 (Wm_findMix es1) gmKc_133 rfl (by decide) (Nat.le_of_ble_eq_true rfl) rfl d_m_bestMixCloth_1 ?_
  refine gm_ok (fun hOs1 => ?_)
  refine gm_aload_n hG 0 d_m_bestMixCloth_4 rfl rfl ?_
  refine gm_getI hG gmF_6_180 gmKc_133 rfl d_m_bestMixCloth_5 (fun _ => ?_)
  exact gm_iret' hF h (hOs1 133 21) d_m_bestMixCloth_8
def Fm_applyBestMix (σ : St) : Option (Int × St) := gmBv (Fm_findMix σ) (fun s1 => if 0 ≤ (s1 133 20) then gmBv (Fm_setMix (s1 133 20) s1) (fun s3 => gmB (Fm_lengthNow s3) (fun r5 s4 => some (r5, s4))) else some ((-1009), s1))
set_option maxRecDepth 100000 in
set_option maxHeartbeats 4000000 in
theorem Wm_applyBestMix {σ : St} {rv : Int} {rs : St} (h : Fm_applyBestMix σ = some (rv, rs)) : Ctr gmY6_applyBestMix prog_8_method_71_code 1 (some .int) 9 209 [.inr 133] σ (some rv) rs := by
  refine Ctr.ofI (own := "GarmentMarkerModel") (by decide +kernel) rfl (Nat.le_of_ble_eq_true rfl) (fun φ hG hF => ?_)
  unfold Fm_applyBestMix at h
  refine gm_lv (l2 := [(0, .inr 133)]) rfl ?_
  refine gm_ok (fun hO => ?_)
  refine gm_aload_n hG 0 d_m_applyBestMix_0 rfl rfl ?_
  obtain ⟨s1, es1, h⟩ := gmBv_of h
  refine gm_callVv hG [] [] gmM_6_189 (Wm_findMix es1) gmKc_133 rfl (by decide) (Nat.le_of_ble_eq_true rfl) rfl d_m_applyBestMix_1 ?_
  refine gm_ok (fun hOs1 => ?_)
  refine gm_aload_n hG 0 d_m_applyBestMix_4 rfl rfl ?_
  refine gm_getI hG gmF_6_177 gmKc_133 rfl d_m_applyBestMix_5 (fun _ => ?_)
  refine gm_if_ge (tgt := 15) hG d_m_applyBestMix_8 (by decide) (hOs1 133 20) (fun c2 => ?_) (fun c2 => ?_)
  · replace h := gmI_pos c2 h
    refine gm_aload_n hG 0 d_m_applyBestMix_15 rfl rfl ?_
    refine gm_aload_n hG 0 d_m_applyBestMix_16 rfl rfl ?_
    refine gm_getI hG gmF_6_177 gmKc_133 rfl d_m_applyBestMix_17 (fun _ => ?_)
    obtain ⟨s3, es3, h⟩ := gmBv_of h
    refine gm_callVv hG [.inl (s1 133 20)] [] gmM_6_171 (Wm_setMix (hOs1 133 20) es3) gmKc_133 rfl (by decide) (Nat.le_of_ble_eq_true rfl) rfl d_m_applyBestMix_20 ?_
    refine gm_ok (fun hOs3 => ?_)
    refine gm_aload_n hG 0 d_m_applyBestMix_23 rfl rfl ?_
    obtain ⟨r5, s4, es4, h⟩ := gmB_of h
    refine gm_callVi hG [] [] gmM_6_153 (Wm_lengthNow es4) gmKc_133 rfl (by decide) (Nat.le_of_ble_eq_true rfl) rfl d_m_applyBestMix_24 (fun qr5 => ?_)
    refine gm_ok (fun hOs4 => ?_)
    exact gm_iret' hF h qr5 d_m_applyBestMix_27
  · replace h := gmI_neg c2 h
    refine gm_sipush hG d_m_applyBestMix_11 (by decide) ?_
    exact gm_iret' hF h (by decide) d_m_applyBestMix_14
def Fm_save_15 : Nat → Int → Int → St → (St → Option (Int × St)) → Option (Int × St)
  | 0, _, _, _, _ => none
  | n + 1, y1, y2, σ, k => if 78 ≤ y2 then k σ else gmG (0 ≤ y2 ∧ y2 < 78) (gmG (0 ≤ ((78 * y1) + y2) ∧ ((78 * y1) + y2) < 156) (gmL (gmUp σ 135 (((78 * y1) + y2)).toNat (σ 134 (y2).toNat)) (fun s7 => gmG (gmR (y2 + 1)) (Fm_save_15 n y1 (y2 + 1) s7 k))))
def Fm_save (a0 : Int) (σ : St) : Option (Int × St) := gmB (Fm_in a0 0 1 σ) (fun r2 s1 => if r2 = 0 then some ((-1005), s1) else Fm_save_15 gmN a0 0 s1 (fun s9 => gmG (0 ≤ a0 ∧ a0 < 2) (gmL (gmUp s9 136 (a0).toNat 1) (fun s11 => some (1, s11)))))
set_option maxRecDepth 100000 in
set_option maxHeartbeats 4000000 in
theorem Wm_save_15 {φ : Fx} {rv : Int} {rs : St} (hG : Good φ "GarmentMarkerModel" prog_8_method_72_code 3 1 22) (hF : FinI φ prog_8_method_72_code rv rs) : ∀ (n : Nat) {y1 : Int} {y2 : Int} {σ : St} {k : St → Option (Int × St)}, gmR y1 → gmR y2 → Fm_save_15 n y1 y2 σ k = some (rv, rs) → (∀ {τ : St}, k τ = some (rv, rs) → J φ τ 44 [(0, .inr 133), (1, .inl y1)] []) → J φ σ 15 [(0, .inr 133), (1, .inl y1), (2, .inl y2)] [] := by
  intro n
  induction n with
  | zero =>
    intro _ _ _ _ _ _ h
    exact absurd h (by rw [Fm_save_15.eq_1]; exact fun q => by cases q)
  | succ n ih =>
    intro y1 y2 σ k r1 r2 h hk
    rw [Fm_save_15.eq_2] at h
    refine gm_ok (fun hO => ?_)
    refine gm_iload_n hG 2 d_m_save_15 rfl rfl ?_
    refine gm_bipush hG d_m_save_16 (by decide) ?_
    refine gm_icmp_ge (tgt := 44) hG d_m_save_18 (by decide) r2 (by decide) (fun c4 => ?_) (fun c4 => ?_)
    · replace h := gmI_pos c4 h
      refine gm_sub [0, 1] rfl ?_
      exact hk h
    · replace h := gmI_neg c4 h
      refine gm_aload_n hG 0 d_m_save_21 rfl rfl ?_
      refine gm_getR (t := 135) hG gmF_6_13 gmKc_133 rfl d_m_save_22 ?_
      refine gm_bipush hG d_m_save_25 (by decide) ?_
      refine gm_iload_n hG 1 d_m_save_27 rfl rfl ?_
      refine gm_imul hG d_m_save_28 ?_
      refine gm_iload_n hG 2 d_m_save_29 rfl rfl ?_
      refine gm_iadd hG d_m_save_30 ?_
      refine gm_aload_n hG 0 d_m_save_31 rfl rfl ?_
      refine gm_getR (t := 134) hG gmF_6_7 gmKc_133 rfl d_m_save_32 ?_
      refine gm_iload_n hG 2 d_m_save_35 rfl rfl ?_
      obtain ⟨g5, h⟩ := gmG_of h
      refine gm_iald (t := (y2).toNat) hG gmKc_134 gmLc_134 g5 rfl d_m_save_36 (fun _ => ?_)
      obtain ⟨g6, h⟩ := gmG_of h
      obtain ⟨s7, es7, h⟩ := gmL_of h
      refine gm_iast (t := (((78 * y1) + y2)).toNat) hG gmKc_135 gmLc_135 g6 rfl (hO 134 (y2).toNat) es7 d_m_save_37 ?_
      refine gm_ok (fun hOs7 => ?_)
      refine gm_iinc (lv' := [(2, .inl (y2 + 1)), (0, .inr 133), (1, .inl y1)]) hG 2 d_m_save_38 rfl (by decide) rfl ?_
      refine gm_goto (tgt := 15) hG d_m_save_41 (by decide) ?_
      obtain ⟨g8, h⟩ := gmG_of h
      refine gm_sub [1, 2, 0] rfl ?_
      exact ih r1 g8 h hk
set_option maxRecDepth 100000 in
set_option maxHeartbeats 4000000 in
theorem Wm_save {a0 : Int} {σ : St} {rv : Int} {rs : St} (ra0 : gmR a0) (h : Fm_save a0 σ = some (rv, rs)) : Ctr gmY6_save prog_8_method_72_code 3 (some .int) 1 22 [.inr 133, .inl a0] σ (some rv) rs := by
  refine Ctr.ofI (own := "GarmentMarkerModel") (by decide +kernel) rfl (Nat.le_of_ble_eq_true rfl) (fun φ hG hF => ?_)
  unfold Fm_save at h
  refine gm_lv (l2 := [(0, .inr 133), (1, .inl a0)]) rfl ?_
  refine gm_ok (fun hO => ?_)
  refine gm_iload_n hG 1 d_m_save_0 rfl rfl ?_
  refine gm_iconst hG d_m_save_1 ?_
  refine gm_iconst hG d_m_save_2 ?_
  obtain ⟨r2, s1, es1, h⟩ := gmB_of h
  refine gm_callSi hG [.inl a0, .inl 0, .inl 1] [] gmM_6_59 (Wm_in ra0 (by decide) (by decide) es1) rfl (by decide) (Nat.le_of_ble_eq_true rfl) rfl d_m_save_3 (fun qr2 => ?_)
  refine gm_ok (fun hOs1 => ?_)
  refine gm_if_ne (tgt := 13) hG d_m_save_6 (by decide) qr2 (fun c3 => ?_) (fun c3 => ?_)
  · replace h := gmI_neg c3 h
    refine gm_iconst hG d_m_save_13 ?_
    refine gm_istore_n (lv' := [(2, .inl 0), (0, .inr 133), (1, .inl a0)]) hG d_m_save_14 rfl (by decide) rfl ?_
    refine gm_sub [1, 2, 0] rfl ?_
    refine Wm_save_15 hG hF gmN ra0 (by decide) h (fun  {s9}  h => ?_)
    refine gm_ok (fun hOs9 => ?_)
    refine gm_aload_n hG 0 d_m_save_44 rfl rfl ?_
    refine gm_getR (t := 136) hG gmF_6_16 gmKc_133 rfl d_m_save_45 ?_
    refine gm_iload_n hG 1 d_m_save_48 rfl rfl ?_
    refine gm_iconst hG d_m_save_49 ?_
    obtain ⟨g10, h⟩ := gmG_of h
    obtain ⟨s11, es11, h⟩ := gmL_of h
    refine gm_bast (t := (a0).toNat) hG gmKc_136 gmLc_136 g10 rfl (Or.inr rfl) es11 d_m_save_50 ?_
    refine gm_ok (fun hOs11 => ?_)
    refine gm_iconst hG d_m_save_51 ?_
    exact gm_iret' hF h (by decide) d_m_save_52
  · replace h := gmI_pos c3 h
    refine gm_sipush hG d_m_save_9 (by decide) ?_
    exact gm_iret' hF h (by decide) d_m_save_12
def Fm_restore_28 : Nat → Int → Int → St → (St → Option (Int × St)) → Option (Int × St)
  | 0, _, _, _, _ => none
  | n + 1, y1, y2, σ, k => if 78 ≤ y2 then k σ else gmG (0 ≤ ((78 * y1) + y2) ∧ ((78 * y1) + y2) < 156) (gmG (0 ≤ y2 ∧ y2 < 78) (gmL (gmUp σ 134 (y2).toNat (σ 135 (((78 * y1) + y2)).toNat)) (fun s9 => gmG (gmR (y2 + 1)) (Fm_restore_28 n y1 (y2 + 1) s9 k))))
def Fm_restore (a0 : Int) (σ : St) : Option (Int × St) := gmB (Fm_in a0 0 1 σ) (fun r2 s1 => if r2 = 0 then some ((-1005), s1) else gmG (0 ≤ a0 ∧ a0 < 2) (if (s1 136 (a0).toNat) = 0 then some ((-1011), s1) else Fm_restore_28 gmN a0 0 s1 (fun s11 => some (1, s11))))
set_option maxRecDepth 100000 in
set_option maxHeartbeats 4000000 in
theorem Wm_restore_28 {φ : Fx} {rv : Int} {rs : St} (hG : Good φ "GarmentMarkerModel" prog_8_method_73_code 3 1 22) (hF : FinI φ prog_8_method_73_code rv rs) : ∀ (n : Nat) {y1 : Int} {y2 : Int} {σ : St} {k : St → Option (Int × St)}, gmR y1 → gmR y2 → Fm_restore_28 n y1 y2 σ k = some (rv, rs) → (∀ {τ : St}, k τ = some (rv, rs) → J φ τ 57 [] []) → J φ σ 28 [(0, .inr 133), (1, .inl y1), (2, .inl y2)] [] := by
  intro n
  induction n with
  | zero =>
    intro _ _ _ _ _ _ h
    exact absurd h (by rw [Fm_restore_28.eq_1]; exact fun q => by cases q)
  | succ n ih =>
    intro y1 y2 σ k r1 r2 h hk
    rw [Fm_restore_28.eq_2] at h
    refine gm_ok (fun hO => ?_)
    refine gm_iload_n hG 2 d_m_restore_28 rfl rfl ?_
    refine gm_bipush hG d_m_restore_29 (by decide) ?_
    refine gm_icmp_ge (tgt := 57) hG d_m_restore_31 (by decide) r2 (by decide) (fun c6 => ?_) (fun c6 => ?_)
    · replace h := gmI_pos c6 h
      refine gm_sub [] rfl ?_
      exact hk h
    · replace h := gmI_neg c6 h
      refine gm_aload_n hG 0 d_m_restore_34 rfl rfl ?_
      refine gm_getR (t := 134) hG gmF_6_7 gmKc_133 rfl d_m_restore_35 ?_
      refine gm_iload_n hG 2 d_m_restore_38 rfl rfl ?_
      refine gm_aload_n hG 0 d_m_restore_39 rfl rfl ?_
      refine gm_getR (t := 135) hG gmF_6_13 gmKc_133 rfl d_m_restore_40 ?_
      refine gm_bipush hG d_m_restore_43 (by decide) ?_
      refine gm_iload_n hG 1 d_m_restore_45 rfl rfl ?_
      refine gm_imul hG d_m_restore_46 ?_
      refine gm_iload_n hG 2 d_m_restore_47 rfl rfl ?_
      refine gm_iadd hG d_m_restore_48 ?_
      obtain ⟨g7, h⟩ := gmG_of h
      refine gm_iald (t := (((78 * y1) + y2)).toNat) hG gmKc_135 gmLc_135 g7 rfl d_m_restore_49 (fun _ => ?_)
      obtain ⟨g8, h⟩ := gmG_of h
      obtain ⟨s9, es9, h⟩ := gmL_of h
      refine gm_iast (t := (y2).toNat) hG gmKc_134 gmLc_134 g8 rfl (hO 135 (((78 * y1) + y2)).toNat) es9 d_m_restore_50 ?_
      refine gm_ok (fun hOs9 => ?_)
      refine gm_iinc (lv' := [(2, .inl (y2 + 1)), (0, .inr 133), (1, .inl y1)]) hG 2 d_m_restore_51 rfl (by decide) rfl ?_
      refine gm_goto (tgt := 28) hG d_m_restore_54 (by decide) ?_
      obtain ⟨g10, h⟩ := gmG_of h
      refine gm_sub [1, 2, 0] rfl ?_
      exact ih r1 g10 h hk
set_option maxRecDepth 100000 in
set_option maxHeartbeats 4000000 in
theorem Wm_restore {a0 : Int} {σ : St} {rv : Int} {rs : St} (ra0 : gmR a0) (h : Fm_restore a0 σ = some (rv, rs)) : Ctr gmY6_restore prog_8_method_73_code 3 (some .int) 1 22 [.inr 133, .inl a0] σ (some rv) rs := by
  refine Ctr.ofI (own := "GarmentMarkerModel") (by decide +kernel) rfl (Nat.le_of_ble_eq_true rfl) (fun φ hG hF => ?_)
  unfold Fm_restore at h
  refine gm_lv (l2 := [(0, .inr 133), (1, .inl a0)]) rfl ?_
  refine gm_ok (fun hO => ?_)
  refine gm_iload_n hG 1 d_m_restore_0 rfl rfl ?_
  refine gm_iconst hG d_m_restore_1 ?_
  refine gm_iconst hG d_m_restore_2 ?_
  obtain ⟨r2, s1, es1, h⟩ := gmB_of h
  refine gm_callSi hG [.inl a0, .inl 0, .inl 1] [] gmM_6_59 (Wm_in ra0 (by decide) (by decide) es1) rfl (by decide) (Nat.le_of_ble_eq_true rfl) rfl d_m_restore_3 (fun qr2 => ?_)
  refine gm_ok (fun hOs1 => ?_)
  refine gm_if_ne (tgt := 13) hG d_m_restore_6 (by decide) qr2 (fun c3 => ?_) (fun c3 => ?_)
  · replace h := gmI_neg c3 h
    refine gm_aload_n hG 0 d_m_restore_13 rfl rfl ?_
    refine gm_getR (t := 136) hG gmF_6_16 gmKc_133 rfl d_m_restore_14 ?_
    refine gm_iload_n hG 1 d_m_restore_17 rfl rfl ?_
    obtain ⟨g4, h⟩ := gmG_of h
    refine gm_bald (t := (a0).toNat) hG gmKc_136 gmLc_136 g4 rfl d_m_restore_18 (fun _ => ?_)
    refine gm_if_ne (tgt := 26) hG d_m_restore_19 (by decide) (hOs1 136 (a0).toNat) (fun c5 => ?_) (fun c5 => ?_)
    · replace h := gmI_neg c5 h
      refine gm_iconst hG d_m_restore_26 ?_
      refine gm_istore_n (lv' := [(2, .inl 0), (0, .inr 133), (1, .inl a0)]) hG d_m_restore_27 rfl (by decide) rfl ?_
      refine gm_sub [1, 2, 0] rfl ?_
      refine Wm_restore_28 hG hF gmN ra0 (by decide) h (fun  {s11}  h => ?_)
      refine gm_ok (fun hOs11 => ?_)
      refine gm_iconst hG d_m_restore_57 ?_
      exact gm_iret' hF h (by decide) d_m_restore_58
    · replace h := gmI_pos c5 h
      refine gm_sipush hG d_m_restore_22 (by decide) ?_
      exact gm_iret' hF h (by decide) d_m_restore_25
  · replace h := gmI_pos c3 h
    refine gm_sipush hG d_m_restore_9 (by decide) ?_
    exact gm_iret' hF h (by decide) d_m_restore_12
