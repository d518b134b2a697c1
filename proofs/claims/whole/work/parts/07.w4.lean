def Fm_matches (a0 : Int) (σ : St) : Option (Int × St) := gmB (Fm_differenceOf a0 0 σ) (fun r2 s1 => if r2 = 0 then gmB (Fm_differenceOf a0 1 s1) (fun r5 s4 => if r5 = 0 then gmB (Fm_differenceOf a0 2 s4) (fun r8 s7 => some ((if r8 = 0 then 1 else 0), s7)) else some (0, s4)) else some (0, s1))
set_option maxRecDepth 100000 in
set_option maxHeartbeats 4000000 in
theorem Wm_matches {a0 : Int} {σ : St} {rv : Int} {rs : St} (ra0 : gmR a0) (h : Fm_matches a0 σ = some (rv, rs)) : Ctr gmY6_matches prog_8_method_17_code 2 (some .boolean) 3 68 [.inr 133, .inl a0] σ (some rv) rs := by
  refine Ctr.ofZ (own := "GarmentMarkerModel") (by decide +kernel) rfl (Nat.le_of_ble_eq_true rfl) (fun φ hG hF => ?_)
  unfold Fm_matches at h
  refine gm_lv (l2 := [(0, .inr 133), (1, .inl a0)]) rfl ?_
  refine gm_ok (fun hO => ?_)
  refine gm_aload_n hG 0 d_m_matches_0 rfl rfl ?_
  refine gm_iload_n hG 1 d_m_matches_1 rfl rfl ?_
  refine gm_iconst hG d_m_matches_2 ?_
  obtain ⟨r2, s1, es1, h⟩ := gmB_of h
  refine gm_callVi hG [.inl a0, .inl 0] [] gmM_6_85 (Wm_differenceOf ra0 (by decide) es1) gmKc_133 rfl (by decide) (Nat.le_of_ble_eq_true rfl) rfl d_m_matches_3 (fun qr2 => ?_)
  refine gm_ok (fun hOs1 => ?_)
  refine gm_if_ne (tgt := 31) hG d_m_matches_6 (by decide) qr2 (fun c3 => ?_) (fun c3 => ?_)
  · replace h := gmI_neg c3 h
    refine gm_iconst hG d_m_matches_31 ?_
    exact gm_zret' hF h (Or.inl rfl) d_m_matches_32
  · replace h := gmI_pos c3 h
    refine gm_aload_n hG 0 d_m_matches_9 rfl rfl ?_
    refine gm_iload_n hG 1 d_m_matches_10 rfl rfl ?_
    refine gm_iconst hG d_m_matches_11 ?_
    obtain ⟨r5, s4, es4, h⟩ := gmB_of h
    refine gm_callVi hG [.inl a0, .inl 1] [] gmM_6_85 (Wm_differenceOf ra0 (by decide) es4) gmKc_133 rfl (by decide) (Nat.le_of_ble_eq_true rfl) rfl d_m_matches_12 (fun qr5 => ?_)
    refine gm_ok (fun hOs4 => ?_)
    refine gm_if_ne (tgt := 31) hG d_m_matches_15 (by decide) qr5 (fun c6 => ?_) (fun c6 => ?_)
    · replace h := gmI_neg c6 h
      refine gm_iconst hG d_m_matches_31 ?_
      exact gm_zret' hF h (Or.inl rfl) d_m_matches_32
    · replace h := gmI_pos c6 h
      refine gm_aload_n hG 0 d_m_matches_18 rfl rfl ?_
      refine gm_iload_n hG 1 d_m_matches_19 rfl rfl ?_
      refine gm_iconst hG d_m_matches_20 ?_
      obtain ⟨r8, s7, es7, h⟩ := gmB_of h
      refine gm_callVi hG [.inl a0, .inl 2] [] gmM_6_85 (Wm_differenceOf ra0 (by decide) es7) gmKc_133 rfl (by decide) (Nat.le_of_ble_eq_true rfl) rfl d_m_matches_21 (fun qr8 => ?_)
      refine gm_ok (fun hOs7 => ?_)
      suffices hj : J φ s7 32 [(0, .inr 133), (1, .inl a0)] [.inl (if r8 = 0 then 1 else 0)] by
        refine gm_if_ne (tgt := 31) hG d_m_matches_24 (by decide) qr8 (fun c9 => ?_) (fun c9 => ?_)
        · replace hj := gmJ_neg c9 hj
          refine gm_iconst hG d_m_matches_31 ?_
          exact hj
        · replace hj := gmJ_pos c9 hj
          refine gm_iconst hG d_m_matches_27 ?_
          refine gm_goto (tgt := 32) hG d_m_matches_28 (by decide) ?_
          exact hj
      exact gm_zret' hF h (gmZ_ite (fun c9 => (Or.inr rfl)) (fun c9 => (Or.inl rfl))) d_m_matches_32
def Fm_matchingSeams_4 : Nat → Int → Int → St → (Int → St → Option (Int × St)) → Option (Int × St)
  | 0, _, _, _, _ => none
  | n + 1, y1, y2, σ, k => if (σ 134 36) ≤ y2 then k y1 σ else gmB (Fm_matches y2 σ) (fun r3 s2 => gmL ((y1 + (if r3 = 0 then 0 else 1)) : Int) (fun x5 => gmG (gmR x5) (gmG (gmR (y2 + 1)) (Fm_matchingSeams_4 n x5 (y2 + 1) s2 k))))
def Fm_matchingSeams (σ : St) : Option (Int × St) := Fm_matchingSeams_4 gmN 0 0 σ (fun x8 s9 => some (x8, s9))
set_option maxRecDepth 100000 in
set_option maxHeartbeats 4000000 in
theorem Wm_matchingSeams_4 {φ : Fx} {rv : Int} {rs : St} (hG : Good φ "GarmentMarkerModel" prog_8_method_18_code 3 4 89) (hF : FinI φ prog_8_method_18_code rv rs) : ∀ (n : Nat) {y1 : Int} {y2 : Int} {σ : St} {k : Int → St → Option (Int × St)}, gmR y1 → gmR y2 → Fm_matchingSeams_4 n y1 y2 σ k = some (rv, rs) → (∀ {z1 : Int} {τ : St}, gmR z1 → k z1 τ = some (rv, rs) → J φ τ 37 [(1, .inl z1)] []) → J φ σ 4 [(0, .inr 133), (1, .inl y1), (2, .inl y2)] [] := by
  intro n
  induction n with
  | zero =>
    intro _ _ _ _ _ _ h
    exact absurd h (by rw [Fm_matchingSeams_4.eq_1]; exact fun q => by cases q)
  | succ n ih =>
    intro y1 y2 σ k r1 r2 h hk
    rw [Fm_matchingSeams_4.eq_2] at h
    refine gm_ok (fun hO => ?_)
    refine gm_iload_n hG 2 d_m_matchingSeams_4 rfl rfl ?_
    refine gm_aload_n hG 0 d_m_matchingSeams_5 rfl rfl ?_
    refine gm_getR (t := 134) hG gmF_6_7 gmKc_133 rfl d_m_matchingSeams_6 ?_
    refine gm_bipush hG d_m_matchingSeams_9 (by decide) ?_
    refine gm_iald (t := 36) hG gmKc_134 gmLc_134 (by decide) rfl d_m_matchingSeams_11 (fun _ => ?_)
    refine gm_icmp_ge (tgt := 37) hG d_m_matchingSeams_12 (by decide) r2 (hO 134 36) (fun c1 => ?_) (fun c1 => ?_)
    · replace h := gmI_pos c1 h
      refine gm_sub [1] rfl ?_
      exact hk r1 h
    · replace h := gmI_neg c1 h
      refine gm_iload_n hG 1 d_m_matchingSeams_15 rfl rfl ?_
      refine gm_aload_n hG 0 d_m_matchingSeams_16 rfl rfl ?_
      refine gm_iload_n hG 2 d_m_matchingSeams_17 rfl rfl ?_
      obtain ⟨r3, s2, es2, h⟩ := gmB_of h
      refine gm_callVi hG [.inl y2] [.inl y1] gmM_6_88 (Wm_matches r2 es2) gmKc_133 rfl (by decide) (Nat.le_of_ble_eq_true rfl) rfl d_m_matchingSeams_18 (fun qr3 => ?_)
      refine gm_ok (fun hOs2 => ?_)
      suffices hj : J φ s2 29 [(0, .inr 133), (1, .inl y1), (2, .inl y2)] [.inl (if r3 = 0 then 0 else 1), .inl y1] by
        refine gm_if_eq (tgt := 28) hG d_m_matchingSeams_21 (by decide) qr3 (fun c4 => ?_) (fun c4 => ?_)
        · replace hj := gmJ_pos c4 hj
          refine gm_iconst hG d_m_matchingSeams_28 ?_
          exact hj
        · replace hj := gmJ_neg c4 hj
          refine gm_iconst hG d_m_matchingSeams_24 ?_
          refine gm_goto (tgt := 29) hG d_m_matchingSeams_25 (by decide) ?_
          exact hj
      refine gm_iadd hG d_m_matchingSeams_29 ?_
      obtain ⟨x5, ex5, h⟩ := gmL_of h
      refine gm_top ex5 ?_
      refine gm_istore_n (lv' := [(1, .inl x5), (0, .inr 133), (2, .inl y2)]) hG d_m_matchingSeams_30 rfl (by decide) rfl ?_
      refine gm_iinc (lv' := [(2, .inl (y2 + 1)), (1, .inl x5), (0, .inr 133)]) hG 2 d_m_matchingSeams_31 rfl (by decide) rfl ?_
      refine gm_goto (tgt := 4) hG d_m_matchingSeams_34 (by decide) ?_
      obtain ⟨g6, h⟩ := gmG_of h
      obtain ⟨g7, h⟩ := gmG_of h
      refine gm_sub [2, 1, 0] rfl ?_
      exact ih g6 g7 h hk
set_option maxRecDepth 100000 in
set_option maxHeartbeats 4000000 in
theorem Wm_matchingSeams {σ : St} {rv : Int} {rs : St} (h : Fm_matchingSeams σ = some (rv, rs)) : Ctr gmY6_matchingSeams prog_8_method_18_code 3 (some .int) 4 89 [.inr 133] σ (some rv) rs := by
  refine Ctr.ofI (own := "GarmentMarkerModel") (by decide +kernel) rfl (Nat.le_of_ble_eq_true rfl) (fun φ hG hF => ?_)
  unfold Fm_matchingSeams at h
  refine gm_lv (l2 := [(0, .inr 133)]) rfl ?_
  refine gm_ok (fun hO => ?_)
  refine gm_iconst hG d_m_matchingSeams_0 ?_
  refine gm_istore_n (lv' := [(1, .inl 0), (0, .inr 133)]) hG d_m_matchingSeams_1 rfl (by decide) rfl ?_
  refine gm_iconst hG d_m_matchingSeams_2 ?_
  refine gm_istore_n (lv' := [(2, .inl 0), (1, .inl 0), (0, .inr 133)]) hG d_m_matchingSeams_3 rfl (by decide) rfl ?_
  refine gm_sub [2, 1, 0] rfl ?_
  refine Wm_matchingSeams_4 hG hF gmN (by decide) (by decide) h (fun {x8} {s9} qx8 h => ?_)
  refine gm_ok (fun hOs9 => ?_)
  refine gm_iload_n hG 0 d_m_matchingSeams_37 rfl rfl ?_
  exact gm_iret' hF h qx8 d_m_matchingSeams_38
def Fm_firstMismatch_2 : Nat → Int → St → (St → Option (Int × St)) → Option (Int × St)
  | 0, _, _, _ => none
  | n + 1, y1, σ, k => if (σ 134 36) ≤ y1 then k σ else gmB (Fm_matches y1 σ) (fun r3 s2 => if r3 = 0 then some (y1, s2) else gmG (gmR (y1 + 1)) (Fm_firstMismatch_2 n (y1 + 1) s2 k))
def Fm_firstMismatch (σ : St) : Option (Int × St) := Fm_firstMismatch_2 gmN 0 σ (fun s6 => some ((-1010), s6))
set_option maxRecDepth 100000 in
set_option maxHeartbeats 4000000 in
theorem Wm_firstMismatch_2 {φ : Fx} {rv : Int} {rs : St} (hG : Good φ "GarmentMarkerModel" prog_8_method_19_code 2 4 89) (hF : FinI φ prog_8_method_19_code rv rs) : ∀ (n : Nat) {y1 : Int} {σ : St} {k : St → Option (Int × St)}, gmR y1 → Fm_firstMismatch_2 n y1 σ k = some (rv, rs) → (∀ {τ : St}, k τ = some (rv, rs) → J φ τ 29 [] []) → J φ σ 2 [(0, .inr 133), (1, .inl y1)] [] := by
  intro n
  induction n with
  | zero =>
    intro _ _ _ _ h
    exact absurd h (by rw [Fm_firstMismatch_2.eq_1]; exact fun q => by cases q)
  | succ n ih =>
    intro y1 σ k r1 h hk
    rw [Fm_firstMismatch_2.eq_2] at h
    refine gm_ok (fun hO => ?_)
    refine gm_iload_n hG 1 d_m_firstMismatch_2 rfl rfl ?_
    refine gm_aload_n hG 0 d_m_firstMismatch_3 rfl rfl ?_
    refine gm_getR (t := 134) hG gmF_6_7 gmKc_133 rfl d_m_firstMismatch_4 ?_
    refine gm_bipush hG d_m_firstMismatch_7 (by decide) ?_
    refine gm_iald (t := 36) hG gmKc_134 gmLc_134 (by decide) rfl d_m_firstMismatch_9 (fun _ => ?_)
    refine gm_icmp_ge (tgt := 29) hG d_m_firstMismatch_10 (by decide) r1 (hO 134 36) (fun c1 => ?_) (fun c1 => ?_)
    · replace h := gmI_pos c1 h
      refine gm_sub [] rfl ?_
      exact hk h
    · replace h := gmI_neg c1 h
      refine gm_aload_n hG 0 d_m_firstMismatch_13 rfl rfl ?_
      refine gm_iload_n hG 1 d_m_firstMismatch_14 rfl rfl ?_
      obtain ⟨r3, s2, es2, h⟩ := gmB_of h
      refine gm_callVi hG [.inl y1] [] gmM_6_88 (Wm_matches r1 es2) gmKc_133 rfl (by decide) (Nat.le_of_ble_eq_true rfl) rfl d_m_firstMismatch_15 (fun qr3 => ?_)
      refine gm_ok (fun hOs2 => ?_)
      refine gm_if_ne (tgt := 23) hG d_m_firstMismatch_18 (by decide) qr3 (fun c4 => ?_) (fun c4 => ?_)
      · replace h := gmI_neg c4 h
        refine gm_iinc (lv' := [(1, .inl (y1 + 1)), (0, .inr 133)]) hG 1 d_m_firstMismatch_23 rfl (by decide) rfl ?_
        refine gm_goto (tgt := 2) hG d_m_firstMismatch_26 (by decide) ?_
        obtain ⟨g5, h⟩ := gmG_of h
        refine gm_sub [1, 0] rfl ?_
        exact ih g5 h hk
      · replace h := gmI_pos c4 h
        refine gm_iload_n hG 1 d_m_firstMismatch_21 rfl rfl ?_
        exact gm_iret' hF h r1 d_m_firstMismatch_22
set_option maxRecDepth 100000 in
set_option maxHeartbeats 4000000 in
theorem Wm_firstMismatch {σ : St} {rv : Int} {rs : St} (h : Fm_firstMismatch σ = some (rv, rs)) : Ctr gmY6_firstMismatch prog_8_method_19_code 2 (some .int) 4 89 [.inr 133] σ (some rv) rs := by
  refine Ctr.ofI (own := "GarmentMarkerModel") (by decide +kernel) rfl (Nat.le_of_ble_eq_true rfl) (fun φ hG hF => ?_)
  unfold Fm_firstMismatch at h
  refine gm_lv (l2 := [(0, .inr 133)]) rfl ?_
  refine gm_ok (fun hO => ?_)
  refine gm_iconst hG d_m_firstMismatch_0 ?_
  refine gm_istore_n (lv' := [(1, .inl 0), (0, .inr 133)]) hG d_m_firstMismatch_1 rfl (by decide) rfl ?_
  refine gm_sub [1, 0] rfl ?_
  refine Wm_firstMismatch_2 hG hF gmN (by decide) h (fun  {s6}  h => ?_)
  refine gm_ok (fun hOs6 => ?_)
  refine gm_sipush hG d_m_firstMismatch_29 (by decide) ?_
  exact gm_iret' hF h (by decide) d_m_firstMismatch_32
def Fm_set (a0 : Int) (a1 : Int) (σ : St) : Option (Int × St) := gmG (0 ≤ a0 ∧ a0 < 78) (gmL ((σ 134 (a0).toNat) : Int) (fun x2 => gmL (gmUp σ 134 (a0).toNat a1) (fun s3 => some (x2, s3))))
set_option maxRecDepth 100000 in
set_option maxHeartbeats 4000000 in
theorem Wm_set {a0 : Int} {a1 : Int} {σ : St} {rv : Int} {rs : St} (ra0 : gmR a0) (ra1 : gmR a1) (h : Fm_set a0 a1 σ = some (rv, rs)) : Ctr gmY6_set prog_8_method_20_code 4 (some .int) 0 0 [.inr 133, .inl a0, .inl a1] σ (some rv) rs := by
  refine Ctr.ofI (own := "GarmentMarkerModel") (by decide +kernel) rfl (Nat.le_of_ble_eq_true rfl) (fun φ hG hF => ?_)
  unfold Fm_set at h
  refine gm_lv (l2 := [(0, .inr 133), (1, .inl a0), (2, .inl a1)]) rfl ?_
  refine gm_ok (fun hO => ?_)
  refine gm_aload_n hG 0 d_m_set_0 rfl rfl ?_
  refine gm_getR (t := 134) hG gmF_6_7 gmKc_133 rfl d_m_set_1 ?_
  refine gm_iload_n hG 1 d_m_set_4 rfl rfl ?_
  obtain ⟨g1, h⟩ := gmG_of h
  refine gm_iald (t := (a0).toNat) hG gmKc_134 gmLc_134 g1 rfl d_m_set_5 (fun _ => ?_)
  obtain ⟨x2, ex2, h⟩ := gmL_of h
  refine gm_top ex2 ?_
  refine gm_istore_n (lv' := [(3, .inl x2), (0, .inr 133), (1, .inl a0), (2, .inl a1)]) hG d_m_set_6 rfl (by decide) rfl ?_
  refine gm_aload_n hG 1 d_m_set_7 rfl rfl ?_
  refine gm_getR (t := 134) hG gmF_6_7 gmKc_133 rfl d_m_set_8 ?_
  refine gm_iload_n hG 2 d_m_set_11 rfl rfl ?_
  refine gm_iload_n hG 3 d_m_set_12 rfl rfl ?_
  obtain ⟨s3, es3, h⟩ := gmL_of h
  refine gm_iast (t := (a0).toNat) hG gmKc_134 gmLc_134 g1 rfl ra1 es3 d_m_set_13 ?_
  refine gm_ok (fun hOs3 => ?_)
  refine gm_iload_n hG 0 d_m_set_14 rfl rfl ?_
  exact gm_iret' hF h (gm_kr ex2 (hO 134 (a0).toNat)) d_m_set_15
def Fm_setRatio (a0 : Int) (a1 : Int) (σ : St) : Option (Int × St) := gmB (Fm_isSize a0 σ) (fun r2 s1 => if r2 = 0 then some ((-1002), s1) else gmB (Fm_in a1 0 2 s1) (fun r5 s4 => if r5 = 0 then some ((-1005), s4) else gmG (gmR (67 + a0)) (gmB (Fm_set (67 + a0) a1 s4) (fun r9 s8 => some (r9, s8)))))
set_option maxRecDepth 100000 in
set_option maxHeartbeats 4000000 in
theorem Wm_setRatio {a0 : Int} {a1 : Int} {σ : St} {rv : Int} {rs : St} (ra0 : gmR a0) (ra1 : gmR a1) (h : Fm_setRatio a0 a1 σ = some (rv, rs)) : Ctr gmY6_setRatio prog_8_method_21_code 3 (some .int) 2 42 [.inr 133, .inl a0, .inl a1] σ (some rv) rs := by
  refine Ctr.ofI (own := "GarmentMarkerModel") (by decide +kernel) rfl (Nat.le_of_ble_eq_true rfl) (fun φ hG hF => ?_)
  unfold Fm_setRatio at h
  refine gm_lv (l2 := [(0, .inr 133), (1, .inl a0), (2, .inl a1)]) rfl ?_
  refine gm_ok (fun hO => ?_)
  refine gm_iload_n hG 1 d_m_setRatio_0 rfl rfl ?_
  obtain ⟨r2, s1, es1, h⟩ := gmB_of h
  refine gm_callSi hG [.inl a0] [] gmM_6_71 (Wm_isSize ra0 es1) rfl (by decide) (Nat.le_of_ble_eq_true rfl) rfl d_m_setRatio_1 (fun qr2 => ?_)
  refine gm_ok (fun hOs1 => ?_)
  refine gm_if_ne (tgt := 11) hG d_m_setRatio_4 (by decide) qr2 (fun c3 => ?_) (fun c3 => ?_)
  · replace h := gmI_neg c3 h
    refine gm_iload_n hG 2 d_m_setRatio_11 rfl rfl ?_
    refine gm_iconst hG d_m_setRatio_12 ?_
    refine gm_iconst hG d_m_setRatio_13 ?_
    obtain ⟨r5, s4, es4, h⟩ := gmB_of h
    refine gm_callSi hG [.inl a1, .inl 0, .inl 2] [] gmM_6_59 (Wm_in ra1 (by decide) (by decide) es4) rfl (by decide) (Nat.le_of_ble_eq_true rfl) rfl d_m_setRatio_14 (fun qr5 => ?_)
    refine gm_ok (fun hOs4 => ?_)
    refine gm_if_eq (tgt := 32) hG d_m_setRatio_17 (by decide) qr5 (fun c6 => ?_) (fun c6 => ?_)
    · replace h := gmI_pos c6 h
      refine gm_sipush hG d_m_setRatio_32 (by decide) ?_
      exact gm_iret' hF h (by decide) d_m_setRatio_35
    · replace h := gmI_neg c6 h
      refine gm_aload_n hG 0 d_m_setRatio_20 rfl rfl ?_
      refine gm_bipush hG d_m_setRatio_21 (by decide) ?_
      refine gm_iload_n hG 1 d_m_setRatio_23 rfl rfl ?_
      refine gm_iadd hG d_m_setRatio_24 ?_
      refine gm_iload_n hG 2 d_m_setRatio_25 rfl rfl ?_
      obtain ⟨g7, h⟩ := gmG_of h
      obtain ⟨r9, s8, es8, h⟩ := gmB_of h
      refine gm_callVi hG [.inl (67 + a0), .inl a1] [] gmM_6_91 (Wm_set g7 ra1 es8) gmKc_133 rfl (by decide) (Nat.le_of_ble_eq_true rfl) rfl d_m_setRatio_26 (fun qr9 => ?_)
      refine gm_ok (fun hOs8 => ?_)
      refine gm_goto (tgt := 35) hG d_m_setRatio_29 (by decide) ?_
      exact gm_iret' hF h qr9 d_m_setRatio_35
  · replace h := gmI_pos c3 h
    refine gm_sipush hG d_m_setRatio_7 (by decide) ?_
    exact gm_iret' hF h (by decide) d_m_setRatio_10
def Fm_ratio (a0 : Int) (σ : St) : Option (Int × St) := gmB (Fm_isSize a0 σ) (fun r2 s1 => gmG ((¬ r2 = 0) → 0 ≤ (67 + a0) ∧ (67 + a0) < 78) (some ((if r2 = 0 then (-1002) else (s1 134 ((67 + a0)).toNat)), s1)))
set_option maxRecDepth 100000 in
set_option maxHeartbeats 4000000 in
theorem Wm_ratio {a0 : Int} {σ : St} {rv : Int} {rs : St} (ra0 : gmR a0) (h : Fm_ratio a0 σ = some (rv, rs)) : Ctr gmY6_ratio prog_8_method_22_code 2 (some .int) 2 42 [.inr 133, .inl a0] σ (some rv) rs := by
  refine Ctr.ofI (own := "GarmentMarkerModel") (by decide +kernel) rfl (Nat.le_of_ble_eq_true rfl) (fun φ hG hF => ?_)
  unfold Fm_ratio at h
  refine gm_lv (l2 := [(0, .inr 133), (1, .inl a0)]) rfl ?_
  refine gm_ok (fun hO => ?_)
  refine gm_iload_n hG 1 d_m_ratio_0 rfl rfl ?_
  obtain ⟨r2, s1, es1, h⟩ := gmB_of h
  refine gm_callSi hG [.inl a0] [] gmM_6_71 (Wm_isSize ra0 es1) rfl (by decide) (Nat.le_of_ble_eq_true rfl) rfl d_m_ratio_1 (fun qr2 => ?_)
  refine gm_ok (fun hOs1 => ?_)
  obtain ⟨g4, h⟩ := gmG_of h
  suffices hj : J φ s1 22 [(0, .inr 133), (1, .inl a0)] [.inl (if r2 = 0 then (-1002) else (s1 134 ((67 + a0)).toNat))] by
    refine gm_if_eq (tgt := 19) hG d_m_ratio_4 (by decide) qr2 (fun c3 => ?_) (fun c3 => ?_)
    · replace hj := gmJ_pos c3 hj
      refine gm_sipush hG d_m_ratio_19 (by decide) ?_
      exact hj
    · replace hj := gmJ_neg c3 hj
      refine gm_aload_n hG 0 d_m_ratio_7 rfl rfl ?_
      refine gm_getR (t := 134) hG gmF_6_7 gmKc_133 rfl d_m_ratio_8 ?_
      refine gm_bipush hG d_m_ratio_11 (by decide) ?_
      refine gm_iload_n hG 1 d_m_ratio_13 rfl rfl ?_
      refine gm_iadd hG d_m_ratio_14 ?_
      refine gm_iald (t := ((67 + a0)).toNat) hG gmKc_134 gmLc_134 (g4 c3) rfl d_m_ratio_15 (fun _ => ?_)
      refine gm_goto (tgt := 22) hG d_m_ratio_16 (by decide) ?_
      exact hj
  exact gm_iret' hF h (gmR_ite (fun c3 => (by decide)) (fun c3 => (hOs1 134 ((67 + a0)).toNat))) d_m_ratio_22
def Fm_setClothWidth (a0 : Int) (σ : St) : Option (Int × St) := gmB (Fm_in a0 4 24 σ) (fun r2 s1 => if r2 = 0 then some ((-1005), s1) else gmB (Fm_set 70 a0 s1) (fun r5 s4 => some (r5, s4)))
set_option maxRecDepth 100000 in
set_option maxHeartbeats 4000000 in
theorem Wm_setClothWidth {a0 : Int} {σ : St} {rv : Int} {rs : St} (ra0 : gmR a0) (h : Fm_setClothWidth a0 σ = some (rv, rs)) : Ctr gmY6_setClothWidth prog_8_method_23_code 2 (some .int) 1 23 [.inr 133, .inl a0] σ (some rv) rs := by
  refine Ctr.ofI (own := "GarmentMarkerModel") (by decide +kernel) rfl (Nat.le_of_ble_eq_true rfl) (fun φ hG hF => ?_)
  unfold Fm_setClothWidth at h
  refine gm_lv (l2 := [(0, .inr 133), (1, .inl a0)]) rfl ?_
  refine gm_ok (fun hO => ?_)
  refine gm_iload_n hG 1 d_m_setClothWidth_0 rfl rfl ?_
  refine gm_iconst hG d_m_setClothWidth_1 ?_
  refine gm_bipush hG d_m_setClothWidth_2 (by decide) ?_
  obtain ⟨r2, s1, es1, h⟩ := gmB_of h
  refine gm_callSi hG [.inl a0, .inl 4, .inl 24] [] gmM_6_59 (Wm_in ra0 (by decide) (by decide) es1) rfl (by decide) (Nat.le_of_ble_eq_true rfl) rfl d_m_setClothWidth_4 (fun qr2 => ?_)
  refine gm_ok (fun hOs1 => ?_)
  refine gm_if_eq (tgt := 20) hG d_m_setClothWidth_7 (by decide) qr2 (fun c3 => ?_) (fun c3 => ?_)
  · replace h := gmI_pos c3 h
    refine gm_sipush hG d_m_setClothWidth_20 (by decide) ?_
    exact gm_iret' hF h (by decide) d_m_setClothWidth_23
  · replace h := gmI_neg c3 h
    refine gm_aload_n hG 0 d_m_setClothWidth_10 rfl rfl ?_
    refine gm_bipush hG d_m_setClothWidth_11 (by decide) ?_
    refine gm_iload_n hG 1 d_m_setClothWidth_13 rfl rfl ?_
    obtain ⟨r5, s4, es4, h⟩ := gmB_of h
    refine gm_callVi hG [.inl 70, .inl a0] [] gmM_6_91 (Wm_set (by decide) ra0 es4) gmKc_133 rfl (by decide) (Nat.le_of_ble_eq_true rfl) rfl d_m_setClothWidth_14 (fun qr5 => ?_)
    refine gm_ok (fun hOs4 => ?_)
    refine gm_goto (tgt := 23) hG d_m_setClothWidth_17 (by decide) ?_
    exact gm_iret' hF h qr5 d_m_setClothWidth_23
def Fm_setFolded (a0 : Int) (σ : St) : Option (Int × St) := gmB (Fm_set 71 (if a0 = 0 then 0 else 1) σ) (fun r3 s2 => some ((if r3 = 1 then 1 else 0), s2))
set_option maxRecDepth 100000 in
set_option maxHeartbeats 4000000 in
theorem Wm_setFolded {a0 : Int} {σ : St} {rv : Int} {rs : St} (ra0 : gmR a0) (h : Fm_setFolded a0 σ = some (rv, rs)) : Ctr gmY6_setFolded prog_8_method_24_code 2 (some .boolean) 1 23 [.inr 133, .inl a0] σ (some rv) rs := by
  refine Ctr.ofZ (own := "GarmentMarkerModel") (by decide +kernel) rfl (Nat.le_of_ble_eq_true rfl) (fun φ hG hF => ?_)
  unfold Fm_setFolded at h
  refine gm_lv (l2 := [(0, .inr 133), (1, .inl a0)]) rfl ?_
  refine gm_ok (fun hO => ?_)
  refine gm_aload_n hG 0 d_m_setFolded_0 rfl rfl ?_
  refine gm_bipush hG d_m_setFolded_1 (by decide) ?_
  refine gm_iload_n hG 1 d_m_setFolded_3 rfl rfl ?_
  suffices hj : J φ σ 12 [(0, .inr 133), (1, .inl a0)] [.inl (if a0 = 0 then 0 else 1), .inl 71, .inr 133] by
    refine gm_if_eq (tgt := 11) hG d_m_setFolded_4 (by decide) ra0 (fun c1 => ?_) (fun c1 => ?_)
    · replace hj := gmJ_pos c1 hj
      refine gm_iconst hG d_m_setFolded_11 ?_
      exact hj
    · replace hj := gmJ_neg c1 hj
      refine gm_iconst hG d_m_setFolded_7 ?_
      refine gm_goto (tgt := 12) hG d_m_setFolded_8 (by decide) ?_
      exact hj
  obtain ⟨r3, s2, es2, h⟩ := gmB_of h
  refine gm_callVi hG [.inl 71, .inl (if a0 = 0 then 0 else 1)] [] gmM_6_91 (Wm_set (by decide) (gmR_ite (fun c1 => (by decide)) (fun c1 => (by decide))) es2) gmKc_133 rfl (by decide) (Nat.le_of_ble_eq_true rfl) rfl d_m_setFolded_12 (fun qr3 => ?_)
  refine gm_ok (fun hOs2 => ?_)
  refine gm_iconst hG d_m_setFolded_15 ?_
  suffices hj : J φ s2 24 [(0, .inr 133), (1, .inl a0)] [.inl (if r3 = 1 then 1 else 0)] by
    refine gm_icmp_ne (tgt := 23) hG d_m_setFolded_16 (by decide) qr3 (by decide) (fun c4 => ?_) (fun c4 => ?_)
    · replace hj := gmJ_neg c4 hj
      refine gm_iconst hG d_m_setFolded_23 ?_
      exact hj
    · replace hj := gmJ_pos c4 hj
      refine gm_iconst hG d_m_setFolded_19 ?_
      refine gm_goto (tgt := 24) hG d_m_setFolded_20 (by decide) ?_
      exact hj
  exact gm_zret' hF h (gmZ_ite (fun c4 => (Or.inr rfl)) (fun c4 => (Or.inl rfl))) d_m_setFolded_24
def Fm_setRotation (a0 : Int) (σ : St) : Option (Int × St) := gmB (Fm_set 72 (if a0 = 0 then 0 else 1) σ) (fun r3 s2 => some ((if r3 = 1 then 1 else 0), s2))
set_option maxRecDepth 100000 in
set_option maxHeartbeats 4000000 in
theorem Wm_setRotation {a0 : Int} {σ : St} {rv : Int} {rs : St} (ra0 : gmR a0) (h : Fm_setRotation a0 σ = some (rv, rs)) : Ctr gmY6_setRotation prog_8_method_25_code 2 (some .boolean) 1 23 [.inr 133, .inl a0] σ (some rv) rs := by
  refine Ctr.ofZ (own := "GarmentMarkerModel") (by decide +kernel) rfl (Nat.le_of_ble_eq_true rfl) (fun φ hG hF => ?_)
  unfold Fm_setRotation at h
  refine gm_lv (l2 := [(0, .inr 133), (1, .inl a0)]) rfl ?_
  refine gm_ok (fun hO => ?_)
  refine gm_aload_n hG 0 d_m_setRotation_0 rfl rfl ?_
  refine gm_bipush hG d_m_setRotation_1 (by decide) ?_
  refine gm_iload_n hG 1 d_m_setRotation_3 rfl rfl ?_
  suffices hj : J φ σ 12 [(0, .inr 133), (1, .inl a0)] [.inl (if a0 = 0 then 0 else 1), .inl 72, .inr 133] by
    refine gm_if_eq (tgt := 11) hG d_m_setRotation_4 (by decide) ra0 (fun c1 => ?_) (fun c1 => ?_)
    · replace hj := gmJ_pos c1 hj
      refine gm_iconst hG d_m_setRotation_11 ?_
      exact hj
    · replace hj := gmJ_neg c1 hj
      refine gm_iconst hG d_m_setRotation_7 ?_
      refine gm_goto (tgt := 12) hG d_m_setRotation_8 (by decide) ?_
      exact hj
  obtain ⟨r3, s2, es2, h⟩ := gmB_of h
  refine gm_callVi hG [.inl 72, .inl (if a0 = 0 then 0 else 1)] [] gmM_6_91 (Wm_set (by decide) (gmR_ite (fun c1 => (by decide)) (fun c1 => (by decide))) es2) gmKc_133 rfl (by decide) (Nat.le_of_ble_eq_true rfl) rfl d_m_setRotation_12 (fun qr3 => ?_)
  refine gm_ok (fun hOs2 => ?_)
  refine gm_iconst hG d_m_setRotation_15 ?_
  suffices hj : J φ s2 24 [(0, .inr 133), (1, .inl a0)] [.inl (if r3 = 1 then 1 else 0)] by
    refine gm_icmp_ne (tgt := 23) hG d_m_setRotation_16 (by decide) qr3 (by decide) (fun c4 => ?_) (fun c4 => ?_)
    · replace hj := gmJ_neg c4 hj
      refine gm_iconst hG d_m_setRotation_23 ?_
      exact hj
    · replace hj := gmJ_pos c4 hj
      refine gm_iconst hG d_m_setRotation_19 ?_
      refine gm_goto (tgt := 24) hG d_m_setRotation_20 (by decide) ?_
      exact hj
  exact gm_zret' hF h (gmZ_ite (fun c4 => (Or.inr rfl)) (fun c4 => (Or.inl rfl))) d_m_setRotation_24
def Fm_isPacking (a0 : Int) (a1 : Int) (σ : St) : Option (Int × St) := gmB (Fm_in a0 0 1 σ) (fun r2 s1 => if r2 = 0 then some (0, s1) else gmB (Fm_in a1 0 3 s1) (fun r5 s4 => some ((if r5 = 0 then 0 else 1), s4)))
set_option maxRecDepth 100000 in
set_option maxHeartbeats 4000000 in
theorem Wm_isPacking {a0 : Int} {a1 : Int} {σ : St} {rv : Int} {rs : St} (ra0 : gmR a0) (ra1 : gmR a1) (h : Fm_isPacking a0 a1 σ = some (rv, rs)) : Ctr gmY6_isPacking prog_8_method_26_code 2 (some .boolean) 1 22 [.inl a0, .inl a1] σ (some rv) rs := by
  refine Ctr.ofZ (own := "GarmentMarkerModel") (by decide +kernel) rfl (Nat.le_of_ble_eq_true rfl) (fun φ hG hF => ?_)
  unfold Fm_isPacking at h
  refine gm_lv (l2 := [(0, .inl a0), (1, .inl a1)]) rfl ?_
  refine gm_ok (fun hO => ?_)
  refine gm_iload_n hG 0 d_m_isPacking_0 rfl rfl ?_
  refine gm_iconst hG d_m_isPacking_1 ?_
  refine gm_iconst hG d_m_isPacking_2 ?_
  obtain ⟨r2, s1, es1, h⟩ := gmB_of h
  refine gm_callSi hG [.inl a0, .inl 0, .inl 1] [] gmM_6_59 (Wm_in ra0 (by decide) (by decide) es1) rfl (by decide) (Nat.le_of_ble_eq_true rfl) rfl d_m_isPacking_3 (fun qr2 => ?_)
  refine gm_ok (fun hOs1 => ?_)
  refine gm_if_eq (tgt := 22) hG d_m_isPacking_6 (by decide) qr2 (fun c3 => ?_) (fun c3 => ?_)
  · replace h := gmI_pos c3 h
    refine gm_iconst hG d_m_isPacking_22 ?_
    exact gm_zret' hF h (Or.inl rfl) d_m_isPacking_23
  · replace h := gmI_neg c3 h
    refine gm_iload_n hG 1 d_m_isPacking_9 rfl rfl ?_
    refine gm_iconst hG d_m_isPacking_10 ?_
    refine gm_iconst hG d_m_isPacking_11 ?_
    obtain ⟨r5, s4, es4, h⟩ := gmB_of h
    refine gm_callSi hG [.inl a1, .inl 0, .inl 3] [] gmM_6_59 (Wm_in ra1 (by decide) (by decide) es4) rfl (by decide) (Nat.le_of_ble_eq_true rfl) rfl d_m_isPacking_12 (fun qr5 => ?_)
    refine gm_ok (fun hOs4 => ?_)
    suffices hj : J φ s4 23 [(0, .inl a0), (1, .inl a1)] [.inl (if r5 = 0 then 0 else 1)] by
      refine gm_if_eq (tgt := 22) hG d_m_isPacking_15 (by decide) qr5 (fun c6 => ?_) (fun c6 => ?_)
      · replace hj := gmJ_pos c6 hj
        refine gm_iconst hG d_m_isPacking_22 ?_
        exact hj
      · replace hj := gmJ_neg c6 hj
        refine gm_iconst hG d_m_isPacking_18 ?_
        refine gm_goto (tgt := 23) hG d_m_isPacking_19 (by decide) ?_
        exact hj
    exact gm_zret' hF h (gmZ_ite (fun c6 => (Or.inl rfl)) (fun c6 => (Or.inr rfl))) d_m_isPacking_23
def Fm_setPacking (a0 : Int) (a1 : Int) (σ : St) : Option (Int × St) := gmB (Fm_isPacking a0 a1 σ) (fun r2 s1 => if r2 = 0 then some ((-1005), s1) else gmL (((10 * (s1 134 73)) + (s1 134 74)) : Int) (fun x4 => gmL (gmUp s1 134 73 a0) (fun s5 => gmL (gmUp s5 134 74 a1) (fun s6 => gmG (gmR x4) (some (x4, s6))))))
set_option maxRecDepth 100000 in
set_option maxHeartbeats 4000000 in
theorem Wm_setPacking {a0 : Int} {a1 : Int} {σ : St} {rv : Int} {rs : St} (ra0 : gmR a0) (ra1 : gmR a1) (h : Fm_setPacking a0 a1 σ = some (rv, rs)) : Ctr gmY6_setPacking prog_8_method_27_code 4 (some .int) 2 43 [.inr 133, .inl a0, .inl a1] σ (some rv) rs := by
  refine Ctr.ofI (own := "GarmentMarkerModel") (by decide +kernel) rfl (Nat.le_of_ble_eq_true rfl) (fun φ hG hF => ?_)
  unfold Fm_setPacking at h
  refine gm_lv (l2 := [(0, .inr 133), (1, .inl a0), (2, .inl a1)]) rfl ?_
  refine gm_ok (fun hO => ?_)
  refine gm_iload_n hG 1 d_m_setPacking_0 rfl rfl ?_
  refine gm_iload_n hG 2 d_m_setPacking_1 rfl rfl ?_
  obtain ⟨r2, s1, es1, h⟩ := gmB_of h
  refine gm_callSi hG [.inl a0, .inl a1] [] gmM_6_94 (Wm_isPacking ra0 ra1 es1) rfl (by decide) (Nat.le_of_ble_eq_true rfl) rfl d_m_setPacking_2 (fun qr2 => ?_)
  refine gm_ok (fun hOs1 => ?_)
  refine gm_if_ne (tgt := 12) hG d_m_setPacking_5 (by decide) qr2 (fun c3 => ?_) (fun c3 => ?_)
  · replace h := gmI_neg c3 h
    refine gm_bipush hG d_m_setPacking_12 (by decide) ?_
    refine gm_aload_n hG 0 d_m_setPacking_14 rfl rfl ?_
    refine gm_getR (t := 134) hG gmF_6_7 gmKc_133 rfl d_m_setPacking_15 ?_
    refine gm_bipush hG d_m_setPacking_18 (by decide) ?_
    refine gm_iald (t := 73) hG gmKc_134 gmLc_134 (by decide) rfl d_m_setPacking_20 (fun _ => ?_)
    refine gm_imul hG d_m_setPacking_21 ?_
    refine gm_aload_n hG 0 d_m_setPacking_22 rfl rfl ?_
    refine gm_getR (t := 134) hG gmF_6_7 gmKc_133 rfl d_m_setPacking_23 ?_
    refine gm_bipush hG d_m_setPacking_26 (by decide) ?_
    refine gm_iald (t := 74) hG gmKc_134 gmLc_134 (by decide) rfl d_m_setPacking_28 (fun _ => ?_)
    refine gm_iadd hG d_m_setPacking_29 ?_
    obtain ⟨x4, ex4, h⟩ := gmL_of h
    refine gm_top ex4 ?_
    refine gm_istore_n (lv' := [(3, .inl x4), (0, .inr 133), (1, .inl a0), (2, .inl a1)]) hG d_m_setPacking_30 rfl (by decide) rfl ?_
    refine gm_aload_n hG 1 d_m_setPacking_31 rfl rfl ?_
    refine gm_getR (t := 134) hG gmF_6_7 gmKc_133 rfl d_m_setPacking_32 ?_
    refine gm_bipush hG d_m_setPacking_35 (by decide) ?_
    refine gm_iload_n hG 2 d_m_setPacking_37 rfl rfl ?_
    obtain ⟨s5, es5, h⟩ := gmL_of h
    refine gm_iast (t := 73) hG gmKc_134 gmLc_134 (by decide) rfl ra0 es5 d_m_setPacking_38 ?_
    refine gm_ok (fun hOs5 => ?_)
    refine gm_aload_n hG 1 d_m_setPacking_39 rfl rfl ?_
    refine gm_getR (t := 134) hG gmF_6_7 gmKc_133 rfl d_m_setPacking_40 ?_
    refine gm_bipush hG d_m_setPacking_43 (by decide) ?_
    refine gm_iload_n hG 3 d_m_setPacking_45 rfl rfl ?_
    obtain ⟨s6, es6, h⟩ := gmL_of h
    refine gm_iast (t := 74) hG gmKc_134 gmLc_134 (by decide) rfl ra1 es6 d_m_setPacking_46 ?_
    refine gm_ok (fun hOs6 => ?_)
    refine gm_iload_n hG 0 d_m_setPacking_47 rfl rfl ?_
    obtain ⟨g7, h⟩ := gmG_of h
    exact gm_iret' hF h g7 d_m_setPacking_48
  · replace h := gmI_pos c3 h
    refine gm_sipush hG d_m_setPacking_8 (by decide) ?_
    exact gm_iret' hF h (by decide) d_m_setPacking_11
def Fm_stripWidth (σ : St) : Option (Int × St) := gmG (((σ 134 71) = 1) → 0 ≤ (σ 134 70) ∧ (σ 134 70) < 2147483648) (some ((if (σ 134 71) = 1 then ((σ 134 70) / 2) else (σ 134 70)), σ))
set_option maxRecDepth 100000 in
set_option maxHeartbeats 4000000 in
theorem Wm_stripWidth {σ : St} {rv : Int} {rs : St} (h : Fm_stripWidth σ = some (rv, rs)) : Ctr gmY6_stripWidth prog_8_method_28_code 1 (some .int) 0 0 [.inr 133] σ (some rv) rs := by
  refine Ctr.ofI (own := "GarmentMarkerModel") (by decide +kernel) rfl (Nat.le_of_ble_eq_true rfl) (fun φ hG hF => ?_)
  unfold Fm_stripWidth at h
  refine gm_lv (l2 := [(0, .inr 133)]) rfl ?_
  refine gm_ok (fun hO => ?_)
  refine gm_aload_n hG 0 d_m_stripWidth_0 rfl rfl ?_
  refine gm_getR (t := 134) hG gmF_6_7 gmKc_133 rfl d_m_stripWidth_1 ?_
  refine gm_bipush hG d_m_stripWidth_4 (by decide) ?_
  refine gm_iald (t := 71) hG gmKc_134 gmLc_134 (by decide) rfl d_m_stripWidth_6 (fun _ => ?_)
  refine gm_iconst hG d_m_stripWidth_7 ?_
  obtain ⟨g2, h⟩ := gmG_of h
  suffices hj : J φ σ 30 [(0, .inr 133)] [.inl (if (σ 134 71) = 1 then ((σ 134 70) / 2) else (σ 134 70))] by
    refine gm_icmp_ne (tgt := 23) hG d_m_stripWidth_8 (by decide) (hO 134 71) (by decide) (fun c1 => ?_) (fun c1 => ?_)
    · replace hj := gmJ_neg c1 hj
      refine gm_aload_n hG 0 d_m_stripWidth_23 rfl rfl ?_
      refine gm_getR (t := 134) hG gmF_6_7 gmKc_133 rfl d_m_stripWidth_24 ?_
      refine gm_bipush hG d_m_stripWidth_27 (by decide) ?_
      refine gm_iald (t := 70) hG gmKc_134 gmLc_134 (by decide) rfl d_m_stripWidth_29 (fun _ => ?_)
      exact hj
    · replace hj := gmJ_pos c1 hj
      refine gm_aload_n hG 0 d_m_stripWidth_11 rfl rfl ?_
      refine gm_getR (t := 134) hG gmF_6_7 gmKc_133 rfl d_m_stripWidth_12 ?_
      refine gm_bipush hG d_m_stripWidth_15 (by decide) ?_
      refine gm_iald (t := 70) hG gmKc_134 gmLc_134 (by decide) rfl d_m_stripWidth_17 (fun _ => ?_)
      refine gm_iconst hG d_m_stripWidth_18 ?_
      refine gm_idiv hG d_m_stripWidth_19 (g2 c1) (by decide) (fun _ => ?_)
      refine gm_goto (tgt := 30) hG d_m_stripWidth_20 (by decide) ?_
      exact hj
  exact gm_iret' hF h (gmR_ite (fun c1 => (gm_kdiv (g2 c1) (by decide))) (fun c1 => (hO 134 70))) d_m_stripWidth_30
def Fm_addPart (a0 : Int) (a1 : Int) (σ : St) : Option St := gmB (Fm_widthOf a1 a0 σ) (fun r2 s1 => gmB (Fm_lengthOf a1 a0 s1) (fun r4 s3 => gmG (((s3 134 71) = 1) → 0 ≤ ((0 + (6 * a1)) + 5) ∧ ((0 + (6 * a1)) + 5) < 78) (gmL ((if (s3 134 71) = 1 then (if (s3 134 (((0 + (6 * a1)) + 5)).toNat) = 1 then 1 else 0) else 0) : Int) (fun x8 => gmB (Fm_stripWidth s3) (fun r10 s9 => gmL ((if (s9 134 72) = 1 then (if x8 = 0 then (if r10 < r4 then 0 else (if r10 < r2 then 1 else (if r4 ≤ r2 then 0 else 1))) else 0) else 0) : Int) (fun x16 => gmG (0 ≤ (s9 133 8) ∧ (s9 133 8) < 72) (gmL (gmUp s9 137 ((s9 133 8)).toNat a0) (fun s18 => gmG (0 ≤ (s18 133 8) ∧ (s18 133 8) < 72) (gmL (gmUp s18 138 ((s18 133 8)).toNat a1) (fun s20 => gmG ((¬ x8 = 0) → 0 ≤ (r2 + 1) ∧ (r2 + 1) < 2147483648) (gmG (0 ≤ (s20 133 8) ∧ (s20 133 8) < 72) (gmL (gmUp s20 139 ((s20 133 8)).toNat (if x8 = 0 then (if x16 = 0 then r2 else r4) else ((r2 + 1) / 2))) (fun s25 => gmG (0 ≤ (s25 133 8) ∧ (s25 133 8) < 72) (gmL (gmUp s25 140 ((s25 133 8)).toNat (if x16 = 0 then r4 else r2)) (fun s28 => gmG (0 ≤ (s28 133 8) ∧ (s28 133 8) < 72) (gmL (gmUp s28 141 ((s28 133 8)).toNat x8) (fun s30 => gmG (gmR ((s30 133 8) + 1)) (gmL (gmUp s30 133 8 ((s30 133 8) + 1)) (fun s32 => some s32)))))))))))))))))))
set_option maxRecDepth 100000 in
set_option maxHeartbeats 4000000 in
theorem Wm_addPart {a0 : Int} {a1 : Int} {σ : St} {rs : St} (ra0 : gmR a0) (ra1 : gmR a1) (h : Fm_addPart a0 a1 σ = some rs) : Ctr gmY6_addPart prog_8_method_29_code 8 none 1 22 [.inr 133, .inl a0, .inl a1] σ none rs := by
  refine Ctr.ofV (own := "GarmentMarkerModel") (by decide +kernel) rfl (Nat.le_of_ble_eq_true rfl) (fun φ hG hF => ?_)
  unfold Fm_addPart at h
  refine gm_lv (l2 := [(0, .inr 133), (1, .inl a0), (2, .inl a1)]) rfl ?_
  refine gm_ok (fun hO => ?_)
  refine gm_aload_n hG 0 d_m_addPart_0 rfl rfl ?_
  refine gm_iload_n hG 2 d_m_addPart_1 rfl rfl ?_
  refine gm_iload_n hG 1 d_m_addPart_2 rfl rfl ?_
  obtain ⟨r2, s1, es1, h⟩ := gmB_of h
  refine gm_callVi hG [.inl a1, .inl a0] [] gmM_6_74 (Wm_widthOf ra1 ra0 es1) gmKc_133 rfl (by decide) (Nat.le_of_ble_eq_true rfl) rfl d_m_addPart_3 (fun qr2 => ?_)
  refine gm_ok (fun hOs1 => ?_)
  refine gm_istore_n (lv' := [(3, .inl r2), (0, .inr 133), (1, .inl a0), (2, .inl a1)]) hG d_m_addPart_6 rfl (by decide) rfl ?_
  refine gm_aload_n hG 1 d_m_addPart_7 rfl rfl ?_
  refine gm_iload_n hG 3 d_m_addPart_8 rfl rfl ?_
  refine gm_iload_n hG 2 d_m_addPart_9 rfl rfl ?_
  obtain ⟨r4, s3, es3, h⟩ := gmB_of h
  refine gm_callVi hG [.inl a1, .inl a0] [] gmM_6_78 (Wm_lengthOf ra1 ra0 es3) gmKc_133 rfl (by decide) (Nat.le_of_ble_eq_true rfl) rfl d_m_addPart_10 (fun qr4 => ?_)
  refine gm_ok (fun hOs3 => ?_)
  refine gm_istore (lv' := [(4, .inl r4), (3, .inl r2), (0, .inr 133), (1, .inl a0), (2, .inl a1)]) hG d_m_addPart_13 (by decide) rfl ?_
  refine gm_aload_n hG 2 d_m_addPart_15 rfl rfl ?_
  refine gm_getR (t := 134) hG gmF_6_7 gmKc_133 rfl d_m_addPart_16 ?_
  refine gm_bipush hG d_m_addPart_19 (by decide) ?_
  refine gm_iald (t := 71) hG gmKc_134 gmLc_134 (by decide) rfl d_m_addPart_21 (fun _ => ?_)
  refine gm_iconst hG d_m_addPart_22 ?_
  obtain ⟨g6, h⟩ := gmG_of h
  suffices hj : J φ s3 48 [(4, .inl r4), (3, .inl r2), (0, .inr 133), (1, .inl a0), (2, .inl a1)] [.inl (if (s3 134 71) = 1 then (if (s3 134 (((0 + (6 * a1)) + 5)).toNat) = 1 then 1 else 0) else 0)] by
    refine gm_icmp_ne (tgt := 47) hG d_m_addPart_23 (by decide) (hOs3 134 71) (by decide) (fun c5 => ?_) (fun c5 => ?_)
    · replace hj := gmJ_neg c5 hj
      refine gm_iconst hG d_m_addPart_47 ?_
      exact hj
    · replace hj := gmJ_pos c5 hj
      refine gm_aload_n hG 2 d_m_addPart_26 rfl rfl ?_
      refine gm_getR (t := 134) hG gmF_6_7 gmKc_133 rfl d_m_addPart_27 ?_
      refine gm_iconst hG d_m_addPart_30 ?_
      refine gm_bipush hG d_m_addPart_31 (by decide) ?_
      refine gm_iload_n hG 4 d_m_addPart_33 rfl rfl ?_
      refine gm_imul hG d_m_addPart_34 ?_
      refine gm_iadd hG d_m_addPart_35 ?_
      refine gm_iconst hG d_m_addPart_36 ?_
      refine gm_iadd hG d_m_addPart_37 ?_
      refine gm_iald (t := (((0 + (6 * a1)) + 5)).toNat) hG gmKc_134 gmLc_134 (g6 c5) rfl d_m_addPart_38 (fun _ => ?_)
      refine gm_iconst hG d_m_addPart_39 ?_
      refine gm_icmp_ne (tgt := 47) hG d_m_addPart_40 (by decide) (hOs3 134 (((0 + (6 * a1)) + 5)).toNat) (by decide) (fun c7 => ?_) (fun c7 => ?_)
      · replace hj := gmJ_neg c7 hj
        refine gm_iconst hG d_m_addPart_47 ?_
        exact hj
      · replace hj := gmJ_pos c7 hj
        refine gm_iconst hG d_m_addPart_43 ?_
        refine gm_goto (tgt := 48) hG d_m_addPart_44 (by decide) ?_
        exact hj
  obtain ⟨x8, ex8, h⟩ := gmL_of h
  refine gm_top ex8 ?_
  refine gm_istore (lv' := [(5, .inl x8), (4, .inl r4), (3, .inl r2), (0, .inr 133), (1, .inl a0), (2, .inl a1)]) hG d_m_addPart_48 (by decide) rfl ?_
  refine gm_aload_n hG 3 d_m_addPart_50 rfl rfl ?_
  obtain ⟨r10, s9, es9, h⟩ := gmB_of h
  refine gm_callVi hG [] [] gmM_6_98 (Wm_stripWidth es9) gmKc_133 rfl (by decide) (Nat.le_of_ble_eq_true rfl) rfl d_m_addPart_51 (fun qr10 => ?_)
  refine gm_ok (fun hOs9 => ?_)
  refine gm_istore (lv' := [(6, .inl r10), (5, .inl x8), (4, .inl r4), (3, .inl r2), (0, .inr 133), (1, .inl a0), (2, .inl a1)]) hG d_m_addPart_54 (by decide) rfl ?_
  refine gm_aload_n hG 4 d_m_addPart_56 rfl rfl ?_
  refine gm_getR (t := 134) hG gmF_6_7 gmKc_133 rfl d_m_addPart_57 ?_
  refine gm_bipush hG d_m_addPart_60 (by decide) ?_
  refine gm_iald (t := 72) hG gmKc_134 gmLc_134 (by decide) rfl d_m_addPart_62 (fun _ => ?_)
  refine gm_iconst hG d_m_addPart_63 ?_
  suffices hj : J φ s9 96 [(6, .inl r10), (5, .inl x8), (4, .inl r4), (3, .inl r2), (0, .inr 133), (1, .inl a0), (2, .inl a1)] [.inl (if (s9 134 72) = 1 then (if x8 = 0 then (if r10 < r4 then 0 else (if r10 < r2 then 1 else (if r4 ≤ r2 then 0 else 1))) else 0) else 0)] by
    refine gm_icmp_ne (tgt := 95) hG d_m_addPart_64 (by decide) (hOs9 134 72) (by decide) (fun c11 => ?_) (fun c11 => ?_)
    · replace hj := gmJ_neg c11 hj
      refine gm_iconst hG d_m_addPart_95 ?_
      exact hj
    · replace hj := gmJ_pos c11 hj
      refine gm_iload hG 1 d_m_addPart_67 rfl ?_
      refine gm_if_ne (tgt := 95) hG d_m_addPart_69 (by decide) (gm_kr ex8 (gmR_ite (fun c5 => (gmR_ite (fun c7 => (by decide)) (fun c7 => (by decide)))) (fun c5 => (by decide)))) (fun c12 => ?_) (fun c12 => ?_)
      · replace hj := gmJ_neg c12 hj
        refine gm_iconst hG d_m_addPart_95 ?_
        exact hj
      · replace hj := gmJ_pos c12 hj
        refine gm_iload hG 2 d_m_addPart_72 rfl ?_
        refine gm_iload hG 0 d_m_addPart_74 rfl ?_
        refine gm_icmp_gt (tgt := 95) hG d_m_addPart_76 (by decide) qr4 qr10 (fun c13 => ?_) (fun c13 => ?_)
        · replace hj := gmJ_pos c13 hj
          refine gm_iconst hG d_m_addPart_95 ?_
          exact hj
        · replace hj := gmJ_neg c13 hj
          refine gm_iload_n hG 3 d_m_addPart_79 rfl rfl ?_
          refine gm_iload hG 0 d_m_addPart_80 rfl ?_
          refine gm_icmp_gt (tgt := 91) hG d_m_addPart_82 (by decide) qr2 qr10 (fun c14 => ?_) (fun c14 => ?_)
          · replace hj := gmJ_pos c14 hj
            refine gm_iconst hG d_m_addPart_91 ?_
            refine gm_goto (tgt := 96) hG d_m_addPart_92 (by decide) ?_
            exact hj
          · replace hj := gmJ_neg c14 hj
            refine gm_iload_n hG 3 d_m_addPart_85 rfl rfl ?_
            refine gm_iload hG 2 d_m_addPart_86 rfl ?_
            refine gm_icmp_ge (tgt := 95) hG d_m_addPart_88 (by decide) qr2 qr4 (fun c15 => ?_) (fun c15 => ?_)
            · replace hj := gmJ_pos c15 hj
              refine gm_iconst hG d_m_addPart_95 ?_
              exact hj
            · replace hj := gmJ_neg c15 hj
              refine gm_iconst hG d_m_addPart_91 ?_
              refine gm_goto (tgt := 96) hG d_m_addPart_92 (by decide) ?_
              exact hj
  obtain ⟨x16, ex16, h⟩ := gmL_of h
  refine gm_top ex16 ?_
  refine gm_istore (lv' := [(7, .inl x16), (6, .inl r10), (5, .inl x8), (4, .inl r4), (3, .inl r2), (0, .inr 133), (1, .inl a0), (2, .inl a1)]) hG d_m_addPart_96 (by decide) rfl ?_
  refine gm_aload_n hG 5 d_m_addPart_98 rfl rfl ?_
  refine gm_getR (t := 137) hG gmF_6_20 gmKc_133 rfl d_m_addPart_99 ?_
  refine gm_aload_n hG 5 d_m_addPart_102 rfl rfl ?_
  refine gm_getI hG gmF_6_102 gmKc_133 rfl d_m_addPart_103 (fun _ => ?_)
  refine gm_iload_n hG 6 d_m_addPart_106 rfl rfl ?_
  obtain ⟨g17, h⟩ := gmG_of h
  obtain ⟨s18, es18, h⟩ := gmL_of h
  refine gm_iast (t := ((s9 133 8)).toNat) hG gmKc_137 gmLc_137 g17 rfl ra0 es18 d_m_addPart_107 ?_
  refine gm_ok (fun hOs18 => ?_)
  refine gm_aload_n hG 5 d_m_addPart_108 rfl rfl ?_
  refine gm_getR (t := 138) hG gmF_6_23 gmKc_133 rfl d_m_addPart_109 ?_
  refine gm_aload_n hG 5 d_m_addPart_112 rfl rfl ?_
  refine gm_getI hG gmF_6_102 gmKc_133 rfl d_m_addPart_113 (fun _ => ?_)
  refine gm_iload_n hG 7 d_m_addPart_116 rfl rfl ?_
  obtain ⟨g19, h⟩ := gmG_of h
  obtain ⟨s20, es20, h⟩ := gmL_of h
  refine gm_iast (t := ((s18 133 8)).toNat) hG gmKc_138 gmLc_138 g19 rfl ra1 es20 d_m_addPart_117 ?_
  refine gm_ok (fun hOs20 => ?_)
  refine gm_aload_n hG 5 d_m_addPart_118 rfl rfl ?_
  refine gm_getR (t := 139) hG gmF_6_26 gmKc_133 rfl d_m_addPart_119 ?_
  refine gm_aload_n hG 5 d_m_addPart_122 rfl rfl ?_
  refine gm_getI hG gmF_6_102 gmKc_133 rfl d_m_addPart_123 (fun _ => ?_)
  refine gm_iload hG 2 d_m_addPart_126 rfl ?_
  obtain ⟨g23, h⟩ := gmG_of h
  suffices hj : J φ s20 150 [(7, .inl x16), (6, .inl r10), (5, .inl x8), (4, .inl r4), (3, .inl r2), (0, .inr 133), (1, .inl a0), (2, .inl a1)] [.inl (if x8 = 0 then (if x16 = 0 then r2 else r4) else ((r2 + 1) / 2)), .inl (s20 133 8), .inr 139] by
    refine gm_if_eq (tgt := 139) hG d_m_addPart_128 (by decide) (gm_kr ex8 (gmR_ite (fun c5 => (gmR_ite (fun c7 => (by decide)) (fun c7 => (by decide)))) (fun c5 => (by decide)))) (fun c21 => ?_) (fun c21 => ?_)
    · replace hj := gmJ_pos c21 hj
      refine gm_iload hG 0 d_m_addPart_139 rfl ?_
      refine gm_if_eq (tgt := 149) hG d_m_addPart_141 (by decide) (gm_kr ex16 (gmR_ite (fun c11 => (gmR_ite (fun c12 => (gmR_ite (fun c13 => (by decide)) (fun c13 => (gmR_ite (fun c14 => (by decide)) (fun c14 => (gmR_ite (fun c15 => (by decide)) (fun c15 => (by decide)))))))) (fun c12 => (by decide)))) (fun c11 => (by decide)))) (fun c22 => ?_) (fun c22 => ?_)
      · replace hj := gmJ_pos c22 hj
        refine gm_iload_n hG 4 d_m_addPart_149 rfl rfl ?_
        exact hj
      · replace hj := gmJ_neg c22 hj
        refine gm_iload hG 3 d_m_addPart_144 rfl ?_
        refine gm_goto (tgt := 150) hG d_m_addPart_146 (by decide) ?_
        exact hj
    · replace hj := gmJ_neg c21 hj
      refine gm_iload_n hG 4 d_m_addPart_131 rfl rfl ?_
      refine gm_iconst hG d_m_addPart_132 ?_
      refine gm_iadd hG d_m_addPart_133 ?_
      refine gm_iconst hG d_m_addPart_134 ?_
      refine gm_idiv hG d_m_addPart_135 (g23 c21) (by decide) (fun _ => ?_)
      refine gm_goto (tgt := 150) hG d_m_addPart_136 (by decide) ?_
      exact hj
  obtain ⟨g24, h⟩ := gmG_of h
  obtain ⟨s25, es25, h⟩ := gmL_of h
  refine gm_iast (t := ((s20 133 8)).toNat) hG gmKc_139 gmLc_139 g24 rfl (gmR_ite (fun c21 => (gmR_ite (fun c22 => qr2) (fun c22 => qr4))) (fun c21 => (gm_kdiv (g23 c21) (by decide)))) es25 d_m_addPart_150 ?_
  refine gm_ok (fun hOs25 => ?_)
  refine gm_aload_n hG 5 d_m_addPart_151 rfl rfl ?_
  refine gm_getR (t := 140) hG gmF_6_29 gmKc_133 rfl d_m_addPart_152 ?_
  refine gm_aload_n hG 5 d_m_addPart_155 rfl rfl ?_
  refine gm_getI hG gmF_6_102 gmKc_133 rfl d_m_addPart_156 (fun _ => ?_)
  refine gm_iload hG 0 d_m_addPart_159 rfl ?_
  suffices hj : J φ s25 170 [(7, .inl x16), (6, .inl r10), (5, .inl x8), (4, .inl r4), (3, .inl r2), (0, .inr 133), (1, .inl a0), (2, .inl a1)] [.inl (if x16 = 0 then r4 else r2), .inl (s25 133 8), .inr 140] by
    refine gm_if_eq (tgt := 168) hG d_m_addPart_161 (by decide) (gm_kr ex16 (gmR_ite (fun c11 => (gmR_ite (fun c12 => (gmR_ite (fun c13 => (by decide)) (fun c13 => (gmR_ite (fun c14 => (by decide)) (fun c14 => (gmR_ite (fun c15 => (by decide)) (fun c15 => (by decide)))))))) (fun c12 => (by decide)))) (fun c11 => (by decide)))) (fun c26 => ?_) (fun c26 => ?_)
    · replace hj := gmJ_pos c26 hj
      refine gm_iload hG 3 d_m_addPart_168 rfl ?_
      exact hj
    · replace hj := gmJ_neg c26 hj
      refine gm_iload_n hG 4 d_m_addPart_164 rfl rfl ?_
      refine gm_goto (tgt := 170) hG d_m_addPart_165 (by decide) ?_
      exact hj
  obtain ⟨g27, h⟩ := gmG_of h
  obtain ⟨s28, es28, h⟩ := gmL_of h
  refine gm_iast (t := ((s25 133 8)).toNat) hG gmKc_140 gmLc_140 g27 rfl (gmR_ite (fun c26 => qr4) (fun c26 => qr2)) es28 d_m_addPart_170 ?_
  refine gm_ok (fun hOs28 => ?_)
  refine gm_aload_n hG 5 d_m_addPart_171 rfl rfl ?_
  refine gm_getR (t := 141) hG gmF_6_32 gmKc_133 rfl d_m_addPart_172 ?_
  refine gm_aload_n hG 5 d_m_addPart_175 rfl rfl ?_
  refine gm_getI hG gmF_6_102 gmKc_133 rfl d_m_addPart_176 (fun _ => ?_)
  refine gm_iload hG 2 d_m_addPart_179 rfl ?_
  obtain ⟨g29, h⟩ := gmG_of h
  obtain ⟨s30, es30, h⟩ := gmL_of h
  refine gm_bast (t := ((s28 133 8)).toNat) hG gmKc_141 gmLc_141 g29 rfl (gm_kz ex8 (gmZ_ite (fun c5 => (gmZ_ite (fun c7 => (Or.inr rfl)) (fun c7 => (Or.inl rfl)))) (fun c5 => (Or.inl rfl)))) es30 d_m_addPart_181 ?_
  refine gm_ok (fun hOs30 => ?_)
  refine gm_aload_n hG 5 d_m_addPart_182 rfl rfl ?_
  refine gm_dup hG d_m_addPart_183 ?_
  refine gm_getI hG gmF_6_102 gmKc_133 rfl d_m_addPart_184 (fun _ => ?_)
  refine gm_iconst hG d_m_addPart_187 ?_
  refine gm_iadd hG d_m_addPart_188 ?_
  obtain ⟨g31, h⟩ := gmG_of h
  obtain ⟨s32, es32, h⟩ := gmL_of h
  refine gm_putI hG gmF_6_102 gmKc_133 rfl rfl (by decide +kernel) g31 es32 d_m_addPart_189 ?_
  refine gm_ok (fun hOs32 => ?_)
  exact gm_vret' hF h d_m_addPart_192
def Fm_layParts_80 : Nat → Int → Int → Int → Int → Int → St → (St → Option St) → Option St
  | 0, _, _, _, _, _, _, _ => none
  | n + 1, y1, y2, y3, y4, y5, σ, k => if y4 ≤ y5 then k σ else gmBv (Fm_addPart y1 y3 σ) (fun s13 => gmG (gmR (y5 + 1)) (Fm_layParts_80 n y1 y2 y3 y4 (y5 + 1) s13 k))
def Fm_layParts_29 : Nat → Int → Int → Int → St → (St → Option St) → Option St
  | 0, _, _, _, _, _ => none
  | n + 1, y1, y2, y3, σ, k => if 6 ≤ y3 then k σ else gmB (Fm_isPiece y3 σ) (fun r7 s6 => gmG ((¬ r7 = 0) → (¬ (s6 134 71) = 1) → 0 ≤ ((0 + (6 * y3)) + 5) ∧ ((0 + (6 * y3)) + 5) < 78) (gmL ((if r7 = 0 then 0 else (if (s6 134 71) = 1 then 1 else (s6 134 (((0 + (6 * y3)) + 5)).toNat))) : Int) (fun x11 => Fm_layParts_80 gmN y1 y2 y3 x11 0 s6 (fun s15 => gmG (gmR (y3 + 1)) (Fm_layParts_29 n y1 y2 (y3 + 1) s15 k)))))
def Fm_layParts_14 : Nat → Int → Int → St → (St → Option St) → Option St
  | 0, _, _, _, _ => none
  | n + 1, y1, y2, σ, k => gmG (0 ≤ (67 + y1) ∧ (67 + y1) < 78) (if (σ 134 ((67 + y1)).toNat) ≤ y2 then k σ else Fm_layParts_29 gmN y1 y2 0 σ (fun s17 => gmG (gmR (y2 + 1)) (Fm_layParts_14 n y1 (y2 + 1) s17 k)))
def Fm_layParts_7 : Nat → Int → St → (St → Option St) → Option St
  | 0, _, _, _ => none
  | n + 1, y1, σ, k => if 3 ≤ y1 then k σ else Fm_layParts_14 gmN y1 0 σ (fun s19 => gmG (gmR (y1 + 1)) (Fm_layParts_7 n (y1 + 1) s19 k))
def Fm_layParts (σ : St) : Option St := gmL (gmUp σ 133 8 0) (fun s1 => Fm_layParts_7 gmN 0 s1 (fun s21 => some s21))
set_option maxRecDepth 100000 in
set_option maxHeartbeats 4000000 in
theorem Wm_layParts_80 {φ : Fx} {rs : St} (hG : Good φ "GarmentMarkerModel" prog_8_method_30_code 6 2 49) (hF : FinV φ prog_8_method_30_code rs) : ∀ (n : Nat) {y1 : Int} {y2 : Int} {y3 : Int} {y4 : Int} {y5 : Int} {σ : St} {k : St → Option St}, gmR y1 → gmR y2 → gmR y3 → gmR y4 → gmR y5 → Fm_layParts_80 n y1 y2 y3 y4 y5 σ k = some rs → (∀ {τ : St}, k τ = some rs → J φ τ 99 [(0, .inr 133), (1, .inl y1), (2, .inl y2), (3, .inl y3)] []) → J φ σ 80 [(0, .inr 133), (1, .inl y1), (2, .inl y2), (3, .inl y3), (4, .inl y4), (5, .inl y5)] [] := by
  intro n
  induction n with
  | zero =>
    intro _ _ _ _ _ _ _ _ _ _ _ _ h
    exact absurd h (by rw [Fm_layParts_80.eq_1]; exact fun q => by cases q)
  | succ n ih =>
    intro y1 y2 y3 y4 y5 σ k r1 r2 r3 r4 r5 h hk
    rw [Fm_layParts_80.eq_2] at h
    refine gm_ok (fun hO => ?_)
    refine gm_iload hG 5 d_m_layParts_80 rfl ?_
    refine gm_iload hG 4 d_m_layParts_82 rfl ?_
    refine gm_icmp_ge (tgt := 99) hG d_m_layParts_84 (by decide) r5 r4 (fun c12 => ?_) (fun c12 => ?_)
    · replace h := gmI_pos c12 h
      refine gm_sub [0, 1, 2, 3] rfl ?_
      exact hk h
    · replace h := gmI_neg c12 h
      refine gm_aload_n hG 0 d_m_layParts_87 rfl rfl ?_
      refine gm_iload_n hG 1 d_m_layParts_88 rfl rfl ?_
      refine gm_iload_n hG 3 d_m_layParts_89 rfl rfl ?_
      obtain ⟨s13, es13, h⟩ := gmBv_of h
      refine gm_callVv hG [.inl y1, .inl y3] [] gmM_6_106 (Wm_addPart r1 r3 es13) gmKc_133 rfl (by decide) (Nat.le_of_ble_eq_true rfl) rfl d_m_layParts_90 ?_
      refine gm_ok (fun hOs13 => ?_)
      refine gm_iinc (lv' := [(5, .inl (y5 + 1)), (0, .inr 133), (1, .inl y1), (2, .inl y2), (3, .inl y3), (4, .inl y4)]) hG 5 d_m_layParts_93 rfl (by decide) rfl ?_
      refine gm_goto (tgt := 80) hG d_m_layParts_96 (by decide) ?_
      obtain ⟨g14, h⟩ := gmG_of h
      refine gm_sub [1, 2, 3, 4, 5, 0] rfl ?_
      exact ih r1 r2 r3 r4 g14 h hk
set_option maxRecDepth 100000 in
set_option maxHeartbeats 4000000 in
theorem Wm_layParts_29 {φ : Fx} {rs : St} (hG : Good φ "GarmentMarkerModel" prog_8_method_30_code 6 2 49) (hF : FinV φ prog_8_method_30_code rs) : ∀ (n : Nat) {y1 : Int} {y2 : Int} {y3 : Int} {σ : St} {k : St → Option St}, gmR y1 → gmR y2 → gmR y3 → Fm_layParts_29 n y1 y2 y3 σ k = some rs → (∀ {τ : St}, k τ = some rs → J φ τ 105 [(0, .inr 133), (1, .inl y1), (2, .inl y2)] []) → J φ σ 29 [(0, .inr 133), (1, .inl y1), (2, .inl y2), (3, .inl y3)] [] := by
  intro n
  induction n with
  | zero =>
    intro _ _ _ _ _ _ _ _ h
    exact absurd h (by rw [Fm_layParts_29.eq_1]; exact fun q => by cases q)
  | succ n ih =>
    intro y1 y2 y3 σ k r1 r2 r3 h hk
    rw [Fm_layParts_29.eq_2] at h
    refine gm_ok (fun hO => ?_)
    refine gm_iload_n hG 3 d_m_layParts_29 rfl rfl ?_
    refine gm_bipush hG d_m_layParts_30 (by decide) ?_
    refine gm_icmp_ge (tgt := 105) hG d_m_layParts_32 (by decide) r3 (by decide) (fun c5 => ?_) (fun c5 => ?_)
    · replace h := gmI_pos c5 h
      refine gm_sub [0, 1, 2] rfl ?_
      exact hk h
    · replace h := gmI_neg c5 h
      refine gm_aload_n hG 0 d_m_layParts_35 rfl rfl ?_
      refine gm_iload_n hG 3 d_m_layParts_36 rfl rfl ?_
      obtain ⟨r7, s6, es6, h⟩ := gmB_of h
      refine gm_callVi hG [.inl y3] [] gmM_6_63 (Wm_isPiece r3 es6) gmKc_133 rfl (by decide) (Nat.le_of_ble_eq_true rfl) rfl d_m_layParts_37 (fun qr7 => ?_)
      refine gm_ok (fun hOs6 => ?_)
      obtain ⟨g10, h⟩ := gmG_of h
      suffices hj : J φ s6 75 [(0, .inr 133), (1, .inl y1), (2, .inl y2), (3, .inl y3)] [.inl (if r7 = 0 then 0 else (if (s6 134 71) = 1 then 1 else (s6 134 (((0 + (6 * y3)) + 5)).toNat)))] by
        refine gm_if_ne (tgt := 47) hG d_m_layParts_40 (by decide) qr7 (fun c8 => ?_) (fun c8 => ?_)
        · replace hj := gmJ_neg c8 hj
          refine gm_aload_n hG 0 d_m_layParts_47 rfl rfl ?_
          refine gm_getR (t := 134) hG gmF_6_7 gmKc_133 rfl d_m_layParts_48 ?_
          refine gm_bipush hG d_m_layParts_51 (by decide) ?_
          refine gm_iald (t := 71) hG gmKc_134 gmLc_134 (by decide) rfl d_m_layParts_53 (fun _ => ?_)
          refine gm_iconst hG d_m_layParts_54 ?_
          refine gm_icmp_ne (tgt := 62) hG d_m_layParts_55 (by decide) (hOs6 134 71) (by decide) (fun c9 => ?_) (fun c9 => ?_)
          · replace hj := gmJ_neg c9 hj
            refine gm_aload_n hG 0 d_m_layParts_62 rfl rfl ?_
            refine gm_getR (t := 134) hG gmF_6_7 gmKc_133 rfl d_m_layParts_63 ?_
            refine gm_iconst hG d_m_layParts_66 ?_
            refine gm_bipush hG d_m_layParts_67 (by decide) ?_
            refine gm_iload_n hG 3 d_m_layParts_69 rfl rfl ?_
            refine gm_imul hG d_m_layParts_70 ?_
            refine gm_iadd hG d_m_layParts_71 ?_
            refine gm_iconst hG d_m_layParts_72 ?_
            refine gm_iadd hG d_m_layParts_73 ?_
            refine gm_iald (t := (((0 + (6 * y3)) + 5)).toNat) hG gmKc_134 gmLc_134 (g10 c8 c9) rfl d_m_layParts_74 (fun _ => ?_)
            exact hj
          · replace hj := gmJ_pos c9 hj
            refine gm_iconst hG d_m_layParts_58 ?_
            refine gm_goto (tgt := 75) hG d_m_layParts_59 (by decide) ?_
            exact hj
        · replace hj := gmJ_pos c8 hj
          refine gm_iconst hG d_m_layParts_43 ?_
          refine gm_goto (tgt := 75) hG d_m_layParts_44 (by decide) ?_
          exact hj
      obtain ⟨x11, ex11, h⟩ := gmL_of h
      refine gm_top ex11 ?_
      refine gm_istore (lv' := [(4, .inl x11), (0, .inr 133), (1, .inl y1), (2, .inl y2), (3, .inl y3)]) hG d_m_layParts_75 (by decide) rfl ?_
      refine gm_iconst hG d_m_layParts_77 ?_
      refine gm_istore (lv' := [(5, .inl 0), (4, .inl x11), (0, .inr 133), (1, .inl y1), (2, .inl y2), (3, .inl y3)]) hG d_m_layParts_78 (by decide) rfl ?_
      refine gm_sub [2, 3, 4, 5, 1, 0] rfl ?_
      refine Wm_layParts_80 hG hF gmN r1 r2 r3 (gm_kr ex11 (gmR_ite (fun c8 => (by decide)) (fun c8 => (gmR_ite (fun c9 => (by decide)) (fun c9 => (hOs6 134 (((0 + (6 * y3)) + 5)).toNat)))))) (by decide) h (fun  {s15}  h => ?_)
      refine gm_ok (fun hOs15 => ?_)
      refine gm_iinc (lv' := [(3, .inl (y3 + 1)), (0, .inr 133), (1, .inl y1), (2, .inl y2)]) hG 3 d_m_layParts_99 rfl (by decide) rfl ?_
      refine gm_goto (tgt := 29) hG d_m_layParts_102 (by decide) ?_
      obtain ⟨g16, h⟩ := gmG_of h
      refine gm_sub [1, 2, 3, 0] rfl ?_
      exact ih r1 r2 g16 h hk
set_option maxRecDepth 100000 in
set_option maxHeartbeats 4000000 in
theorem Wm_layParts_14 {φ : Fx} {rs : St} (hG : Good φ "GarmentMarkerModel" prog_8_method_30_code 6 2 49) (hF : FinV φ prog_8_method_30_code rs) : ∀ (n : Nat) {y1 : Int} {y2 : Int} {σ : St} {k : St → Option St}, gmR y1 → gmR y2 → Fm_layParts_14 n y1 y2 σ k = some rs → (∀ {τ : St}, k τ = some rs → J φ τ 111 [(0, .inr 133), (1, .inl y1)] []) → J φ σ 14 [(0, .inr 133), (1, .inl y1), (2, .inl y2)] [] := by
  intro n
  induction n with
  | zero =>
    intro _ _ _ _ _ _ h
    exact absurd h (by rw [Fm_layParts_14.eq_1]; exact fun q => by cases q)
  | succ n ih =>
    intro y1 y2 σ k r1 r2 h hk
    rw [Fm_layParts_14.eq_2] at h
    refine gm_ok (fun hO => ?_)
    refine gm_iload_n hG 2 d_m_layParts_14 rfl rfl ?_
    refine gm_aload_n hG 0 d_m_layParts_15 rfl rfl ?_
    refine gm_getR (t := 134) hG gmF_6_7 gmKc_133 rfl d_m_layParts_16 ?_
    refine gm_bipush hG d_m_layParts_19 (by decide) ?_
    refine gm_iload_n hG 1 d_m_layParts_21 rfl rfl ?_
    refine gm_iadd hG d_m_layParts_22 ?_
    obtain ⟨g3, h⟩ := gmG_of h
    refine gm_iald (t := ((67 + y1)).toNat) hG gmKc_134 gmLc_134 g3 rfl d_m_layParts_23 (fun _ => ?_)
    refine gm_icmp_ge (tgt := 111) hG d_m_layParts_24 (by decide) r2 (hO 134 ((67 + y1)).toNat) (fun c4 => ?_) (fun c4 => ?_)
    · replace h := gmI_pos c4 h
      refine gm_sub [0, 1] rfl ?_
      exact hk h
    · replace h := gmI_neg c4 h
      refine gm_iconst hG d_m_layParts_27 ?_
      refine gm_istore_n (lv' := [(3, .inl 0), (0, .inr 133), (1, .inl y1), (2, .inl y2)]) hG d_m_layParts_28 rfl (by decide) rfl ?_
      refine gm_sub [1, 2, 3, 0] rfl ?_
      refine Wm_layParts_29 hG hF gmN r1 r2 (by decide) h (fun  {s17}  h => ?_)
      refine gm_ok (fun hOs17 => ?_)
      refine gm_iinc (lv' := [(2, .inl (y2 + 1)), (0, .inr 133), (1, .inl y1)]) hG 2 d_m_layParts_105 rfl (by decide) rfl ?_
      refine gm_goto (tgt := 14) hG d_m_layParts_108 (by decide) ?_
      obtain ⟨g18, h⟩ := gmG_of h
      refine gm_sub [1, 2, 0] rfl ?_
      exact ih r1 g18 h hk
set_option maxRecDepth 100000 in
set_option maxHeartbeats 4000000 in
theorem Wm_layParts_7 {φ : Fx} {rs : St} (hG : Good φ "GarmentMarkerModel" prog_8_method_30_code 6 2 49) (hF : FinV φ prog_8_method_30_code rs) : ∀ (n : Nat) {y1 : Int} {σ : St} {k : St → Option St}, gmR y1 → Fm_layParts_7 n y1 σ k = some rs → (∀ {τ : St}, k τ = some rs → J φ τ 117 [] []) → J φ σ 7 [(0, .inr 133), (1, .inl y1)] [] := by
  intro n
  induction n with
  | zero =>
    intro _ _ _ _ h
    exact absurd h (by rw [Fm_layParts_7.eq_1]; exact fun q => by cases q)
  | succ n ih =>
    intro y1 σ k r1 h hk
    rw [Fm_layParts_7.eq_2] at h
    refine gm_ok (fun hO => ?_)
    refine gm_iload_n hG 1 d_m_layParts_7 rfl rfl ?_
    refine gm_iconst hG d_m_layParts_8 ?_
    refine gm_icmp_ge (tgt := 117) hG d_m_layParts_9 (by decide) r1 (by decide) (fun c2 => ?_) (fun c2 => ?_)
    · replace h := gmI_pos c2 h
      refine gm_sub [] rfl ?_
      exact hk h
    · replace h := gmI_neg c2 h
      refine gm_iconst hG d_m_layParts_12 ?_
      refine gm_istore_n (lv' := [(2, .inl 0), (0, .inr 133), (1, .inl y1)]) hG d_m_layParts_13 rfl (by decide) rfl ?_
      refine gm_sub [1, 2, 0] rfl ?_
      refine Wm_layParts_14 hG hF gmN r1 (by decide) h (fun  {s19}  h => ?_)
      refine gm_ok (fun hOs19 => ?_)
      refine gm_iinc (lv' := [(1, .inl (y1 + 1)), (0, .inr 133)]) hG 1 d_m_layParts_111 rfl (by decide) rfl ?_
      refine gm_goto (tgt := 7) hG d_m_layParts_114 (by decide) ?_
      obtain ⟨g20, h⟩ := gmG_of h
      refine gm_sub [1, 0] rfl ?_
      exact ih g20 h hk
set_option maxRecDepth 100000 in
set_option maxHeartbeats 4000000 in
theorem Wm_layParts {σ : St} {rs : St} (h : Fm_layParts σ = some rs) : Ctr gmY6_layParts prog_8_method_30_code 6 none 2 49 [.inr 133] σ none rs := by
  refine Ctr.ofV (own := "GarmentMarkerModel") (by decide +kernel) rfl (Nat.le_of_ble_eq_true rfl) (fun φ hG hF => ?_)
  unfold Fm_layParts at h
  refine gm_lv (l2 := [(0, .inr 133)]) rfl ?_
  refine gm_ok (fun hO => ?_)
  refine gm_aload_n hG 0 d_m_layParts_0 rfl rfl ?_
  refine gm_iconst hG d_m_layParts_1 ?_
  obtain ⟨s1, es1, h⟩ := gmL_of h
  refine gm_putI hG gmF_6_102 gmKc_133 rfl rfl (by decide +kernel) (by decide) es1 d_m_layParts_2 ?_
  refine gm_ok (fun hOs1 => ?_)
  refine gm_iconst hG d_m_layParts_5 ?_
  refine gm_istore_n (lv' := [(1, .inl 0), (0, .inr 133)]) hG d_m_layParts_6 rfl (by decide) rfl ?_
  refine gm_sub [1, 0] rfl ?_
  refine Wm_layParts_7 hG hF gmN (by decide) h (fun  {s21}  h => ?_)
  refine gm_ok (fun hOs21 => ?_)
  exact gm_vret' hF h d_m_layParts_117
def Fm_isPart (a0 : Int) (σ : St) : Option (Int × St) := gmBv (Fm_layParts σ) (fun s1 => gmG (gmR ((s1 133 8) - 1)) (gmB (Fm_in a0 0 ((s1 133 8) - 1) s1) (fun r4 s3 => gmG (r4 = 0 ∨ r4 = 1) (some (r4, s3)))))
set_option maxRecDepth 100000 in
set_option maxHeartbeats 4000000 in
theorem Wm_isPart {a0 : Int} {σ : St} {rv : Int} {rs : St} (ra0 : gmR a0) (h : Fm_isPart a0 σ = some (rv, rs)) : Ctr gmY6_isPart prog_8_method_31_code 2 (some .boolean) 3 74 [.inr 133, .inl a0] σ (some rv) rs := by
  refine Ctr.ofZ (own := "GarmentMarkerModel") (by decide +kernel) rfl (Nat.le_of_ble_eq_true rfl) (fun φ hG hF => ?_)
  unfold Fm_isPart at h
  refine gm_lv (l2 := [(0, .inr 133), (1, .inl a0)]) rfl ?_
  refine gm_ok (fun hO => ?_)
  refine gm_aload_n hG 0 d_m_isPart_0 rfl rfl ?_
  obtain ⟨s1, es1, h⟩ := gmBv_of h
  refine gm_callVv hG [] [] gmM_6_110 (Wm_layParts es1) gmKc_133 rfl (by decide) (Nat.le_of_ble_eq_true rfl) rfl d_m_isPart_1 ?_
  refine gm_ok (fun hOs1 => ?_)
  refine gm_iload_n hG 1 d_m_isPart_4 rfl rfl ?_
  refine gm_iconst hG d_m_isPart_5 ?_
  refine gm_aload_n hG 0 d_m_isPart_6 rfl rfl ?_
  refine gm_getI hG gmF_6_102 gmKc_133 rfl d_m_isPart_7 (fun _ => ?_)
  refine gm_iconst hG d_m_isPart_10 ?_
  refine gm_isub hG d_m_isPart_11 ?_
  obtain ⟨g2, h⟩ := gmG_of h
  obtain ⟨r4, s3, es3, h⟩ := gmB_of h
  refine gm_callSi hG [.inl a0, .inl 0, .inl ((s1 133 8) - 1)] [] gmM_6_59 (Wm_in ra0 (by decide) g2 es3) rfl (by decide) (Nat.le_of_ble_eq_true rfl) rfl d_m_isPart_12 (fun qr4 => ?_)
  refine gm_ok (fun hOs3 => ?_)
  obtain ⟨g5, h⟩ := gmG_of h
  exact gm_zret' hF h g5 d_m_isPart_15
def Fm_partCount (σ : St) : Option (Int × St) := gmBv (Fm_layParts σ) (fun s1 => some ((s1 133 8), s1))
set_option maxRecDepth 100000 in
set_option maxHeartbeats 4000000 in
theorem Wm_partCount {σ : St} {rv : Int} {rs : St} (h : Fm_partCount σ = some (rv, rs)) : Ctr gmY6_partCount prog_8_method_32_code 1 (some .int) 3 74 [.inr 133] σ (some rv) rs := by
  refine Ctr.ofI (own := "GarmentMarkerModel") (by decide +kernel) rfl (Nat.le_of_ble_eq_true rfl) (fun φ hG hF => ?_)
  unfold Fm_partCount at h
  refine gm_lv (l2 := [(0, .inr 133)]) rfl ?_
  refine gm_ok (fun hO => ?_)
  refine gm_aload_n hG 0 d_m_partCount_0 rfl rfl ?_
  obtain ⟨s1, es1, h⟩ := gmBv_of h
  refine gm_callVv hG [] [] gmM_6_110 (Wm_layParts es1) gmKc_133 rfl (by decide) (Nat.le_of_ble_eq_true rfl) rfl d_m_partCount_1 ?_
  refine gm_ok (fun hOs1 => ?_)
  refine gm_aload_n hG 0 d_m_partCount_4 rfl rfl ?_
  refine gm_getI hG gmF_6_102 gmKc_133 rfl d_m_partCount_5 (fun _ => ?_)
  exact gm_iret' hF h (hOs1 133 8) d_m_partCount_8
def Fm_foldPartCount_8 : Nat → Int → Int → St → (Int → St → Option (Int × St)) → Option (Int × St)
  | 0, _, _, _, _ => none
  | n + 1, y1, y2, σ, k => if (σ 133 8) ≤ y2 then k y1 σ else gmG (0 ≤ y2 ∧ y2 < 72) (gmL ((y1 + (if (σ 141 (y2).toNat) = 0 then 0 else 1)) : Int) (fun x5 => gmG (gmR x5) (gmG (gmR (y2 + 1)) (Fm_foldPartCount_8 n x5 (y2 + 1) σ k))))
def Fm_foldPartCount (σ : St) : Option (Int × St) := gmBv (Fm_layParts σ) (fun s1 => Fm_foldPartCount_8 gmN 0 0 s1 (fun x8 s9 => some (x8, s9)))
set_option maxRecDepth 100000 in
set_option maxHeartbeats 4000000 in
theorem Wm_foldPartCount_8 {φ : Fx} {rv : Int} {rs : St} (hG : Good φ "GarmentMarkerModel" prog_8_method_33_code 3 3 74) (hF : FinI φ prog_8_method_33_code rv rs) : ∀ (n : Nat) {y1 : Int} {y2 : Int} {σ : St} {k : Int → St → Option (Int × St)}, gmR y1 → gmR y2 → Fm_foldPartCount_8 n y1 y2 σ k = some (rv, rs) → (∀ {z1 : Int} {τ : St}, gmR z1 → k z1 τ = some (rv, rs) → J φ τ 39 [(1, .inl z1)] []) → J φ σ 8 [(0, .inr 133), (1, .inl y1), (2, .inl y2)] [] := by
  intro n
  induction n with
  | zero =>
    intro _ _ _ _ _ _ h
    exact absurd h (by rw [Fm_foldPartCount_8.eq_1]; exact fun q => by cases q)
  | succ n ih =>
    intro y1 y2 σ k r1 r2 h hk
    rw [Fm_foldPartCount_8.eq_2] at h
    refine gm_ok (fun hO => ?_)
    refine gm_iload_n hG 2 d_m_foldPartCount_8 rfl rfl ?_
    refine gm_aload_n hG 0 d_m_foldPartCount_9 rfl rfl ?_
    refine gm_getI hG gmF_6_102 gmKc_133 rfl d_m_foldPartCount_10 (fun _ => ?_)
    refine gm_icmp_ge (tgt := 39) hG d_m_foldPartCount_13 (by decide) r2 (hO 133 8) (fun c2 => ?_) (fun c2 => ?_)
    · replace h := gmI_pos c2 h
      refine gm_sub [1] rfl ?_
      exact hk r1 h
    · replace h := gmI_neg c2 h
      refine gm_iload_n hG 1 d_m_foldPartCount_16 rfl rfl ?_
      refine gm_aload_n hG 0 d_m_foldPartCount_17 rfl rfl ?_
      refine gm_getR (t := 141) hG gmF_6_32 gmKc_133 rfl d_m_foldPartCount_18 ?_
      refine gm_iload_n hG 2 d_m_foldPartCount_21 rfl rfl ?_
      obtain ⟨g3, h⟩ := gmG_of h
      refine gm_bald (t := (y2).toNat) hG gmKc_141 gmLc_141 g3 rfl d_m_foldPartCount_22 (fun _ => ?_)
      suffices hj : J φ σ 31 [(0, .inr 133), (1, .inl y1), (2, .inl y2)] [.inl (if (σ 141 (y2).toNat) = 0 then 0 else 1), .inl y1] by
        refine gm_if_eq (tgt := 30) hG d_m_foldPartCount_23 (by decide) (hO 141 (y2).toNat) (fun c4 => ?_) (fun c4 => ?_)
        · replace hj := gmJ_pos c4 hj
          refine gm_iconst hG d_m_foldPartCount_30 ?_
          exact hj
        · replace hj := gmJ_neg c4 hj
          refine gm_iconst hG d_m_foldPartCount_26 ?_
          refine gm_goto (tgt := 31) hG d_m_foldPartCount_27 (by decide) ?_
          exact hj
      refine gm_iadd hG d_m_foldPartCount_31 ?_
      obtain ⟨x5, ex5, h⟩ := gmL_of h
      refine gm_top ex5 ?_
      refine gm_istore_n (lv' := [(1, .inl x5), (0, .inr 133), (2, .inl y2)]) hG d_m_foldPartCount_32 rfl (by decide) rfl ?_
      refine gm_iinc (lv' := [(2, .inl (y2 + 1)), (1, .inl x5), (0, .inr 133)]) hG 2 d_m_foldPartCount_33 rfl (by decide) rfl ?_
      refine gm_goto (tgt := 8) hG d_m_foldPartCount_36 (by decide) ?_
      obtain ⟨g6, h⟩ := gmG_of h
      obtain ⟨g7, h⟩ := gmG_of h
      refine gm_sub [2, 1, 0] rfl ?_
      exact ih g6 g7 h hk
set_option maxRecDepth 100000 in
set_option maxHeartbeats 4000000 in
theorem Wm_foldPartCount {σ : St} {rv : Int} {rs : St} (h : Fm_foldPartCount σ = some (rv, rs)) : Ctr gmY6_foldPartCount prog_8_method_33_code 3 (some .int) 3 74 [.inr 133] σ (some rv) rs := by
  refine Ctr.ofI (own := "GarmentMarkerModel") (by decide +kernel) rfl (Nat.le_of_ble_eq_true rfl) (fun φ hG hF => ?_)
  unfold Fm_foldPartCount at h
  refine gm_lv (l2 := [(0, .inr 133)]) rfl ?_
  refine gm_ok (fun hO => ?_)
  refine gm_aload_n hG 0 d_m_foldPartCount_0 rfl rfl ?_
  obtain ⟨s1, es1, h⟩ := gmBv_of h
  refine gm_callVv hG [] [] gmM_6_110 (Wm_layParts es1) gmKc_133 rfl (by decide) (Nat.le_of_ble_eq_true rfl) rfl d_m_foldPartCount_1 ?_
  refine gm_ok (fun hOs1 => ?_)
  refine gm_iconst hG d_m_foldPartCount_4 ?_
  refine gm_istore_n (lv' := [(1, .inl 0), (0, .inr 133)]) hG d_m_foldPartCount_5 rfl (by decide) rfl ?_
  refine gm_iconst hG d_m_foldPartCount_6 ?_
  refine gm_istore_n (lv' := [(2, .inl 0), (1, .inl 0), (0, .inr 133)]) hG d_m_foldPartCount_7 rfl (by decide) rfl ?_
  refine gm_sub [2, 1, 0] rfl ?_
  refine Wm_foldPartCount_8 hG hF gmN (by decide) (by decide) h (fun {x8} {s9} qx8 h => ?_)
  refine gm_ok (fun hOs9 => ?_)
  refine gm_iload_n hG 0 d_m_foldPartCount_39 rfl rfl ?_
  exact gm_iret' hF h qx8 d_m_foldPartCount_40
def Fm_partSize (a0 : Int) (σ : St) : Option (Int × St) := gmB (Fm_isPart a0 σ) (fun r2 s1 => gmG ((¬ r2 = 0) → 0 ≤ a0 ∧ a0 < 72) (some ((if r2 = 0 then (-1004) else (s1 137 (a0).toNat)), s1)))
set_option maxRecDepth 100000 in
set_option maxHeartbeats 4000000 in
theorem Wm_partSize {a0 : Int} {σ : St} {rv : Int} {rs : St} (ra0 : gmR a0) (h : Fm_partSize a0 σ = some (rv, rs)) : Ctr gmY6_partSize prog_8_method_34_code 2 (some .int) 4 95 [.inr 133, .inl a0] σ (some rv) rs := by
  refine Ctr.ofI (own := "GarmentMarkerModel") (by decide +kernel) rfl (Nat.le_of_ble_eq_true rfl) (fun φ hG hF => ?_)
  unfold Fm_partSize at h
  refine gm_lv (l2 := [(0, .inr 133), (1, .inl a0)]) rfl ?_
  refine gm_ok (fun hO => ?_)
  refine gm_aload_n hG 0 d_m_partSize_0 rfl rfl ?_
  refine gm_iload_n hG 1 d_m_partSize_1 rfl rfl ?_
  obtain ⟨r2, s1, es1, h⟩ := gmB_of h
  refine gm_callVi hG [.inl a0] [] gmM_6_113 (Wm_isPart ra0 es1) gmKc_133 rfl (by decide) (Nat.le_of_ble_eq_true rfl) rfl d_m_partSize_2 (fun qr2 => ?_)
  refine gm_ok (fun hOs1 => ?_)
  obtain ⟨g4, h⟩ := gmG_of h
  suffices hj : J φ s1 20 [(0, .inr 133), (1, .inl a0)] [.inl (if r2 = 0 then (-1004) else (s1 137 (a0).toNat))] by
    refine gm_if_eq (tgt := 17) hG d_m_partSize_5 (by decide) qr2 (fun c3 => ?_) (fun c3 => ?_)
    · replace hj := gmJ_pos c3 hj
      refine gm_sipush hG d_m_partSize_17 (by decide) ?_
      exact hj
    · replace hj := gmJ_neg c3 hj
      refine gm_aload_n hG 0 d_m_partSize_8 rfl rfl ?_
      refine gm_getR (t := 137) hG gmF_6_20 gmKc_133 rfl d_m_partSize_9 ?_
      refine gm_iload_n hG 1 d_m_partSize_12 rfl rfl ?_
      refine gm_iald (t := (a0).toNat) hG gmKc_137 gmLc_137 (g4 c3) rfl d_m_partSize_13 (fun _ => ?_)
      refine gm_goto (tgt := 20) hG d_m_partSize_14 (by decide) ?_
      exact hj
  exact gm_iret' hF h (gmR_ite (fun c3 => (by decide)) (fun c3 => (hOs1 137 (a0).toNat))) d_m_partSize_20
def Fm_partPiece (a0 : Int) (σ : St) : Option (Int × St) := gmB (Fm_isPart a0 σ) (fun r2 s1 => gmG ((¬ r2 = 0) → 0 ≤ a0 ∧ a0 < 72) (some ((if r2 = 0 then (-1004) else (s1 138 (a0).toNat)), s1)))
set_option maxRecDepth 100000 in
set_option maxHeartbeats 4000000 in
theorem Wm_partPiece {a0 : Int} {σ : St} {rv : Int} {rs : St} (ra0 : gmR a0) (h : Fm_partPiece a0 σ = some (rv, rs)) : Ctr gmY6_partPiece prog_8_method_35_code 2 (some .int) 4 95 [.inr 133, .inl a0] σ (some rv) rs := by
  refine Ctr.ofI (own := "GarmentMarkerModel") (by decide +kernel) rfl (Nat.le_of_ble_eq_true rfl) (fun φ hG hF => ?_)
  unfold Fm_partPiece at h
  refine gm_lv (l2 := [(0, .inr 133), (1, .inl a0)]) rfl ?_
  refine gm_ok (fun hO => ?_)
  refine gm_aload_n hG 0 d_m_partPiece_0 rfl rfl ?_
  refine gm_iload_n hG 1 d_m_partPiece_1 rfl rfl ?_
  obtain ⟨r2, s1, es1, h⟩ := gmB_of h
  refine gm_callVi hG [.inl a0] [] gmM_6_113 (Wm_isPart ra0 es1) gmKc_133 rfl (by decide) (Nat.le_of_ble_eq_true rfl) rfl d_m_partPiece_2 (fun qr2 => ?_)
  refine gm_ok (fun hOs1 => ?_)
  obtain ⟨g4, h⟩ := gmG_of h
  suffices hj : J φ s1 20 [(0, .inr 133), (1, .inl a0)] [.inl (if r2 = 0 then (-1004) else (s1 138 (a0).toNat))] by
    refine gm_if_eq (tgt := 17) hG d_m_partPiece_5 (by decide) qr2 (fun c3 => ?_) (fun c3 => ?_)
    · replace hj := gmJ_pos c3 hj
      refine gm_sipush hG d_m_partPiece_17 (by decide) ?_
      exact hj
    · replace hj := gmJ_neg c3 hj
      refine gm_aload_n hG 0 d_m_partPiece_8 rfl rfl ?_
      refine gm_getR (t := 138) hG gmF_6_23 gmKc_133 rfl d_m_partPiece_9 ?_
      refine gm_iload_n hG 1 d_m_partPiece_12 rfl rfl ?_
      refine gm_iald (t := (a0).toNat) hG gmKc_138 gmLc_138 (g4 c3) rfl d_m_partPiece_13 (fun _ => ?_)
      refine gm_goto (tgt := 20) hG d_m_partPiece_14 (by decide) ?_
      exact hj
  exact gm_iret' hF h (gmR_ite (fun c3 => (by decide)) (fun c3 => (hOs1 138 (a0).toNat))) d_m_partPiece_20
def Fm_keyOf (a0 : Int) (a1 : Int) (σ : St) : Option (Int × St) := gmG ((¬ a1 = 0) → (¬ a1 = 1) → (¬ a1 = 2) → 0 ≤ a0 ∧ a0 < 72) (gmG ((¬ a1 = 0) → (¬ a1 = 1) → (¬ a1 = 2) → 0 ≤ a0 ∧ a0 < 72) (gmG ((¬ a1 = 0) → (¬ a1 = 1) → (a1 = 2) → 0 ≤ a0 ∧ a0 < 72) (gmG ((¬ a1 = 0) → (a1 = 1) → 0 ≤ a0 ∧ a0 < 72) (gmG (gmR (if a1 = 0 then 0 else (if a1 = 1 then (σ 140 (a0).toNat) else (if a1 = 2 then (σ 139 (a0).toNat) else ((σ 140 (a0).toNat) * (σ 139 (a0).toNat)))))) (some ((if a1 = 0 then 0 else (if a1 = 1 then (σ 140 (a0).toNat) else (if a1 = 2 then (σ 139 (a0).toNat) else ((σ 140 (a0).toNat) * (σ 139 (a0).toNat))))), σ))))))
set_option maxRecDepth 100000 in
set_option maxHeartbeats 4000000 in
theorem Wm_keyOf {a0 : Int} {a1 : Int} {σ : St} {rv : Int} {rs : St} (ra0 : gmR a0) (ra1 : gmR a1) (h : Fm_keyOf a0 a1 σ = some (rv, rs)) : Ctr gmY6_keyOf prog_8_method_36_code 3 (some .int) 0 0 [.inr 133, .inl a0, .inl a1] σ (some rv) rs := by
  refine Ctr.ofI (own := "GarmentMarkerModel") (by decide +kernel) rfl (Nat.le_of_ble_eq_true rfl) (fun φ hG hF => ?_)
  unfold Fm_keyOf at h
  refine gm_lv (l2 := [(0, .inr 133), (1, .inl a0), (2, .inl a1)]) rfl ?_
  refine gm_ok (fun hO => ?_)
  refine gm_iload_n hG 2 d_m_keyOf_0 rfl rfl ?_
  obtain ⟨g4, h⟩ := gmG_of h
  obtain ⟨g5, h⟩ := gmG_of h
  obtain ⟨g6, h⟩ := gmG_of h
  obtain ⟨g7, h⟩ := gmG_of h
  suffices hj : J φ σ 49 [(0, .inr 133), (1, .inl a0), (2, .inl a1)] [.inl (if a1 = 0 then 0 else (if a1 = 1 then (σ 140 (a0).toNat) else (if a1 = 2 then (σ 139 (a0).toNat) else ((σ 140 (a0).toNat) * (σ 139 (a0).toNat)))))] by
    refine gm_if_ne (tgt := 8) hG d_m_keyOf_1 (by decide) ra1 (fun c1 => ?_) (fun c1 => ?_)
    · replace hj := gmJ_neg c1 hj
      refine gm_iload_n hG 2 d_m_keyOf_8 rfl rfl ?_
      refine gm_iconst hG d_m_keyOf_9 ?_
      refine gm_icmp_ne (tgt := 22) hG d_m_keyOf_10 (by decide) ra1 (by decide) (fun c2 => ?_) (fun c2 => ?_)
      · replace hj := gmJ_neg c2 hj
        refine gm_iload_n hG 2 d_m_keyOf_22 rfl rfl ?_
        refine gm_iconst hG d_m_keyOf_23 ?_
        refine gm_icmp_ne (tgt := 36) hG d_m_keyOf_24 (by decide) ra1 (by decide) (fun c3 => ?_) (fun c3 => ?_)
        · replace hj := gmJ_neg c3 hj
          refine gm_aload_n hG 0 d_m_keyOf_36 rfl rfl ?_
          refine gm_getR (t := 140) hG gmF_6_29 gmKc_133 rfl d_m_keyOf_37 ?_
          refine gm_iload_n hG 1 d_m_keyOf_40 rfl rfl ?_
          refine gm_iald (t := (a0).toNat) hG gmKc_140 gmLc_140 (g4 c1 c2 c3) rfl d_m_keyOf_41 (fun _ => ?_)
          refine gm_aload_n hG 0 d_m_keyOf_42 rfl rfl ?_
          refine gm_getR (t := 139) hG gmF_6_26 gmKc_133 rfl d_m_keyOf_43 ?_
          refine gm_iload_n hG 1 d_m_keyOf_46 rfl rfl ?_
          refine gm_iald (t := (a0).toNat) hG gmKc_139 gmLc_139 (g5 c1 c2 c3) rfl d_m_keyOf_47 (fun _ => ?_)
          refine gm_imul hG d_m_keyOf_48 ?_
          exact hj
        · replace hj := gmJ_pos c3 hj
          refine gm_aload_n hG 0 d_m_keyOf_27 rfl rfl ?_
          refine gm_getR (t := 139) hG gmF_6_26 gmKc_133 rfl d_m_keyOf_28 ?_
          refine gm_iload_n hG 1 d_m_keyOf_31 rfl rfl ?_
          refine gm_iald (t := (a0).toNat) hG gmKc_139 gmLc_139 (g6 c1 c2 c3) rfl d_m_keyOf_32 (fun _ => ?_)
          refine gm_goto (tgt := 49) hG d_m_keyOf_33 (by decide) ?_
          exact hj
      · replace hj := gmJ_pos c2 hj
        refine gm_aload_n hG 0 d_m_keyOf_13 rfl rfl ?_
        refine gm_getR (t := 140) hG gmF_6_29 gmKc_133 rfl d_m_keyOf_14 ?_
        refine gm_iload_n hG 1 d_m_keyOf_17 rfl rfl ?_
        refine gm_iald (t := (a0).toNat) hG gmKc_140 gmLc_140 (g7 c1 c2) rfl d_m_keyOf_18 (fun _ => ?_)
        refine gm_goto (tgt := 49) hG d_m_keyOf_19 (by decide) ?_
        exact hj
    · replace hj := gmJ_pos c1 hj
      refine gm_iconst hG d_m_keyOf_4 ?_
      refine gm_goto (tgt := 49) hG d_m_keyOf_5 (by decide) ?_
      exact hj
  obtain ⟨g8, h⟩ := gmG_of h
  exact gm_iret' hF h g8 d_m_keyOf_49
def Fm_layOrder_12 : Nat → Int → Int → Int → St → (Int → St → Option St) → Option St
  | 0, _, _, _, _, _ => none
  | n + 1, y1, y2, y3, σ, k => if y3 ≤ 0 then k y3 σ else gmG (0 ≤ (y3 - 1) ∧ (y3 - 1) < 72) (gmB (Fm_keyOf (σ 142 ((y3 - 1)).toNat) y1 σ) (fun r5 s4 => gmB (Fm_keyOf y2 y1 s4) (fun r7 s6 => if r7 ≤ r5 then k y3 s6 else gmG (0 ≤ y3 ∧ y3 < 72) (gmL (gmUp s6 142 (y3).toNat (s6 142 ((y3 - 1)).toNat)) (fun s10 => gmG (gmR (y3 + (-1))) (Fm_layOrder_12 n y1 y2 (y3 + (-1)) s10 k))))))
def Fm_layOrder_2 : Nat → Int → Int → St → (St → Option St) → Option St
  | 0, _, _, _, _ => none
  | n + 1, y1, y2, σ, k => if (σ 133 8) ≤ y2 then k σ else Fm_layOrder_12 gmN y1 y2 y2 σ (fun x12 s13 => gmG (0 ≤ x12 ∧ x12 < 72) (gmL (gmUp s13 142 (x12).toNat y2) (fun s15 => gmG (gmR (y2 + 1)) (Fm_layOrder_2 n y1 (y2 + 1) s15 k))))
def Fm_layOrder (a0 : Int) (σ : St) : Option St := Fm_layOrder_2 gmN a0 0 σ (fun s17 => some s17)
set_option maxRecDepth 100000 in
set_option maxHeartbeats 4000000 in
theorem Wm_layOrder_12 {φ : Fx} {rs : St} (hG : Good φ "GarmentMarkerModel" prog_8_method_37_code 4 1 22) (hF : FinV φ prog_8_method_37_code rs) : ∀ (n : Nat) {y1 : Int} {y2 : Int} {y3 : Int} {σ : St} {k : Int → St → Option St}, gmR y1 → gmR y2 → gmR y3 → Fm_layOrder_12 n y1 y2 y3 σ k = some rs → (∀ {z3 : Int} {τ : St}, gmR z3 → k z3 τ = some rs → J φ τ 58 [(0, .inr 133), (1, .inl y1), (2, .inl y2), (3, .inl z3)] []) → J φ σ 12 [(0, .inr 133), (1, .inl y1), (2, .inl y2), (3, .inl y3)] [] := by
  intro n
  induction n with
  | zero =>
    intro _ _ _ _ _ _ _ _ h
    exact absurd h (by rw [Fm_layOrder_12.eq_1]; exact fun q => by cases q)
  | succ n ih =>
    intro y1 y2 y3 σ k r1 r2 r3 h hk
    rw [Fm_layOrder_12.eq_2] at h
    refine gm_ok (fun hO => ?_)
    refine gm_iload_n hG 3 d_m_layOrder_12 rfl rfl ?_
    refine gm_if_le (tgt := 58) hG d_m_layOrder_13 (by decide) r3 (fun c2 => ?_) (fun c2 => ?_)
    · replace h := gmI_pos c2 h
      refine gm_sub [0, 1, 2, 3] rfl ?_
      exact hk r3 h
    · replace h := gmI_neg c2 h
      refine gm_aload_n hG 0 d_m_layOrder_16 rfl rfl ?_
      refine gm_aload_n hG 0 d_m_layOrder_17 rfl rfl ?_
      refine gm_getR (t := 142) hG gmF_6_35 gmKc_133 rfl d_m_layOrder_18 ?_
      refine gm_iload_n hG 3 d_m_layOrder_21 rfl rfl ?_
      refine gm_iconst hG d_m_layOrder_22 ?_
      refine gm_isub hG d_m_layOrder_23 ?_
      obtain ⟨g3, h⟩ := gmG_of h
      refine gm_iald (t := ((y3 - 1)).toNat) hG gmKc_142 gmLc_142 g3 rfl d_m_layOrder_24 (fun _ => ?_)
      refine gm_iload_n hG 1 d_m_layOrder_25 rfl rfl ?_
      obtain ⟨r5, s4, es4, h⟩ := gmB_of h
      refine gm_callVi hG [.inl (σ 142 ((y3 - 1)).toNat), .inl y1] [] gmM_6_116 (Wm_keyOf (hO 142 ((y3 - 1)).toNat) r1 es4) gmKc_133 rfl (by decide) (Nat.le_of_ble_eq_true rfl) rfl d_m_layOrder_26 (fun qr5 => ?_)
      refine gm_ok (fun hOs4 => ?_)
      refine gm_aload_n hG 0 d_m_layOrder_29 rfl rfl ?_
      refine gm_iload_n hG 2 d_m_layOrder_30 rfl rfl ?_
      refine gm_iload_n hG 1 d_m_layOrder_31 rfl rfl ?_
      obtain ⟨r7, s6, es6, h⟩ := gmB_of h
      refine gm_callVi hG [.inl y2, .inl y1] [.inl r5] gmM_6_116 (Wm_keyOf r2 r1 es6) gmKc_133 rfl (by decide) (Nat.le_of_ble_eq_true rfl) rfl d_m_layOrder_32 (fun qr7 => ?_)
      refine gm_ok (fun hOs6 => ?_)
      refine gm_icmp_ge (tgt := 58) hG d_m_layOrder_35 (by decide) qr5 qr7 (fun c8 => ?_) (fun c8 => ?_)
      · replace h := gmI_pos c8 h
        refine gm_sub [0, 1, 2, 3] rfl ?_
        exact hk r3 h
      · replace h := gmI_neg c8 h
        refine gm_aload_n hG 0 d_m_layOrder_38 rfl rfl ?_
        refine gm_getR (t := 142) hG gmF_6_35 gmKc_133 rfl d_m_layOrder_39 ?_
        refine gm_iload_n hG 3 d_m_layOrder_42 rfl rfl ?_
        refine gm_aload_n hG 0 d_m_layOrder_43 rfl rfl ?_
        refine gm_getR (t := 142) hG gmF_6_35 gmKc_133 rfl d_m_layOrder_44 ?_
        refine gm_iload_n hG 3 d_m_layOrder_47 rfl rfl ?_
        refine gm_iconst hG d_m_layOrder_48 ?_
        refine gm_isub hG d_m_layOrder_49 ?_
        refine gm_iald (t := ((y3 - 1)).toNat) hG gmKc_142 gmLc_142 g3 rfl d_m_layOrder_50 (fun _ => ?_)
        obtain ⟨g9, h⟩ := gmG_of h
        obtain ⟨s10, es10, h⟩ := gmL_of h
        refine gm_iast (t := (y3).toNat) hG gmKc_142 gmLc_142 g9 rfl (hOs6 142 ((y3 - 1)).toNat) es10 d_m_layOrder_51 ?_
        refine gm_ok (fun hOs10 => ?_)
        refine gm_iinc (lv' := [(3, .inl (y3 + (-1))), (0, .inr 133), (1, .inl y1), (2, .inl y2)]) hG 3 d_m_layOrder_52 rfl (by decide) rfl ?_
        refine gm_goto (tgt := 12) hG d_m_layOrder_55 (by decide) ?_
        obtain ⟨g11, h⟩ := gmG_of h
        refine gm_sub [1, 2, 3, 0] rfl ?_
        exact ih r1 r2 g11 h hk
set_option maxRecDepth 100000 in
set_option maxHeartbeats 4000000 in
theorem Wm_layOrder_2 {φ : Fx} {rs : St} (hG : Good φ "GarmentMarkerModel" prog_8_method_37_code 4 1 22) (hF : FinV φ prog_8_method_37_code rs) : ∀ (n : Nat) {y1 : Int} {y2 : Int} {σ : St} {k : St → Option St}, gmR y1 → gmR y2 → Fm_layOrder_2 n y1 y2 σ k = some rs → (∀ {τ : St}, k τ = some rs → J φ τ 71 [] []) → J φ σ 2 [(0, .inr 133), (1, .inl y1), (2, .inl y2)] [] := by
  intro n
  induction n with
  | zero =>
    intro _ _ _ _ _ _ h
    exact absurd h (by rw [Fm_layOrder_2.eq_1]; exact fun q => by cases q)
  | succ n ih =>
    intro y1 y2 σ k r1 r2 h hk
    rw [Fm_layOrder_2.eq_2] at h
    refine gm_ok (fun hO => ?_)
    refine gm_iload_n hG 2 d_m_layOrder_2 rfl rfl ?_
    refine gm_aload_n hG 0 d_m_layOrder_3 rfl rfl ?_
    refine gm_getI hG gmF_6_102 gmKc_133 rfl d_m_layOrder_4 (fun _ => ?_)
    refine gm_icmp_ge (tgt := 71) hG d_m_layOrder_7 (by decide) r2 (hO 133 8) (fun c1 => ?_) (fun c1 => ?_)
    · replace h := gmI_pos c1 h
      refine gm_sub [] rfl ?_
      exact hk h
    · replace h := gmI_neg c1 h
      refine gm_iload_n hG 2 d_m_layOrder_10 rfl rfl ?_
      refine gm_istore_n (lv' := [(3, .inl y2), (0, .inr 133), (1, .inl y1), (2, .inl y2)]) hG d_m_layOrder_11 rfl (by decide) rfl ?_
      refine gm_sub [1, 2, 3, 0] rfl ?_
      refine Wm_layOrder_12 hG hF gmN r1 r2 r2 h (fun {x12} {s13} qx12 h => ?_)
      refine gm_ok (fun hOs13 => ?_)
      refine gm_aload_n hG 0 d_m_layOrder_58 rfl rfl ?_
      refine gm_getR (t := 142) hG gmF_6_35 gmKc_133 rfl d_m_layOrder_59 ?_
      refine gm_iload_n hG 3 d_m_layOrder_62 rfl rfl ?_
      refine gm_iload_n hG 2 d_m_layOrder_63 rfl rfl ?_
      obtain ⟨g14, h⟩ := gmG_of h
      obtain ⟨s15, es15, h⟩ := gmL_of h
      refine gm_iast (t := (x12).toNat) hG gmKc_142 gmLc_142 g14 rfl r2 es15 d_m_layOrder_64 ?_
      refine gm_ok (fun hOs15 => ?_)
      refine gm_iinc (lv' := [(2, .inl (y2 + 1)), (0, .inr 133), (1, .inl y1), (3, .inl x12)]) hG 2 d_m_layOrder_65 rfl (by decide) rfl ?_
      refine gm_goto (tgt := 2) hG d_m_layOrder_68 (by decide) ?_
      obtain ⟨g16, h⟩ := gmG_of h
      refine gm_sub [1, 2, 0] rfl ?_
      exact ih r1 g16 h hk
set_option maxRecDepth 100000 in
set_option maxHeartbeats 4000000 in
theorem Wm_layOrder {a0 : Int} {σ : St} {rs : St} (ra0 : gmR a0) (h : Fm_layOrder a0 σ = some rs) : Ctr gmY6_layOrder prog_8_method_37_code 4 none 1 22 [.inr 133, .inl a0] σ none rs := by
  refine Ctr.ofV (own := "GarmentMarkerModel") (by decide +kernel) rfl (Nat.le_of_ble_eq_true rfl) (fun φ hG hF => ?_)
  unfold Fm_layOrder at h
  refine gm_lv (l2 := [(0, .inr 133), (1, .inl a0)]) rfl ?_
  refine gm_ok (fun hO => ?_)
  refine gm_iconst hG d_m_layOrder_0 ?_
  refine gm_istore_n (lv' := [(2, .inl 0), (0, .inr 133), (1, .inl a0)]) hG d_m_layOrder_1 rfl (by decide) rfl ?_
  refine gm_sub [1, 2, 0] rfl ?_
  refine Wm_layOrder_2 hG hF gmN ra0 (by decide) h (fun  {s17}  h => ?_)
  refine gm_ok (fun hOs17 => ?_)
  exact gm_vret' hF h d_m_layOrder_71
def Fm_shelfFor_2 : Nat → Int → Int → Int → St → (St → Option (Int × St)) → Option (Int × St)
  | 0, _, _, _, _, _ => none
  | n + 1, y1, y2, y3, σ, k => if (σ 133 15) ≤ y3 then k σ else gmG (0 ≤ y1 ∧ y1 < 72) (if (σ 141 (y1).toNat) = 0 then gmG (0 ≤ y3 ∧ y3 < 72) (if (σ 146 (y3).toNat) < (σ 140 (y1).toNat) then gmG (gmR (y3 + 1)) (Fm_shelfFor_2 n y1 y2 (y3 + 1) σ k) else gmG (gmR ((σ 147 (y3).toNat) + (σ 139 (y1).toNat))) (if y2 < ((σ 147 (y3).toNat) + (σ 139 (y1).toNat)) then gmG (gmR (y3 + 1)) (Fm_shelfFor_2 n y1 y2 (y3 + 1) σ k) else some (y3, σ))) else k σ)
def Fm_shelfFor (a0 : Int) (a1 : Int) (σ : St) : Option (Int × St) := Fm_shelfFor_2 gmN a0 a1 0 σ (fun s10 => gmG ((¬ (s10 133 15) = 0) → 0 ≤ ((s10 133 15) - 1) ∧ ((s10 133 15) - 1) < 72) (gmG ((¬ (s10 133 15) = 0) → 0 ≤ ((s10 133 15) - 1) ∧ ((s10 133 15) - 1) < 72) (gmL ((if (s10 133 15) = 0 then 0 else ((s10 145 (((s10 133 15) - 1)).toNat) + (s10 146 (((s10 133 15) - 1)).toNat))) : Int) (fun x14 => gmG (gmR x14) (gmG (0 ≤ (s10 133 15) ∧ (s10 133 15) < 72) (gmL (gmUp s10 145 ((s10 133 15)).toNat x14) (fun s17 => gmG (0 ≤ a0 ∧ a0 < 72) (gmG (0 ≤ (s17 133 15) ∧ (s17 133 15) < 72) (gmL (gmUp s17 146 ((s17 133 15)).toNat (s17 140 (a0).toNat)) (fun s20 => gmG (0 ≤ (s20 133 15) ∧ (s20 133 15) < 72) (gmL (gmUp s20 147 ((s20 133 15)).toNat 0) (fun s22 => gmG (gmR ((s22 133 15) + 1)) (gmL (gmUp s22 133 15 ((s22 133 15) + 1)) (fun s24 => gmG (gmR ((s24 133 15) - 1)) (some (((s24 133 15) - 1), s24))))))))))))))))
set_option maxRecDepth 100000 in
set_option maxHeartbeats 4000000 in
theorem Wm_shelfFor_2 {φ : Fx} {rv : Int} {rs : St} (hG : Good φ "GarmentMarkerModel" prog_8_method_38_code 4 0 0) (hF : FinI φ prog_8_method_38_code rv rs) : ∀ (n : Nat) {y1 : Int} {y2 : Int} {y3 : Int} {σ : St} {k : St → Option (Int × St)}, gmR y1 → gmR y2 → gmR y3 → Fm_shelfFor_2 n y1 y2 y3 σ k = some (rv, rs) → (∀ {τ : St}, k τ = some (rv, rs) → J φ τ 59 [(0, .inr 133), (1, .inl y1)] []) → J φ σ 2 [(0, .inr 133), (1, .inl y1), (2, .inl y2), (3, .inl y3)] [] := by
  intro n
  induction n with
  | zero =>
    intro _ _ _ _ _ _ _ _ h
    exact absurd h (by rw [Fm_shelfFor_2.eq_1]; exact fun q => by cases q)
  | succ n ih =>
    intro y1 y2 y3 σ k r1 r2 r3 h hk
    rw [Fm_shelfFor_2.eq_2] at h
    refine gm_ok (fun hO => ?_)
    refine gm_iload_n hG 3 d_m_shelfFor_2 rfl rfl ?_
    refine gm_aload_n hG 0 d_m_shelfFor_3 rfl rfl ?_
    refine gm_getI hG gmF_6_119 gmKc_133 rfl d_m_shelfFor_4 (fun _ => ?_)
    refine gm_icmp_ge (tgt := 59) hG d_m_shelfFor_7 (by decide) r3 (hO 133 15) (fun c1 => ?_) (fun c1 => ?_)
    · replace h := gmI_pos c1 h
      refine gm_sub [0, 1] rfl ?_
      exact hk h
    · replace h := gmI_neg c1 h
      refine gm_aload_n hG 0 d_m_shelfFor_10 rfl rfl ?_
      refine gm_getR (t := 141) hG gmF_6_32 gmKc_133 rfl d_m_shelfFor_11 ?_
      refine gm_iload_n hG 1 d_m_shelfFor_14 rfl rfl ?_
      obtain ⟨g2, h⟩ := gmG_of h
      refine gm_bald (t := (y1).toNat) hG gmKc_141 gmLc_141 g2 rfl d_m_shelfFor_15 (fun _ => ?_)
      refine gm_if_ne (tgt := 59) hG d_m_shelfFor_16 (by decide) (hO 141 (y1).toNat) (fun c3 => ?_) (fun c3 => ?_)
      · replace h := gmI_neg c3 h
        refine gm_sub [0, 1] rfl ?_
        exact hk h
      · replace h := gmI_pos c3 h
        refine gm_aload_n hG 0 d_m_shelfFor_19 rfl rfl ?_
        refine gm_getR (t := 140) hG gmF_6_29 gmKc_133 rfl d_m_shelfFor_20 ?_
        refine gm_iload_n hG 1 d_m_shelfFor_23 rfl rfl ?_
        refine gm_iald (t := (y1).toNat) hG gmKc_140 gmLc_140 g2 rfl d_m_shelfFor_24 (fun _ => ?_)
        refine gm_aload_n hG 0 d_m_shelfFor_25 rfl rfl ?_
        refine gm_getR (t := 146) hG gmF_6_47 gmKc_133 rfl d_m_shelfFor_26 ?_
        refine gm_iload_n hG 3 d_m_shelfFor_29 rfl rfl ?_
        obtain ⟨g4, h⟩ := gmG_of h
        refine gm_iald (t := (y3).toNat) hG gmKc_146 gmLc_146 g4 rfl d_m_shelfFor_30 (fun _ => ?_)
        refine gm_icmp_gt (tgt := 53) hG d_m_shelfFor_31 (by decide) (hO 140 (y1).toNat) (hO 146 (y3).toNat) (fun c5 => ?_) (fun c5 => ?_)
        · replace h := gmI_pos c5 h
          refine gm_iinc (lv' := [(3, .inl (y3 + 1)), (0, .inr 133), (1, .inl y1), (2, .inl y2)]) hG 3 d_m_shelfFor_53 rfl (by decide) rfl ?_
          refine gm_goto (tgt := 2) hG d_m_shelfFor_56 (by decide) ?_
          obtain ⟨g6, h⟩ := gmG_of h
          refine gm_sub [1, 2, 3, 0] rfl ?_
          exact ih r1 r2 g6 h hk
        · replace h := gmI_neg c5 h
          refine gm_aload_n hG 0 d_m_shelfFor_34 rfl rfl ?_
          refine gm_getR (t := 147) hG gmF_6_50 gmKc_133 rfl d_m_shelfFor_35 ?_
          refine gm_iload_n hG 3 d_m_shelfFor_38 rfl rfl ?_
          refine gm_iald (t := (y3).toNat) hG gmKc_147 gmLc_147 g4 rfl d_m_shelfFor_39 (fun _ => ?_)
          refine gm_aload_n hG 0 d_m_shelfFor_40 rfl rfl ?_
          refine gm_getR (t := 139) hG gmF_6_26 gmKc_133 rfl d_m_shelfFor_41 ?_
          refine gm_iload_n hG 1 d_m_shelfFor_44 rfl rfl ?_
          refine gm_iald (t := (y1).toNat) hG gmKc_139 gmLc_139 g2 rfl d_m_shelfFor_45 (fun _ => ?_)
          refine gm_iadd hG d_m_shelfFor_46 ?_
          refine gm_iload_n hG 2 d_m_shelfFor_47 rfl rfl ?_
          obtain ⟨g7, h⟩ := gmG_of h
          refine gm_icmp_gt (tgt := 53) hG d_m_shelfFor_48 (by decide) g7 r2 (fun c8 => ?_) (fun c8 => ?_)
          · replace h := gmI_pos c8 h
            refine gm_iinc (lv' := [(3, .inl (y3 + 1)), (0, .inr 133), (1, .inl y1), (2, .inl y2)]) hG 3 d_m_shelfFor_53 rfl (by decide) rfl ?_
            refine gm_goto (tgt := 2) hG d_m_shelfFor_56 (by decide) ?_
            obtain ⟨g9, h⟩ := gmG_of h
            refine gm_sub [1, 2, 3, 0] rfl ?_
            exact ih r1 r2 g9 h hk
          · replace h := gmI_neg c8 h
            refine gm_iload_n hG 3 d_m_shelfFor_51 rfl rfl ?_
            exact gm_iret' hF h r3 d_m_shelfFor_52
set_option maxRecDepth 100000 in
set_option maxHeartbeats 4000000 in
theorem Wm_shelfFor {a0 : Int} {a1 : Int} {σ : St} {rv : Int} {rs : St} (ra0 : gmR a0) (ra1 : gmR a1) (h : Fm_shelfFor a0 a1 σ = some (rv, rs)) : Ctr gmY6_shelfFor prog_8_method_38_code 4 (some .int) 0 0 [.inr 133, .inl a0, .inl a1] σ (some rv) rs := by
  refine Ctr.ofI (own := "GarmentMarkerModel") (by decide +kernel) rfl (Nat.le_of_ble_eq_true rfl) (fun φ hG hF => ?_)
  unfold Fm_shelfFor at h
  refine gm_lv (l2 := [(0, .inr 133), (1, .inl a0), (2, .inl a1)]) rfl ?_
  refine gm_ok (fun hO => ?_)
  refine gm_iconst hG d_m_shelfFor_0 ?_
  refine gm_istore_n (lv' := [(3, .inl 0), (0, .inr 133), (1, .inl a0), (2, .inl a1)]) hG d_m_shelfFor_1 rfl (by decide) rfl ?_
  refine gm_sub [1, 2, 3, 0] rfl ?_
  refine Wm_shelfFor_2 hG hF gmN ra0 ra1 (by decide) h (fun  {s10}  h => ?_)
  refine gm_ok (fun hOs10 => ?_)
  refine gm_aload_n hG 0 d_m_shelfFor_59 rfl rfl ?_
  refine gm_getI hG gmF_6_119 gmKc_133 rfl d_m_shelfFor_60 (fun _ => ?_)
  obtain ⟨g12, h⟩ := gmG_of h
  obtain ⟨g13, h⟩ := gmG_of h
  suffices hj : J φ s10 93 [(0, .inr 133), (1, .inl a0)] [.inl (if (s10 133 15) = 0 then 0 else ((s10 145 (((s10 133 15) - 1)).toNat) + (s10 146 (((s10 133 15) - 1)).toNat)))] by
    refine gm_if_ne (tgt := 70) hG d_m_shelfFor_63 (by decide) (hOs10 133 15) (fun c11 => ?_) (fun c11 => ?_)
    · replace hj := gmJ_neg c11 hj
      refine gm_aload_n hG 0 d_m_shelfFor_70 rfl rfl ?_
      refine gm_getR (t := 145) hG gmF_6_44 gmKc_133 rfl d_m_shelfFor_71 ?_
      refine gm_aload_n hG 0 d_m_shelfFor_74 rfl rfl ?_
      refine gm_getI hG gmF_6_119 gmKc_133 rfl d_m_shelfFor_75 (fun _ => ?_)
      refine gm_iconst hG d_m_shelfFor_78 ?_
      refine gm_isub hG d_m_shelfFor_79 ?_
      refine gm_iald (t := (((s10 133 15) - 1)).toNat) hG gmKc_145 gmLc_145 (g12 c11) rfl d_m_shelfFor_80 (fun _ => ?_)
      refine gm_aload_n hG 0 d_m_shelfFor_81 rfl rfl ?_
      refine gm_getR (t := 146) hG gmF_6_47 gmKc_133 rfl d_m_shelfFor_82 ?_
      refine gm_aload_n hG 0 d_m_shelfFor_85 rfl rfl ?_
      refine gm_getI hG gmF_6_119 gmKc_133 rfl d_m_shelfFor_86 (fun _ => ?_)
      refine gm_iconst hG d_m_shelfFor_89 ?_
      refine gm_isub hG d_m_shelfFor_90 ?_
      refine gm_iald (t := (((s10 133 15) - 1)).toNat) hG gmKc_146 gmLc_146 (g13 c11) rfl d_m_shelfFor_91 (fun _ => ?_)
      refine gm_iadd hG d_m_shelfFor_92 ?_
      exact hj
    · replace hj := gmJ_pos c11 hj
      refine gm_iconst hG d_m_shelfFor_66 ?_
      refine gm_goto (tgt := 93) hG d_m_shelfFor_67 (by decide) ?_
      exact hj
  obtain ⟨x14, ex14, h⟩ := gmL_of h
  refine gm_top ex14 ?_
  refine gm_istore_n (lv' := [(3, .inl x14), (0, .inr 133), (1, .inl a0)]) hG d_m_shelfFor_93 rfl (by decide) rfl ?_
  refine gm_aload_n hG 1 d_m_shelfFor_94 rfl rfl ?_
  refine gm_getR (t := 145) hG gmF_6_44 gmKc_133 rfl d_m_shelfFor_95 ?_
  refine gm_aload_n hG 1 d_m_shelfFor_98 rfl rfl ?_
  refine gm_getI hG gmF_6_119 gmKc_133 rfl d_m_shelfFor_99 (fun _ => ?_)
  refine gm_iload_n hG 0 d_m_shelfFor_102 rfl rfl ?_
  obtain ⟨g15, h⟩ := gmG_of h
  obtain ⟨g16, h⟩ := gmG_of h
  obtain ⟨s17, es17, h⟩ := gmL_of h
  refine gm_iast (t := ((s10 133 15)).toNat) hG gmKc_145 gmLc_145 g16 rfl g15 es17 d_m_shelfFor_103 ?_
  refine gm_ok (fun hOs17 => ?_)
  refine gm_aload_n hG 1 d_m_shelfFor_104 rfl rfl ?_
  refine gm_getR (t := 146) hG gmF_6_47 gmKc_133 rfl d_m_shelfFor_105 ?_
  refine gm_aload_n hG 1 d_m_shelfFor_108 rfl rfl ?_
  refine gm_getI hG gmF_6_119 gmKc_133 rfl d_m_shelfFor_109 (fun _ => ?_)
  refine gm_aload_n hG 1 d_m_shelfFor_112 rfl rfl ?_
  refine gm_getR (t := 140) hG gmF_6_29 gmKc_133 rfl d_m_shelfFor_113 ?_
  refine gm_iload_n hG 2 d_m_shelfFor_116 rfl rfl ?_
  obtain ⟨g18, h⟩ := gmG_of h
  refine gm_iald (t := (a0).toNat) hG gmKc_140 gmLc_140 g18 rfl d_m_shelfFor_117 (fun _ => ?_)
  obtain ⟨g19, h⟩ := gmG_of h
  obtain ⟨s20, es20, h⟩ := gmL_of h
  refine gm_iast (t := ((s17 133 15)).toNat) hG gmKc_146 gmLc_146 g19 rfl (hOs17 140 (a0).toNat) es20 d_m_shelfFor_118 ?_
  refine gm_ok (fun hOs20 => ?_)
  refine gm_aload_n hG 1 d_m_shelfFor_119 rfl rfl ?_
  refine gm_getR (t := 147) hG gmF_6_50 gmKc_133 rfl d_m_shelfFor_120 ?_
  refine gm_aload_n hG 1 d_m_shelfFor_123 rfl rfl ?_
  refine gm_getI hG gmF_6_119 gmKc_133 rfl d_m_shelfFor_124 (fun _ => ?_)
  refine gm_iconst hG d_m_shelfFor_127 ?_
  obtain ⟨g21, h⟩ := gmG_of h
  obtain ⟨s22, es22, h⟩ := gmL_of h
  refine gm_iast (t := ((s20 133 15)).toNat) hG gmKc_147 gmLc_147 g21 rfl (by decide) es22 d_m_shelfFor_128 ?_
  refine gm_ok (fun hOs22 => ?_)
  refine gm_aload_n hG 1 d_m_shelfFor_129 rfl rfl ?_
  refine gm_dup hG d_m_shelfFor_130 ?_
  refine gm_getI hG gmF_6_119 gmKc_133 rfl d_m_shelfFor_131 (fun _ => ?_)
  refine gm_iconst hG d_m_shelfFor_134 ?_
  refine gm_iadd hG d_m_shelfFor_135 ?_
  obtain ⟨g23, h⟩ := gmG_of h
  obtain ⟨s24, es24, h⟩ := gmL_of h
  refine gm_putI hG gmF_6_119 gmKc_133 rfl rfl (by decide +kernel) g23 es24 d_m_shelfFor_136 ?_
  refine gm_ok (fun hOs24 => ?_)
  refine gm_aload_n hG 1 d_m_shelfFor_139 rfl rfl ?_
  refine gm_getI hG gmF_6_119 gmKc_133 rfl d_m_shelfFor_140 (fun _ => ?_)
  refine gm_iconst hG d_m_shelfFor_143 ?_
  refine gm_isub hG d_m_shelfFor_144 ?_
  obtain ⟨g25, h⟩ := gmG_of h
  exact gm_iret' hF h g25 d_m_shelfFor_145
