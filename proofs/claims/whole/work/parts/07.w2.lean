def Fx_seamCount (σ : St) : Option (Int × St) := some ((σ 1 2), σ)
set_option maxRecDepth 100000 in
set_option maxHeartbeats 4000000 in
theorem Wx_seamCount {σ : St} {rv : Int} {rs : St} (h : Fx_seamCount σ = some (rv, rs)) : Ctr gmY5_seamCount prog_1_method_7_code 1 (some .int) 0 0 [.inr 0] σ (some rv) rs := by
  refine Ctr.ofI (own := "GarmentMarker") (by decide +kernel) rfl (Nat.le_of_ble_eq_true rfl) (fun φ hG hF => ?_)
  unfold Fx_seamCount at h
  refine gm_lv (l2 := [(0, .inr 0)]) rfl ?_
  refine gm_ok (fun hO => ?_)
  refine gm_aload_n hG 0 d_x_seamCount_0 rfl rfl ?_
  refine gm_getR (t := 1) hG gmF_5_12 gmKc_0 rfl d_x_seamCount_1 ?_
  refine gm_getI hG gmF_5_77 gmKc_1 rfl d_x_seamCount_4 (fun _ => ?_)
  exact gm_iret' hF h (hO 1 2) d_x_seamCount_7
def Fx_seamDifference (a0 : Int) (a1 : Int) (σ : St) : Option (Int × St) := gmG (gmR ((σ 1 2) - 1)) (gmB (Fx_isWithin a0 0 ((σ 1 2) - 1) σ) (fun r3 s2 => if r3 = 0 then some ((-1003), s2) else gmB (Fx_isSize a1 s2) (fun r6 s5 => if r6 = 0 then some ((-1002), s5) else gmG (0 ≤ a0 ∧ a0 < 6) (gmB (Ft_differenceOf (gmTg 9 (a0).toNat) a1 s5) (fun r10 s9 => some (r10, s9))))))
set_option maxRecDepth 100000 in
set_option maxHeartbeats 4000000 in
theorem Wx_seamDifference {a0 : Int} {a1 : Int} {σ : St} {rv : Int} {rs : St} (ra0 : gmR a0) (ra1 : gmR a1) (h : Fx_seamDifference a0 a1 σ = some (rv, rs)) : Ctr gmY5_seamDifference prog_1_method_8_code 3 (some .int) 2 46 [.inr 0, .inl a0, .inl a1] σ (some rv) rs := by
  refine Ctr.ofI (own := "GarmentMarker") (by decide +kernel) rfl (Nat.le_of_ble_eq_true rfl) (fun φ hG hF => ?_)
  unfold Fx_seamDifference at h
  refine gm_lv (l2 := [(0, .inr 0), (1, .inl a0), (2, .inl a1)]) rfl ?_
  refine gm_ok (fun hO => ?_)
  refine gm_iload_n hG 1 d_x_seamDifference_0 rfl rfl ?_
  refine gm_iconst hG d_x_seamDifference_1 ?_
  refine gm_aload_n hG 0 d_x_seamDifference_2 rfl rfl ?_
  refine gm_getR (t := 1) hG gmF_5_12 gmKc_0 rfl d_x_seamDifference_3 ?_
  refine gm_getI hG gmF_5_77 gmKc_1 rfl d_x_seamDifference_6 (fun _ => ?_)
  refine gm_iconst hG d_x_seamDifference_9 ?_
  refine gm_isub hG d_x_seamDifference_10 ?_
  obtain ⟨g1, h⟩ := gmG_of h
  obtain ⟨r3, s2, es2, h⟩ := gmB_of h
  refine gm_callSi hG [.inl a0, .inl 0, .inl ((σ 1 2) - 1)] [] gmM_5_35 (Wx_isWithin ra0 (by decide) g1 es2) rfl (by decide) (Nat.le_of_ble_eq_true rfl) rfl d_x_seamDifference_11 (fun qr3 => ?_)
  refine gm_ok (fun hOs2 => ?_)
  refine gm_if_ne (tgt := 21) hG d_x_seamDifference_14 (by decide) qr3 (fun c4 => ?_) (fun c4 => ?_)
  · replace h := gmI_neg c4 h
    refine gm_iload_n hG 2 d_x_seamDifference_21 rfl rfl ?_
    obtain ⟨r6, s5, es5, h⟩ := gmB_of h
    refine gm_callSi hG [.inl a1] [] gmM_5_105 (Wx_isSize ra1 es5) rfl (by decide) (Nat.le_of_ble_eq_true rfl) rfl d_x_seamDifference_22 (fun qr6 => ?_)
    refine gm_ok (fun hOs5 => ?_)
    refine gm_if_ne (tgt := 32) hG d_x_seamDifference_25 (by decide) qr6 (fun c7 => ?_) (fun c7 => ?_)
    · replace h := gmI_neg c7 h
      refine gm_aload_n hG 0 d_x_seamDifference_32 rfl rfl ?_
      refine gm_getR (t := 1) hG gmF_5_12 gmKc_0 rfl d_x_seamDifference_33 ?_
      refine gm_aload_n hG 0 d_x_seamDifference_36 rfl rfl ?_
      refine gm_getR (t := 1) hG gmF_5_12 gmKc_0 rfl d_x_seamDifference_37 ?_
      refine gm_getR (t := 9) hG gmF_5_84 gmKc_1 rfl d_x_seamDifference_40 ?_
      refine gm_iload_n hG 1 d_x_seamDifference_43 rfl rfl ?_
      obtain ⟨g8, h⟩ := gmG_of h
      refine gm_aald (t := (a0).toNat) hG 3 gmKc_9 (by decide) (by decide) rfl gmLc_9 g8 rfl d_x_seamDifference_44 ?_
      refine gm_iload_n hG 2 d_x_seamDifference_45 rfl rfl ?_
      obtain ⟨r10, s9, es9, h⟩ := gmB_of h
      refine gm_callVi hG [.inr (gmTg 9 (a0).toNat), .inl a1] [] gmM_5_108 (Wt_differenceOf (gmKtS (k := 9) (i := a0) gmKc_9 (by rw [gmLc_9]; exact g8)) ra1 es9) gmKc_1 rfl (by decide) (Nat.le_of_ble_eq_true rfl) rfl d_x_seamDifference_46 (fun qr10 => ?_)
      refine gm_ok (fun hOs9 => ?_)
      exact gm_iret' hF h qr10 d_x_seamDifference_49
    · replace h := gmI_pos c7 h
      refine gm_sipush hG d_x_seamDifference_28 (by decide) ?_
      exact gm_iret' hF h (by decide) d_x_seamDifference_31
  · replace h := gmI_pos c4 h
    refine gm_sipush hG d_x_seamDifference_17 (by decide) ?_
    exact gm_iret' hF h (by decide) d_x_seamDifference_20
def Fx_matchingSeams_4 : Nat → Int → Int → St → (Int → St → Option (Int × St)) → Option (Int × St)
  | 0, _, _, _, _ => none
  | n + 1, y1, y2, σ, k => if (σ 1 2) ≤ y2 then k y1 σ else gmG (0 ≤ y2 ∧ y2 < 6) (gmB (Ft_matchesInAllSizes (gmTg 9 (y2).toNat) σ) (fun r4 s3 => if r4 = 0 then gmG (gmR (y2 + 1)) (Fx_matchingSeams_4 n y1 (y2 + 1) s3 k) else gmG (gmR (y1 + 1)) (gmG (gmR (y2 + 1)) (Fx_matchingSeams_4 n (y1 + 1) (y2 + 1) s3 k))))
def Fx_matchingSeams (σ : St) : Option (Int × St) := Fx_matchingSeams_4 gmN 0 0 σ (fun x9 s10 => some (x9, s10))
set_option maxRecDepth 100000 in
set_option maxHeartbeats 4000000 in
theorem Wx_matchingSeams_4 {φ : Fx} {rv : Int} {rs : St} (hG : Good φ "GarmentMarker" prog_1_method_9_code 3 3 68) (hF : FinI φ prog_1_method_9_code rv rs) : ∀ (n : Nat) {y1 : Int} {y2 : Int} {σ : St} {k : Int → St → Option (Int × St)}, gmR y1 → gmR y2 → Fx_matchingSeams_4 n y1 y2 σ k = some (rv, rs) → (∀ {z1 : Int} {τ : St}, gmR z1 → k z1 τ = some (rv, rs) → J φ τ 43 [(1, .inl z1)] []) → J φ σ 4 [(0, .inr 0), (1, .inl y1), (2, .inl y2)] [] := by
  intro n
  induction n with
  | zero =>
    intro _ _ _ _ _ _ h
    exact absurd h (by rw [Fx_matchingSeams_4.eq_1]; exact fun q => by cases q)
  | succ n ih =>
    intro y1 y2 σ k r1 r2 h hk
    rw [Fx_matchingSeams_4.eq_2] at h
    refine gm_ok (fun hO => ?_)
    refine gm_iload_n hG 2 d_x_matchingSeams_4 rfl rfl ?_
    refine gm_aload_n hG 0 d_x_matchingSeams_5 rfl rfl ?_
    refine gm_getR (t := 1) hG gmF_5_12 gmKc_0 rfl d_x_matchingSeams_6 ?_
    refine gm_getI hG gmF_5_77 gmKc_1 rfl d_x_matchingSeams_9 (fun _ => ?_)
    refine gm_icmp_ge (tgt := 43) hG d_x_matchingSeams_12 (by decide) r2 (hO 1 2) (fun c1 => ?_) (fun c1 => ?_)
    · replace h := gmI_pos c1 h
      refine gm_sub [1] rfl ?_
      exact hk r1 h
    · replace h := gmI_neg c1 h
      refine gm_aload_n hG 0 d_x_matchingSeams_15 rfl rfl ?_
      refine gm_getR (t := 1) hG gmF_5_12 gmKc_0 rfl d_x_matchingSeams_16 ?_
      refine gm_aload_n hG 0 d_x_matchingSeams_19 rfl rfl ?_
      refine gm_getR (t := 1) hG gmF_5_12 gmKc_0 rfl d_x_matchingSeams_20 ?_
      refine gm_getR (t := 9) hG gmF_5_84 gmKc_1 rfl d_x_matchingSeams_23 ?_
      refine gm_iload_n hG 2 d_x_matchingSeams_26 rfl rfl ?_
      obtain ⟨g2, h⟩ := gmG_of h
      refine gm_aald (t := (y2).toNat) hG 3 gmKc_9 (by decide) (by decide) rfl gmLc_9 g2 rfl d_x_matchingSeams_27 ?_
      obtain ⟨r4, s3, es3, h⟩ := gmB_of h
      refine gm_callVi hG [.inr (gmTg 9 (y2).toNat)] [] gmM_5_112 (Wt_matchesInAllSizes (gmKtS (k := 9) (i := y2) gmKc_9 (by rw [gmLc_9]; exact g2)) es3) gmKc_1 rfl (by decide) (Nat.le_of_ble_eq_true rfl) rfl d_x_matchingSeams_28 (fun qr4 => ?_)
      refine gm_ok (fun hOs3 => ?_)
      refine gm_if_eq (tgt := 37) hG d_x_matchingSeams_31 (by decide) qr4 (fun c5 => ?_) (fun c5 => ?_)
      · replace h := gmI_pos c5 h
        refine gm_iinc (lv' := [(2, .inl (y2 + 1)), (0, .inr 0), (1, .inl y1)]) hG 2 d_x_matchingSeams_37 rfl (by decide) rfl ?_
        refine gm_goto (tgt := 4) hG d_x_matchingSeams_40 (by decide) ?_
        obtain ⟨g6, h⟩ := gmG_of h
        refine gm_sub [1, 2, 0] rfl ?_
        exact ih r1 g6 h hk
      · replace h := gmI_neg c5 h
        refine gm_iinc (lv' := [(1, .inl (y1 + 1)), (0, .inr 0), (2, .inl y2)]) hG 1 d_x_matchingSeams_34 rfl (by decide) rfl ?_
        refine gm_iinc (lv' := [(2, .inl (y2 + 1)), (1, .inl (y1 + 1)), (0, .inr 0)]) hG 2 d_x_matchingSeams_37 rfl (by decide) rfl ?_
        refine gm_goto (tgt := 4) hG d_x_matchingSeams_40 (by decide) ?_
        obtain ⟨g7, h⟩ := gmG_of h
        obtain ⟨g8, h⟩ := gmG_of h
        refine gm_sub [2, 1, 0] rfl ?_
        exact ih g7 g8 h hk
set_option maxRecDepth 100000 in
set_option maxHeartbeats 4000000 in
theorem Wx_matchingSeams {σ : St} {rv : Int} {rs : St} (h : Fx_matchingSeams σ = some (rv, rs)) : Ctr gmY5_matchingSeams prog_1_method_9_code 3 (some .int) 3 68 [.inr 0] σ (some rv) rs := by
  refine Ctr.ofI (own := "GarmentMarker") (by decide +kernel) rfl (Nat.le_of_ble_eq_true rfl) (fun φ hG hF => ?_)
  unfold Fx_matchingSeams at h
  refine gm_lv (l2 := [(0, .inr 0)]) rfl ?_
  refine gm_ok (fun hO => ?_)
  refine gm_iconst hG d_x_matchingSeams_0 ?_
  refine gm_istore_n (lv' := [(1, .inl 0), (0, .inr 0)]) hG d_x_matchingSeams_1 rfl (by decide) rfl ?_
  refine gm_iconst hG d_x_matchingSeams_2 ?_
  refine gm_istore_n (lv' := [(2, .inl 0), (1, .inl 0), (0, .inr 0)]) hG d_x_matchingSeams_3 rfl (by decide) rfl ?_
  refine gm_sub [2, 1, 0] rfl ?_
  refine Wx_matchingSeams_4 hG hF gmN (by decide) (by decide) h (fun {x9} {s10} qx9 h => ?_)
  refine gm_ok (fun hOs10 => ?_)
  refine gm_iload_n hG 0 d_x_matchingSeams_43 rfl rfl ?_
  exact gm_iret' hF h qx9 d_x_matchingSeams_44
def Fx_firstMismatch_2 : Nat → Int → St → (St → Option (Int × St)) → Option (Int × St)
  | 0, _, _, _ => none
  | n + 1, y1, σ, k => if (σ 1 2) ≤ y1 then k σ else gmG (0 ≤ y1 ∧ y1 < 6) (gmB (Ft_matchesInAllSizes (gmTg 9 (y1).toNat) σ) (fun r4 s3 => if r4 = 0 then some (y1, s3) else gmG (gmR (y1 + 1)) (Fx_firstMismatch_2 n (y1 + 1) s3 k)))
def Fx_firstMismatch (σ : St) : Option (Int × St) := Fx_firstMismatch_2 gmN 0 σ (fun s7 => some ((-1010), s7))
set_option maxRecDepth 100000 in
set_option maxHeartbeats 4000000 in
theorem Wx_firstMismatch_2 {φ : Fx} {rv : Int} {rs : St} (hG : Good φ "GarmentMarker" prog_1_method_10_code 2 3 68) (hF : FinI φ prog_1_method_10_code rv rs) : ∀ (n : Nat) {y1 : Int} {σ : St} {k : St → Option (Int × St)}, gmR y1 → Fx_firstMismatch_2 n y1 σ k = some (rv, rs) → (∀ {τ : St}, k τ = some (rv, rs) → J φ τ 40 [] []) → J φ σ 2 [(0, .inr 0), (1, .inl y1)] [] := by
  intro n
  induction n with
  | zero =>
    intro _ _ _ _ h
    exact absurd h (by rw [Fx_firstMismatch_2.eq_1]; exact fun q => by cases q)
  | succ n ih =>
    intro y1 σ k r1 h hk
    rw [Fx_firstMismatch_2.eq_2] at h
    refine gm_ok (fun hO => ?_)
    refine gm_iload_n hG 1 d_x_firstMismatch_2 rfl rfl ?_
    refine gm_aload_n hG 0 d_x_firstMismatch_3 rfl rfl ?_
    refine gm_getR (t := 1) hG gmF_5_12 gmKc_0 rfl d_x_firstMismatch_4 ?_
    refine gm_getI hG gmF_5_77 gmKc_1 rfl d_x_firstMismatch_7 (fun _ => ?_)
    refine gm_icmp_ge (tgt := 40) hG d_x_firstMismatch_10 (by decide) r1 (hO 1 2) (fun c1 => ?_) (fun c1 => ?_)
    · replace h := gmI_pos c1 h
      refine gm_sub [] rfl ?_
      exact hk h
    · replace h := gmI_neg c1 h
      refine gm_aload_n hG 0 d_x_firstMismatch_13 rfl rfl ?_
      refine gm_getR (t := 1) hG gmF_5_12 gmKc_0 rfl d_x_firstMismatch_14 ?_
      refine gm_aload_n hG 0 d_x_firstMismatch_17 rfl rfl ?_
      refine gm_getR (t := 1) hG gmF_5_12 gmKc_0 rfl d_x_firstMismatch_18 ?_
      refine gm_getR (t := 9) hG gmF_5_84 gmKc_1 rfl d_x_firstMismatch_21 ?_
      refine gm_iload_n hG 1 d_x_firstMismatch_24 rfl rfl ?_
      obtain ⟨g2, h⟩ := gmG_of h
      refine gm_aald (t := (y1).toNat) hG 3 gmKc_9 (by decide) (by decide) rfl gmLc_9 g2 rfl d_x_firstMismatch_25 ?_
      obtain ⟨r4, s3, es3, h⟩ := gmB_of h
      refine gm_callVi hG [.inr (gmTg 9 (y1).toNat)] [] gmM_5_112 (Wt_matchesInAllSizes (gmKtS (k := 9) (i := y1) gmKc_9 (by rw [gmLc_9]; exact g2)) es3) gmKc_1 rfl (by decide) (Nat.le_of_ble_eq_true rfl) rfl d_x_firstMismatch_26 (fun qr4 => ?_)
      refine gm_ok (fun hOs3 => ?_)
      refine gm_if_ne (tgt := 34) hG d_x_firstMismatch_29 (by decide) qr4 (fun c5 => ?_) (fun c5 => ?_)
      · replace h := gmI_neg c5 h
        refine gm_iinc (lv' := [(1, .inl (y1 + 1)), (0, .inr 0)]) hG 1 d_x_firstMismatch_34 rfl (by decide) rfl ?_
        refine gm_goto (tgt := 2) hG d_x_firstMismatch_37 (by decide) ?_
        obtain ⟨g6, h⟩ := gmG_of h
        refine gm_sub [1, 0] rfl ?_
        exact ih g6 h hk
      · replace h := gmI_pos c5 h
        refine gm_iload_n hG 1 d_x_firstMismatch_32 rfl rfl ?_
        exact gm_iret' hF h r1 d_x_firstMismatch_33
set_option maxRecDepth 100000 in
set_option maxHeartbeats 4000000 in
theorem Wx_firstMismatch {σ : St} {rv : Int} {rs : St} (h : Fx_firstMismatch σ = some (rv, rs)) : Ctr gmY5_firstMismatch prog_1_method_10_code 2 (some .int) 3 68 [.inr 0] σ (some rv) rs := by
  refine Ctr.ofI (own := "GarmentMarker") (by decide +kernel) rfl (Nat.le_of_ble_eq_true rfl) (fun φ hG hF => ?_)
  unfold Fx_firstMismatch at h
  refine gm_lv (l2 := [(0, .inr 0)]) rfl ?_
  refine gm_ok (fun hO => ?_)
  refine gm_iconst hG d_x_firstMismatch_0 ?_
  refine gm_istore_n (lv' := [(1, .inl 0), (0, .inr 0)]) hG d_x_firstMismatch_1 rfl (by decide) rfl ?_
  refine gm_sub [1, 0] rfl ?_
  refine Wx_firstMismatch_2 hG hF gmN (by decide) h (fun  {s7}  h => ?_)
  refine gm_ok (fun hOs7 => ?_)
  refine gm_sipush hG d_x_firstMismatch_40 (by decide) ?_
  exact gm_iret' hF h (by decide) d_x_firstMismatch_43
def Fx_setRatio (a0 : Int) (a1 : Int) (σ : St) : Option (Int × St) := gmB (Fx_isSize a0 σ) (fun r2 s1 => if r2 = 0 then some ((-1002), s1) else gmB (Fx_isWithin a1 0 2 s1) (fun r5 s4 => if r5 = 0 then some ((-1005), s4) else gmG (0 ≤ a0 ∧ a0 < 3) (gmL ((s4 16 (a0).toNat) : Int) (fun x8 => gmL (gmUp s4 16 (a0).toNat a1) (fun s9 => some (x8, s9))))))
set_option maxRecDepth 100000 in
set_option maxHeartbeats 4000000 in
theorem Wx_setRatio {a0 : Int} {a1 : Int} {σ : St} {rv : Int} {rs : St} (ra0 : gmR a0) (ra1 : gmR a1) (h : Fx_setRatio a0 a1 σ = some (rv, rs)) : Ctr gmY5_setRatio prog_1_method_11_code 4 (some .int) 2 42 [.inr 0, .inl a0, .inl a1] σ (some rv) rs := by
  refine Ctr.ofI (own := "GarmentMarker") (by decide +kernel) rfl (Nat.le_of_ble_eq_true rfl) (fun φ hG hF => ?_)
  unfold Fx_setRatio at h
  refine gm_lv (l2 := [(0, .inr 0), (1, .inl a0), (2, .inl a1)]) rfl ?_
  refine gm_ok (fun hO => ?_)
  refine gm_iload_n hG 1 d_x_setRatio_0 rfl rfl ?_
  obtain ⟨r2, s1, es1, h⟩ := gmB_of h
  refine gm_callSi hG [.inl a0] [] gmM_5_105 (Wx_isSize ra0 es1) rfl (by decide) (Nat.le_of_ble_eq_true rfl) rfl d_x_setRatio_1 (fun qr2 => ?_)
  refine gm_ok (fun hOs1 => ?_)
  refine gm_if_ne (tgt := 11) hG d_x_setRatio_4 (by decide) qr2 (fun c3 => ?_) (fun c3 => ?_)
  · replace h := gmI_neg c3 h
    refine gm_iload_n hG 2 d_x_setRatio_11 rfl rfl ?_
    refine gm_iconst hG d_x_setRatio_12 ?_
    refine gm_iconst hG d_x_setRatio_13 ?_
    obtain ⟨r5, s4, es4, h⟩ := gmB_of h
    refine gm_callSi hG [.inl a1, .inl 0, .inl 2] [] gmM_5_35 (Wx_isWithin ra1 (by decide) (by decide) es4) rfl (by decide) (Nat.le_of_ble_eq_true rfl) rfl d_x_setRatio_14 (fun qr5 => ?_)
    refine gm_ok (fun hOs4 => ?_)
    refine gm_if_ne (tgt := 24) hG d_x_setRatio_17 (by decide) qr5 (fun c6 => ?_) (fun c6 => ?_)
    · replace h := gmI_neg c6 h
      refine gm_aload_n hG 0 d_x_setRatio_24 rfl rfl ?_
      refine gm_getR (t := 1) hG gmF_5_12 gmKc_0 rfl d_x_setRatio_25 ?_
      refine gm_getR (t := 16) hG gmF_5_116 gmKc_1 rfl d_x_setRatio_28 ?_
      refine gm_iload_n hG 1 d_x_setRatio_31 rfl rfl ?_
      obtain ⟨g7, h⟩ := gmG_of h
      refine gm_iald (t := (a0).toNat) hG gmKc_16 gmLc_16 g7 rfl d_x_setRatio_32 (fun _ => ?_)
      obtain ⟨x8, ex8, h⟩ := gmL_of h
      refine gm_top ex8 ?_
      refine gm_istore_n (lv' := [(3, .inl x8), (0, .inr 0), (1, .inl a0), (2, .inl a1)]) hG d_x_setRatio_33 rfl (by decide) rfl ?_
      refine gm_aload_n hG 1 d_x_setRatio_34 rfl rfl ?_
      refine gm_getR (t := 1) hG gmF_5_12 gmKc_0 rfl d_x_setRatio_35 ?_
      refine gm_getR (t := 16) hG gmF_5_116 gmKc_1 rfl d_x_setRatio_38 ?_
      refine gm_iload_n hG 2 d_x_setRatio_41 rfl rfl ?_
      refine gm_iload_n hG 3 d_x_setRatio_42 rfl rfl ?_
      obtain ⟨s9, es9, h⟩ := gmL_of h
      refine gm_iast (t := (a0).toNat) hG gmKc_16 gmLc_16 g7 rfl ra1 es9 d_x_setRatio_43 ?_
      refine gm_ok (fun hOs9 => ?_)
      refine gm_iload_n hG 0 d_x_setRatio_44 rfl rfl ?_
      exact gm_iret' hF h (gm_kr ex8 (hOs4 16 (a0).toNat)) d_x_setRatio_45
    · replace h := gmI_pos c6 h
      refine gm_sipush hG d_x_setRatio_20 (by decide) ?_
      exact gm_iret' hF h (by decide) d_x_setRatio_23
  · replace h := gmI_pos c3 h
    refine gm_sipush hG d_x_setRatio_7 (by decide) ?_
    exact gm_iret' hF h (by decide) d_x_setRatio_10
def Fx_ratio (a0 : Int) (σ : St) : Option (Int × St) := gmB (Fx_isSize a0 σ) (fun r2 s1 => gmG ((¬ r2 = 0) → 0 ≤ a0 ∧ a0 < 3) (some ((if r2 = 0 then (-1002) else (s1 16 (a0).toNat)), s1)))
set_option maxRecDepth 100000 in
set_option maxHeartbeats 4000000 in
theorem Wx_ratio {a0 : Int} {σ : St} {rv : Int} {rs : St} (ra0 : gmR a0) (h : Fx_ratio a0 σ = some (rv, rs)) : Ctr gmY5_ratio prog_1_method_12_code 2 (some .int) 2 42 [.inr 0, .inl a0] σ (some rv) rs := by
  refine Ctr.ofI (own := "GarmentMarker") (by decide +kernel) rfl (Nat.le_of_ble_eq_true rfl) (fun φ hG hF => ?_)
  unfold Fx_ratio at h
  refine gm_lv (l2 := [(0, .inr 0), (1, .inl a0)]) rfl ?_
  refine gm_ok (fun hO => ?_)
  refine gm_iload_n hG 1 d_x_ratio_0 rfl rfl ?_
  obtain ⟨r2, s1, es1, h⟩ := gmB_of h
  refine gm_callSi hG [.inl a0] [] gmM_5_105 (Wx_isSize ra0 es1) rfl (by decide) (Nat.le_of_ble_eq_true rfl) rfl d_x_ratio_1 (fun qr2 => ?_)
  refine gm_ok (fun hOs1 => ?_)
  obtain ⟨g4, h⟩ := gmG_of h
  suffices hj : J φ s1 22 [(0, .inr 0), (1, .inl a0)] [.inl (if r2 = 0 then (-1002) else (s1 16 (a0).toNat))] by
    refine gm_if_eq (tgt := 19) hG d_x_ratio_4 (by decide) qr2 (fun c3 => ?_) (fun c3 => ?_)
    · replace hj := gmJ_pos c3 hj
      refine gm_sipush hG d_x_ratio_19 (by decide) ?_
      exact hj
    · replace hj := gmJ_neg c3 hj
      refine gm_aload_n hG 0 d_x_ratio_7 rfl rfl ?_
      refine gm_getR (t := 1) hG gmF_5_12 gmKc_0 rfl d_x_ratio_8 ?_
      refine gm_getR (t := 16) hG gmF_5_116 gmKc_1 rfl d_x_ratio_11 ?_
      refine gm_iload_n hG 1 d_x_ratio_14 rfl rfl ?_
      refine gm_iald (t := (a0).toNat) hG gmKc_16 gmLc_16 (g4 c3) rfl d_x_ratio_15 (fun _ => ?_)
      refine gm_goto (tgt := 22) hG d_x_ratio_16 (by decide) ?_
      exact hj
  exact gm_iret' hF h (gmR_ite (fun c3 => (by decide)) (fun c3 => (hOs1 16 (a0).toNat))) d_x_ratio_22
def Fx_setClothWidth (a0 : Int) (σ : St) : Option (Int × St) := gmB (Fx_isWithin a0 4 24 σ) (fun r2 s1 => if r2 = 0 then some ((-1005), s1) else gmL ((s1 1 5) : Int) (fun x4 => gmL (gmUp s1 1 5 a0) (fun s5 => some (x4, s5))))
set_option maxRecDepth 100000 in
set_option maxHeartbeats 4000000 in
theorem Wx_setClothWidth {a0 : Int} {σ : St} {rv : Int} {rs : St} (ra0 : gmR a0) (h : Fx_setClothWidth a0 σ = some (rv, rs)) : Ctr gmY5_setClothWidth prog_1_method_13_code 3 (some .int) 1 22 [.inr 0, .inl a0] σ (some rv) rs := by
  refine Ctr.ofI (own := "GarmentMarker") (by decide +kernel) rfl (Nat.le_of_ble_eq_true rfl) (fun φ hG hF => ?_)
  unfold Fx_setClothWidth at h
  refine gm_lv (l2 := [(0, .inr 0), (1, .inl a0)]) rfl ?_
  refine gm_ok (fun hO => ?_)
  refine gm_iload_n hG 1 d_x_setClothWidth_0 rfl rfl ?_
  refine gm_iconst hG d_x_setClothWidth_1 ?_
  refine gm_bipush hG d_x_setClothWidth_2 (by decide) ?_
  obtain ⟨r2, s1, es1, h⟩ := gmB_of h
  refine gm_callSi hG [.inl a0, .inl 4, .inl 24] [] gmM_5_35 (Wx_isWithin ra0 (by decide) (by decide) es1) rfl (by decide) (Nat.le_of_ble_eq_true rfl) rfl d_x_setClothWidth_4 (fun qr2 => ?_)
  refine gm_ok (fun hOs1 => ?_)
  refine gm_if_ne (tgt := 14) hG d_x_setClothWidth_7 (by decide) qr2 (fun c3 => ?_) (fun c3 => ?_)
  · replace h := gmI_neg c3 h
    refine gm_aload_n hG 0 d_x_setClothWidth_14 rfl rfl ?_
    refine gm_getR (t := 1) hG gmF_5_12 gmKc_0 rfl d_x_setClothWidth_15 ?_
    refine gm_getI hG gmF_5_119 gmKc_1 rfl d_x_setClothWidth_18 (fun _ => ?_)
    obtain ⟨x4, ex4, h⟩ := gmL_of h
    refine gm_top ex4 ?_
    refine gm_istore_n (lv' := [(2, .inl x4), (0, .inr 0), (1, .inl a0)]) hG d_x_setClothWidth_21 rfl (by decide) rfl ?_
    refine gm_aload_n hG 1 d_x_setClothWidth_22 rfl rfl ?_
    refine gm_getR (t := 1) hG gmF_5_12 gmKc_0 rfl d_x_setClothWidth_23 ?_
    refine gm_iload_n hG 2 d_x_setClothWidth_26 rfl rfl ?_
    obtain ⟨s5, es5, h⟩ := gmL_of h
    refine gm_putI hG gmF_5_119 gmKc_1 rfl rfl (by decide +kernel) ra0 es5 d_x_setClothWidth_27 ?_
    refine gm_ok (fun hOs5 => ?_)
    refine gm_iload_n hG 0 d_x_setClothWidth_30 rfl rfl ?_
    exact gm_iret' hF h (gm_kr ex4 (hOs1 1 5)) d_x_setClothWidth_31
  · replace h := gmI_pos c3 h
    refine gm_sipush hG d_x_setClothWidth_10 (by decide) ?_
    exact gm_iret' hF h (by decide) d_x_setClothWidth_13
def Fx_setFolded (a0 : Int) (σ : St) : Option (Int × St) := gmL ((σ 1 6) : Int) (fun x1 => gmG (a0 = 0 ∨ a0 = 1) (gmL (gmUp σ 1 6 a0) (fun s3 => gmG (x1 = 0 ∨ x1 = 1) (some (x1, s3)))))
set_option maxRecDepth 100000 in
set_option maxHeartbeats 4000000 in
theorem Wx_setFolded {a0 : Int} {σ : St} {rv : Int} {rs : St} (ra0 : gmR a0) (h : Fx_setFolded a0 σ = some (rv, rs)) : Ctr gmY5_setFolded prog_1_method_14_code 3 (some .boolean) 0 0 [.inr 0, .inl a0] σ (some rv) rs := by
  refine Ctr.ofZ (own := "GarmentMarker") (by decide +kernel) rfl (Nat.le_of_ble_eq_true rfl) (fun φ hG hF => ?_)
  unfold Fx_setFolded at h
  refine gm_lv (l2 := [(0, .inr 0), (1, .inl a0)]) rfl ?_
  refine gm_ok (fun hO => ?_)
  refine gm_aload_n hG 0 d_x_setFolded_0 rfl rfl ?_
  refine gm_getR (t := 1) hG gmF_5_12 gmKc_0 rfl d_x_setFolded_1 ?_
  refine gm_getI hG gmF_5_122 gmKc_1 rfl d_x_setFolded_4 (fun _ => ?_)
  obtain ⟨x1, ex1, h⟩ := gmL_of h
  refine gm_top ex1 ?_
  refine gm_istore_n (lv' := [(2, .inl x1), (0, .inr 0), (1, .inl a0)]) hG d_x_setFolded_7 rfl (by decide) rfl ?_
  refine gm_aload_n hG 1 d_x_setFolded_8 rfl rfl ?_
  refine gm_getR (t := 1) hG gmF_5_12 gmKc_0 rfl d_x_setFolded_9 ?_
  refine gm_iload_n hG 2 d_x_setFolded_12 rfl rfl ?_
  obtain ⟨g2, h⟩ := gmG_of h
  obtain ⟨s3, es3, h⟩ := gmL_of h
  refine gm_putZ hG gmF_5_122 gmKc_1 rfl rfl (by decide +kernel) g2 es3 d_x_setFolded_13 ?_
  refine gm_ok (fun hOs3 => ?_)
  refine gm_iload_n hG 0 d_x_setFolded_16 rfl rfl ?_
  obtain ⟨g4, h⟩ := gmG_of h
  exact gm_zret' hF h g4 d_x_setFolded_17
def Fx_setRotation (a0 : Int) (σ : St) : Option (Int × St) := gmL ((σ 1 7) : Int) (fun x1 => gmG (a0 = 0 ∨ a0 = 1) (gmL (gmUp σ 1 7 a0) (fun s3 => gmG (x1 = 0 ∨ x1 = 1) (some (x1, s3)))))
set_option maxRecDepth 100000 in
set_option maxHeartbeats 4000000 in
theorem Wx_setRotation {a0 : Int} {σ : St} {rv : Int} {rs : St} (ra0 : gmR a0) (h : Fx_setRotation a0 σ = some (rv, rs)) : Ctr gmY5_setRotation prog_1_method_15_code 3 (some .boolean) 0 0 [.inr 0, .inl a0] σ (some rv) rs := by
  refine Ctr.ofZ (own := "GarmentMarker") (by decide +kernel) rfl (Nat.le_of_ble_eq_true rfl) (fun φ hG hF => ?_)
  unfold Fx_setRotation at h
  refine gm_lv (l2 := [(0, .inr 0), (1, .inl a0)]) rfl ?_
  refine gm_ok (fun hO => ?_)
  refine gm_aload_n hG 0 d_x_setRotation_0 rfl rfl ?_
  refine gm_getR (t := 1) hG gmF_5_12 gmKc_0 rfl d_x_setRotation_1 ?_
  refine gm_getI hG gmF_5_125 gmKc_1 rfl d_x_setRotation_4 (fun _ => ?_)
  obtain ⟨x1, ex1, h⟩ := gmL_of h
  refine gm_top ex1 ?_
  refine gm_istore_n (lv' := [(2, .inl x1), (0, .inr 0), (1, .inl a0)]) hG d_x_setRotation_7 rfl (by decide) rfl ?_
  refine gm_aload_n hG 1 d_x_setRotation_8 rfl rfl ?_
  refine gm_getR (t := 1) hG gmF_5_12 gmKc_0 rfl d_x_setRotation_9 ?_
  refine gm_iload_n hG 2 d_x_setRotation_12 rfl rfl ?_
  obtain ⟨g2, h⟩ := gmG_of h
  obtain ⟨s3, es3, h⟩ := gmL_of h
  refine gm_putZ hG gmF_5_125 gmKc_1 rfl rfl (by decide +kernel) g2 es3 d_x_setRotation_13 ?_
  refine gm_ok (fun hOs3 => ?_)
  refine gm_iload_n hG 0 d_x_setRotation_16 rfl rfl ?_
  obtain ⟨g4, h⟩ := gmG_of h
  exact gm_zret' hF h g4 d_x_setRotation_17
def Fx_isPacking (a0 : Int) (a1 : Int) (σ : St) : Option (Int × St) := gmB (Fx_isWithin a0 0 1 σ) (fun r2 s1 => if r2 = 0 then some (0, s1) else gmB (Fx_isWithin a1 0 3 s1) (fun r5 s4 => some ((if r5 = 0 then 0 else 1), s4)))
set_option maxRecDepth 100000 in
set_option maxHeartbeats 4000000 in
theorem Wx_isPacking {a0 : Int} {a1 : Int} {σ : St} {rv : Int} {rs : St} (ra0 : gmR a0) (ra1 : gmR a1) (h : Fx_isPacking a0 a1 σ = some (rv, rs)) : Ctr gmY5_isPacking prog_1_method_42_code 2 (some .boolean) 1 22 [.inl a0, .inl a1] σ (some rv) rs := by
  refine Ctr.ofZ (own := "GarmentMarker") (by decide +kernel) rfl (Nat.le_of_ble_eq_true rfl) (fun φ hG hF => ?_)
  unfold Fx_isPacking at h
  refine gm_lv (l2 := [(0, .inl a0), (1, .inl a1)]) rfl ?_
  refine gm_ok (fun hO => ?_)
  refine gm_iload_n hG 0 d_x_isPacking_0 rfl rfl ?_
  refine gm_iconst hG d_x_isPacking_1 ?_
  refine gm_iconst hG d_x_isPacking_2 ?_
  obtain ⟨r2, s1, es1, h⟩ := gmB_of h
  refine gm_callSi hG [.inl a0, .inl 0, .inl 1] [] gmM_5_35 (Wx_isWithin ra0 (by decide) (by decide) es1) rfl (by decide) (Nat.le_of_ble_eq_true rfl) rfl d_x_isPacking_3 (fun qr2 => ?_)
  refine gm_ok (fun hOs1 => ?_)
  refine gm_if_eq (tgt := 22) hG d_x_isPacking_6 (by decide) qr2 (fun c3 => ?_) (fun c3 => ?_)
  · replace h := gmI_pos c3 h
    refine gm_iconst hG d_x_isPacking_22 ?_
    exact gm_zret' hF h (Or.inl rfl) d_x_isPacking_23
  · replace h := gmI_neg c3 h
    refine gm_iload_n hG 1 d_x_isPacking_9 rfl rfl ?_
    refine gm_iconst hG d_x_isPacking_10 ?_
    refine gm_iconst hG d_x_isPacking_11 ?_
    obtain ⟨r5, s4, es4, h⟩ := gmB_of h
    refine gm_callSi hG [.inl a1, .inl 0, .inl 3] [] gmM_5_35 (Wx_isWithin ra1 (by decide) (by decide) es4) rfl (by decide) (Nat.le_of_ble_eq_true rfl) rfl d_x_isPacking_12 (fun qr5 => ?_)
    refine gm_ok (fun hOs4 => ?_)
    suffices hj : J φ s4 23 [(0, .inl a0), (1, .inl a1)] [.inl (if r5 = 0 then 0 else 1)] by
      refine gm_if_eq (tgt := 22) hG d_x_isPacking_15 (by decide) qr5 (fun c6 => ?_) (fun c6 => ?_)
      · replace hj := gmJ_pos c6 hj
        refine gm_iconst hG d_x_isPacking_22 ?_
        exact hj
      · replace hj := gmJ_neg c6 hj
        refine gm_iconst hG d_x_isPacking_18 ?_
        refine gm_goto (tgt := 23) hG d_x_isPacking_19 (by decide) ?_
        exact hj
    exact gm_zret' hF h (gmZ_ite (fun c6 => (Or.inl rfl)) (fun c6 => (Or.inr rfl))) d_x_isPacking_23
def Fx_packingNumber (a0 : Int) (a1 : Int) (σ : St) : Option (Int × St) := gmG (gmR ((10 * a0) + a1)) (some (((10 * a0) + a1), σ))
set_option maxRecDepth 100000 in
set_option maxHeartbeats 4000000 in
theorem Wx_packingNumber {a0 : Int} {a1 : Int} {σ : St} {rv : Int} {rs : St} (ra0 : gmR a0) (ra1 : gmR a1) (h : Fx_packingNumber a0 a1 σ = some (rv, rs)) : Ctr gmY5_packingNumber prog_1_method_43_code 2 (some .int) 0 0 [.inl a0, .inl a1] σ (some rv) rs := by
  refine Ctr.ofI (own := "GarmentMarker") (by decide +kernel) rfl (Nat.le_of_ble_eq_true rfl) (fun φ hG hF => ?_)
  unfold Fx_packingNumber at h
  refine gm_lv (l2 := [(0, .inl a0), (1, .inl a1)]) rfl ?_
  refine gm_ok (fun hO => ?_)
  refine gm_bipush hG d_x_packingNumber_0 (by decide) ?_
  refine gm_iload_n hG 0 d_x_packingNumber_2 rfl rfl ?_
  refine gm_imul hG d_x_packingNumber_3 ?_
  refine gm_iload_n hG 1 d_x_packingNumber_4 rfl rfl ?_
  refine gm_iadd hG d_x_packingNumber_5 ?_
  obtain ⟨g1, h⟩ := gmG_of h
  exact gm_iret' hF h g1 d_x_packingNumber_6
def Fx_setPacking (a0 : Int) (a1 : Int) (σ : St) : Option (Int × St) := gmB (Fx_isPacking a0 a1 σ) (fun r2 s1 => if r2 = 0 then some ((-1005), s1) else gmB (Fx_packingNumber (s1 1 8) (s1 1 9) s1) (fun r5 s4 => gmL (gmUp s4 1 8 a0) (fun s6 => gmL (gmUp s6 1 9 a1) (fun s7 => some (r5, s7)))))
set_option maxRecDepth 100000 in
set_option maxHeartbeats 4000000 in
theorem Wx_setPacking {a0 : Int} {a1 : Int} {σ : St} {rv : Int} {rs : St} (ra0 : gmR a0) (ra1 : gmR a1) (h : Fx_setPacking a0 a1 σ = some (rv, rs)) : Ctr gmY5_setPacking prog_1_method_16_code 4 (some .int) 2 43 [.inr 0, .inl a0, .inl a1] σ (some rv) rs := by
  refine Ctr.ofI (own := "GarmentMarker") (by decide +kernel) rfl (Nat.le_of_ble_eq_true rfl) (fun φ hG hF => ?_)
  unfold Fx_setPacking at h
  refine gm_lv (l2 := [(0, .inr 0), (1, .inl a0), (2, .inl a1)]) rfl ?_
  refine gm_ok (fun hO => ?_)
  refine gm_iload_n hG 1 d_x_setPacking_0 rfl rfl ?_
  refine gm_iload_n hG 2 d_x_setPacking_1 rfl rfl ?_
  obtain ⟨r2, s1, es1, h⟩ := gmB_of h
  refine gm_callSi hG [.inl a0, .inl a1] [] gmM_5_128 (Wx_isPacking ra0 ra1 es1) rfl (by decide) (Nat.le_of_ble_eq_true rfl) rfl d_x_setPacking_2 (fun qr2 => ?_)
  refine gm_ok (fun hOs1 => ?_)
  refine gm_if_ne (tgt := 12) hG d_x_setPacking_5 (by decide) qr2 (fun c3 => ?_) (fun c3 => ?_)
  · replace h := gmI_neg c3 h
    refine gm_aload_n hG 0 d_x_setPacking_12 rfl rfl ?_
    refine gm_getR (t := 1) hG gmF_5_12 gmKc_0 rfl d_x_setPacking_13 ?_
    refine gm_getI hG gmF_5_132 gmKc_1 rfl d_x_setPacking_16 (fun _ => ?_)
    refine gm_aload_n hG 0 d_x_setPacking_19 rfl rfl ?_
    refine gm_getR (t := 1) hG gmF_5_12 gmKc_0 rfl d_x_setPacking_20 ?_
    refine gm_getI hG gmF_5_135 gmKc_1 rfl d_x_setPacking_23 (fun _ => ?_)
    obtain ⟨r5, s4, es4, h⟩ := gmB_of h
    refine gm_callSi hG [.inl (s1 1 8), .inl (s1 1 9)] [] gmM_5_138 (Wx_packingNumber (hOs1 1 8) (hOs1 1 9) es4) rfl (by decide) (Nat.le_of_ble_eq_true rfl) rfl d_x_setPacking_26 (fun qr5 => ?_)
    refine gm_ok (fun hOs4 => ?_)
    refine gm_istore_n (lv' := [(3, .inl r5), (0, .inr 0), (1, .inl a0), (2, .inl a1)]) hG d_x_setPacking_29 rfl (by decide) rfl ?_
    refine gm_aload_n hG 1 d_x_setPacking_30 rfl rfl ?_
    refine gm_getR (t := 1) hG gmF_5_12 gmKc_0 rfl d_x_setPacking_31 ?_
    refine gm_iload_n hG 2 d_x_setPacking_34 rfl rfl ?_
    obtain ⟨s6, es6, h⟩ := gmL_of h
    refine gm_putI hG gmF_5_132 gmKc_1 rfl rfl (by decide +kernel) ra0 es6 d_x_setPacking_35 ?_
    refine gm_ok (fun hOs6 => ?_)
    refine gm_aload_n hG 1 d_x_setPacking_38 rfl rfl ?_
    refine gm_getR (t := 1) hG gmF_5_12 gmKc_0 rfl d_x_setPacking_39 ?_
    refine gm_iload_n hG 3 d_x_setPacking_42 rfl rfl ?_
    obtain ⟨s7, es7, h⟩ := gmL_of h
    refine gm_putI hG gmF_5_135 gmKc_1 rfl rfl (by decide +kernel) ra1 es7 d_x_setPacking_43 ?_
    refine gm_ok (fun hOs7 => ?_)
    refine gm_iload_n hG 0 d_x_setPacking_46 rfl rfl ?_
    exact gm_iret' hF h qr5 d_x_setPacking_47
  · replace h := gmI_pos c3 h
    refine gm_sipush hG d_x_setPacking_8 (by decide) ?_
    exact gm_iret' hF h (by decide) d_x_setPacking_11
def Fx_partCount (σ : St) : Option (Int × St) := gmBv (Fk_makeParts 16 σ) (fun s1 => some ((s1 54 1), s1))
set_option maxRecDepth 100000 in
set_option maxHeartbeats 4000000 in
theorem Wx_partCount {σ : St} {rv : Int} {rs : St} (h : Fx_partCount σ = some (rv, rs)) : Ctr gmY5_partCount prog_1_method_17_code 1 (some .int) 4 99 [.inr 0] σ (some rv) rs := by
  refine Ctr.ofI (own := "GarmentMarker") (by decide +kernel) rfl (Nat.le_of_ble_eq_true rfl) (fun φ hG hF => ?_)
  unfold Fx_partCount at h
  refine gm_lv (l2 := [(0, .inr 0)]) rfl ?_
  refine gm_ok (fun hO => ?_)
  refine gm_aload_n hG 0 d_x_partCount_0 rfl rfl ?_
  refine gm_getR (t := 54) hG gmF_5_27 gmKc_0 rfl d_x_partCount_1 ?_
  refine gm_aload_n hG 0 d_x_partCount_4 rfl rfl ?_
  refine gm_getR (t := 1) hG gmF_5_12 gmKc_0 rfl d_x_partCount_5 ?_
  refine gm_aload_n hG 0 d_x_partCount_8 rfl rfl ?_
  refine gm_getR (t := 1) hG gmF_5_12 gmKc_0 rfl d_x_partCount_9 ?_
  refine gm_getR (t := 16) hG gmF_5_116 gmKc_1 rfl d_x_partCount_12 ?_
  obtain ⟨s1, es1, h⟩ := gmBv_of h
  refine gm_callVv hG [.inr 1, .inr 16] [] gmM_5_142 (Wk_makeParts gmKc_16 es1) gmKc_54 rfl (by decide) (Nat.le_of_ble_eq_true rfl) rfl d_x_partCount_15 ?_
  refine gm_ok (fun hOs1 => ?_)
  refine gm_aload_n hG 0 d_x_partCount_18 rfl rfl ?_
  refine gm_getR (t := 54) hG gmF_5_27 gmKc_0 rfl d_x_partCount_19 ?_
  refine gm_getI hG gmF_5_146 gmKc_54 rfl d_x_partCount_22 (fun _ => ?_)
  exact gm_iret' hF h (hOs1 54 1) d_x_partCount_25
def Fx_foldPartCount (σ : St) : Option (Int × St) := gmBv (Fk_makeParts 16 σ) (fun s1 => gmB (Fk_foldParts s1) (fun r3 s2 => some (r3, s2)))
set_option maxRecDepth 100000 in
set_option maxHeartbeats 4000000 in
theorem Wx_foldPartCount {σ : St} {rv : Int} {rs : St} (h : Fx_foldPartCount σ = some (rv, rs)) : Ctr gmY5_foldPartCount prog_1_method_18_code 1 (some .int) 4 99 [.inr 0] σ (some rv) rs := by
  refine Ctr.ofI (own := "GarmentMarker") (by decide +kernel) rfl (Nat.le_of_ble_eq_true rfl) (fun φ hG hF => ?_)
  unfold Fx_foldPartCount at h
  refine gm_lv (l2 := [(0, .inr 0)]) rfl ?_
  refine gm_ok (fun hO => ?_)
  refine gm_aload_n hG 0 d_x_foldPartCount_0 rfl rfl ?_
  refine gm_getR (t := 54) hG gmF_5_27 gmKc_0 rfl d_x_foldPartCount_1 ?_
  refine gm_aload_n hG 0 d_x_foldPartCount_4 rfl rfl ?_
  refine gm_getR (t := 1) hG gmF_5_12 gmKc_0 rfl d_x_foldPartCount_5 ?_
  refine gm_aload_n hG 0 d_x_foldPartCount_8 rfl rfl ?_
  refine gm_getR (t := 1) hG gmF_5_12 gmKc_0 rfl d_x_foldPartCount_9 ?_
  refine gm_getR (t := 16) hG gmF_5_116 gmKc_1 rfl d_x_foldPartCount_12 ?_
  obtain ⟨s1, es1, h⟩ := gmBv_of h
  refine gm_callVv hG [.inr 1, .inr 16] [] gmM_5_142 (Wk_makeParts gmKc_16 es1) gmKc_54 rfl (by decide) (Nat.le_of_ble_eq_true rfl) rfl d_x_foldPartCount_15 ?_
  refine gm_ok (fun hOs1 => ?_)
  refine gm_aload_n hG 0 d_x_foldPartCount_18 rfl rfl ?_
  refine gm_getR (t := 54) hG gmF_5_27 gmKc_0 rfl d_x_foldPartCount_19 ?_
  obtain ⟨r3, s2, es2, h⟩ := gmB_of h
  refine gm_callVi hG [] [] gmM_5_149 (Wk_foldParts es2) gmKc_54 rfl (by decide) (Nat.le_of_ble_eq_true rfl) rfl d_x_foldPartCount_22 (fun qr3 => ?_)
  refine gm_ok (fun hOs2 => ?_)
  exact gm_iret' hF h qr3 d_x_foldPartCount_25
def Fx_partSize (a0 : Int) (σ : St) : Option (Int × St) := gmBv (Fk_makeParts 16 σ) (fun s1 => gmB (Fk_has a0 s1) (fun r3 s2 => gmG ((¬ r3 = 0) → 0 ≤ a0 ∧ a0 < 72) (some ((if r3 = 0 then (-1004) else (s2 (gmTg 55 (a0).toNat) 0)), s2))))
set_option maxRecDepth 100000 in
set_option maxHeartbeats 4000000 in
theorem Wx_partSize {a0 : Int} {σ : St} {rv : Int} {rs : St} (ra0 : gmR a0) (h : Fx_partSize a0 σ = some (rv, rs)) : Ctr gmY5_partSize prog_1_method_19_code 2 (some .int) 4 99 [.inr 0, .inl a0] σ (some rv) rs := by
  refine Ctr.ofI (own := "GarmentMarker") (by decide +kernel) rfl (Nat.le_of_ble_eq_true rfl) (fun φ hG hF => ?_)
  unfold Fx_partSize at h
  refine gm_lv (l2 := [(0, .inr 0), (1, .inl a0)]) rfl ?_
  refine gm_ok (fun hO => ?_)
  refine gm_aload_n hG 0 d_x_partSize_0 rfl rfl ?_
  refine gm_getR (t := 54) hG gmF_5_27 gmKc_0 rfl d_x_partSize_1 ?_
  refine gm_aload_n hG 0 d_x_partSize_4 rfl rfl ?_
  refine gm_getR (t := 1) hG gmF_5_12 gmKc_0 rfl d_x_partSize_5 ?_
  refine gm_aload_n hG 0 d_x_partSize_8 rfl rfl ?_
  refine gm_getR (t := 1) hG gmF_5_12 gmKc_0 rfl d_x_partSize_9 ?_
  refine gm_getR (t := 16) hG gmF_5_116 gmKc_1 rfl d_x_partSize_12 ?_
  obtain ⟨s1, es1, h⟩ := gmBv_of h
  refine gm_callVv hG [.inr 1, .inr 16] [] gmM_5_142 (Wk_makeParts gmKc_16 es1) gmKc_54 rfl (by decide) (Nat.le_of_ble_eq_true rfl) rfl d_x_partSize_15 ?_
  refine gm_ok (fun hOs1 => ?_)
  refine gm_aload_n hG 0 d_x_partSize_18 rfl rfl ?_
  refine gm_getR (t := 54) hG gmF_5_27 gmKc_0 rfl d_x_partSize_19 ?_
  refine gm_iload_n hG 1 d_x_partSize_22 rfl rfl ?_
  obtain ⟨r3, s2, es2, h⟩ := gmB_of h
  refine gm_callVi hG [.inl a0] [] gmM_5_152 (Wk_has ra0 es2) gmKc_54 rfl (by decide) (Nat.le_of_ble_eq_true rfl) rfl d_x_partSize_23 (fun qr3 => ?_)
  refine gm_ok (fun hOs2 => ?_)
  obtain ⟨g5, h⟩ := gmG_of h
  suffices hj : J φ s2 47 [(0, .inr 0), (1, .inl a0)] [.inl (if r3 = 0 then (-1004) else (s2 (gmTg 55 (a0).toNat) 0))] by
    refine gm_if_eq (tgt := 44) hG d_x_partSize_26 (by decide) qr3 (fun c4 => ?_) (fun c4 => ?_)
    · replace hj := gmJ_pos c4 hj
      refine gm_sipush hG d_x_partSize_44 (by decide) ?_
      exact hj
    · replace hj := gmJ_neg c4 hj
      refine gm_aload_n hG 0 d_x_partSize_29 rfl rfl ?_
      refine gm_getR (t := 54) hG gmF_5_27 gmKc_0 rfl d_x_partSize_30 ?_
      refine gm_getR (t := 55) hG gmF_5_155 gmKc_54 rfl d_x_partSize_33 ?_
      refine gm_iload_n hG 1 d_x_partSize_36 rfl rfl ?_
      refine gm_aald (t := (a0).toNat) hG 5 gmKc_55 (by decide) (by decide) rfl gmLc_55 (g5 c4) rfl d_x_partSize_37 ?_
      refine gm_getI hG gmF_5_159 (gmKtA (k := 55) (i := a0) gmKc_55 (by rw [gmLc_55]; exact (g5 c4))) (gmFrN 0 (Or.inl (gmKtA (k := 55) (i := a0) gmKc_55 (by rw [gmLc_55]; exact (g5 c4))))) d_x_partSize_38 (fun _ => ?_)
      refine gm_goto (tgt := 47) hG d_x_partSize_41 (by decide) ?_
      exact hj
  exact gm_iret' hF h (gmR_ite (fun c4 => (by decide)) (fun c4 => (hOs2 (gmTg 55 (a0).toNat) 0))) d_x_partSize_47
def Fx_partPiece (a0 : Int) (σ : St) : Option (Int × St) := gmBv (Fk_makeParts 16 σ) (fun s1 => gmB (Fk_has a0 s1) (fun r3 s2 => gmG ((¬ r3 = 0) → 0 ≤ a0 ∧ a0 < 72) (some ((if r3 = 0 then (-1004) else (s2 (gmTg 55 (a0).toNat) 1)), s2))))
set_option maxRecDepth 100000 in
set_option maxHeartbeats 4000000 in
theorem Wx_partPiece {a0 : Int} {σ : St} {rv : Int} {rs : St} (ra0 : gmR a0) (h : Fx_partPiece a0 σ = some (rv, rs)) : Ctr gmY5_partPiece prog_1_method_20_code 2 (some .int) 4 99 [.inr 0, .inl a0] σ (some rv) rs := by
  refine Ctr.ofI (own := "GarmentMarker") (by decide +kernel) rfl (Nat.le_of_ble_eq_true rfl) (fun φ hG hF => ?_)
  unfold Fx_partPiece at h
  refine gm_lv (l2 := [(0, .inr 0), (1, .inl a0)]) rfl ?_
  refine gm_ok (fun hO => ?_)
  refine gm_aload_n hG 0 d_x_partPiece_0 rfl rfl ?_
  refine gm_getR (t := 54) hG gmF_5_27 gmKc_0 rfl d_x_partPiece_1 ?_
  refine gm_aload_n hG 0 d_x_partPiece_4 rfl rfl ?_
  refine gm_getR (t := 1) hG gmF_5_12 gmKc_0 rfl d_x_partPiece_5 ?_
  refine gm_aload_n hG 0 d_x_partPiece_8 rfl rfl ?_
  refine gm_getR (t := 1) hG gmF_5_12 gmKc_0 rfl d_x_partPiece_9 ?_
  refine gm_getR (t := 16) hG gmF_5_116 gmKc_1 rfl d_x_partPiece_12 ?_
  obtain ⟨s1, es1, h⟩ := gmBv_of h
  refine gm_callVv hG [.inr 1, .inr 16] [] gmM_5_142 (Wk_makeParts gmKc_16 es1) gmKc_54 rfl (by decide) (Nat.le_of_ble_eq_true rfl) rfl d_x_partPiece_15 ?_
  refine gm_ok (fun hOs1 => ?_)
  refine gm_aload_n hG 0 d_x_partPiece_18 rfl rfl ?_
  refine gm_getR (t := 54) hG gmF_5_27 gmKc_0 rfl d_x_partPiece_19 ?_
  refine gm_iload_n hG 1 d_x_partPiece_22 rfl rfl ?_
  obtain ⟨r3, s2, es2, h⟩ := gmB_of h
  refine gm_callVi hG [.inl a0] [] gmM_5_152 (Wk_has ra0 es2) gmKc_54 rfl (by decide) (Nat.le_of_ble_eq_true rfl) rfl d_x_partPiece_23 (fun qr3 => ?_)
  refine gm_ok (fun hOs2 => ?_)
  obtain ⟨g5, h⟩ := gmG_of h
  suffices hj : J φ s2 47 [(0, .inr 0), (1, .inl a0)] [.inl (if r3 = 0 then (-1004) else (s2 (gmTg 55 (a0).toNat) 1))] by
    refine gm_if_eq (tgt := 44) hG d_x_partPiece_26 (by decide) qr3 (fun c4 => ?_) (fun c4 => ?_)
    · replace hj := gmJ_pos c4 hj
      refine gm_sipush hG d_x_partPiece_44 (by decide) ?_
      exact hj
    · replace hj := gmJ_neg c4 hj
      refine gm_aload_n hG 0 d_x_partPiece_29 rfl rfl ?_
      refine gm_getR (t := 54) hG gmF_5_27 gmKc_0 rfl d_x_partPiece_30 ?_
      refine gm_getR (t := 55) hG gmF_5_155 gmKc_54 rfl d_x_partPiece_33 ?_
      refine gm_iload_n hG 1 d_x_partPiece_36 rfl rfl ?_
      refine gm_aald (t := (a0).toNat) hG 5 gmKc_55 (by decide) (by decide) rfl gmLc_55 (g5 c4) rfl d_x_partPiece_37 ?_
      refine gm_getI hG gmF_5_164 (gmKtA (k := 55) (i := a0) gmKc_55 (by rw [gmLc_55]; exact (g5 c4))) (gmFrN 1 (Or.inl (gmKtA (k := 55) (i := a0) gmKc_55 (by rw [gmLc_55]; exact (g5 c4))))) d_x_partPiece_38 (fun _ => ?_)
      refine gm_goto (tgt := 47) hG d_x_partPiece_41 (by decide) ?_
      exact hj
  exact gm_iret' hF h (gmR_ite (fun c4 => (by decide)) (fun c4 => (hOs2 (gmTg 55 (a0).toNat) 1))) d_x_partPiece_47
def Fx_placeOrError (a0 : Int) (σ : St) : Option (Int × St) := gmBv (Fk_makeParts 16 σ) (fun s1 => gmB (Fk_has a0 s1) (fun r3 s2 => if r3 = 0 then some ((-1004), s2) else gmB (Fk_lengthPacked (s2 1 8) (s2 1 9) s2) (fun r6 s5 => some ((if r6 = (-1007) then (-1007) else 0), s5))))
set_option maxRecDepth 100000 in
set_option maxHeartbeats 4000000 in
theorem Wx_placeOrError {a0 : Int} {σ : St} {rv : Int} {rs : St} (ra0 : gmR a0) (h : Fx_placeOrError a0 σ = some (rv, rs)) : Ctr gmY5_placeOrError prog_1_method_45_code 2 (some .int) 4 99 [.inr 0, .inl a0] σ (some rv) rs := by
  refine Ctr.ofI (own := "GarmentMarker") (by decide +kernel) rfl (Nat.le_of_ble_eq_true rfl) (fun φ hG hF => ?_)
  unfold Fx_placeOrError at h
  refine gm_lv (l2 := [(0, .inr 0), (1, .inl a0)]) rfl ?_
  refine gm_ok (fun hO => ?_)
  refine gm_aload_n hG 0 d_x_placeOrError_0 rfl rfl ?_
  refine gm_getR (t := 54) hG gmF_5_27 gmKc_0 rfl d_x_placeOrError_1 ?_
  refine gm_aload_n hG 0 d_x_placeOrError_4 rfl rfl ?_
  refine gm_getR (t := 1) hG gmF_5_12 gmKc_0 rfl d_x_placeOrError_5 ?_
  refine gm_aload_n hG 0 d_x_placeOrError_8 rfl rfl ?_
  refine gm_getR (t := 1) hG gmF_5_12 gmKc_0 rfl d_x_placeOrError_9 ?_
  refine gm_getR (t := 16) hG gmF_5_116 gmKc_1 rfl d_x_placeOrError_12 ?_
  obtain ⟨s1, es1, h⟩ := gmBv_of h
  refine gm_callVv hG [.inr 1, .inr 16] [] gmM_5_142 (Wk_makeParts gmKc_16 es1) gmKc_54 rfl (by decide) (Nat.le_of_ble_eq_true rfl) rfl d_x_placeOrError_15 ?_
  refine gm_ok (fun hOs1 => ?_)
  refine gm_aload_n hG 0 d_x_placeOrError_18 rfl rfl ?_
  refine gm_getR (t := 54) hG gmF_5_27 gmKc_0 rfl d_x_placeOrError_19 ?_
  refine gm_iload_n hG 1 d_x_placeOrError_22 rfl rfl ?_
  obtain ⟨r3, s2, es2, h⟩ := gmB_of h
  refine gm_callVi hG [.inl a0] [] gmM_5_152 (Wk_has ra0 es2) gmKc_54 rfl (by decide) (Nat.le_of_ble_eq_true rfl) rfl d_x_placeOrError_23 (fun qr3 => ?_)
  refine gm_ok (fun hOs2 => ?_)
  refine gm_if_ne (tgt := 33) hG d_x_placeOrError_26 (by decide) qr3 (fun c4 => ?_) (fun c4 => ?_)
  · replace h := gmI_neg c4 h
    refine gm_aload_n hG 0 d_x_placeOrError_33 rfl rfl ?_
    refine gm_getR (t := 54) hG gmF_5_27 gmKc_0 rfl d_x_placeOrError_34 ?_
    refine gm_aload_n hG 0 d_x_placeOrError_37 rfl rfl ?_
    refine gm_getR (t := 1) hG gmF_5_12 gmKc_0 rfl d_x_placeOrError_38 ?_
    refine gm_getI hG gmF_5_132 gmKc_1 rfl d_x_placeOrError_41 (fun _ => ?_)
    refine gm_aload_n hG 0 d_x_placeOrError_44 rfl rfl ?_
    refine gm_getR (t := 1) hG gmF_5_12 gmKc_0 rfl d_x_placeOrError_45 ?_
    refine gm_getI hG gmF_5_135 gmKc_1 rfl d_x_placeOrError_48 (fun _ => ?_)
    obtain ⟨r6, s5, es5, h⟩ := gmB_of h
    refine gm_callVi hG [.inl (s2 1 8), .inl (s2 1 9)] [] gmM_5_193 (Wk_lengthPacked (hOs2 1 8) (hOs2 1 9) es5) gmKc_54 rfl (by decide) (Nat.le_of_ble_eq_true rfl) rfl d_x_placeOrError_51 (fun qr6 => ?_)
    refine gm_ok (fun hOs5 => ?_)
    refine gm_sipush hG d_x_placeOrError_54 (by decide) ?_
    suffices hj : J φ s5 67 [(0, .inr 0), (1, .inl a0)] [.inl (if r6 = (-1007) then (-1007) else 0)] by
      refine gm_icmp_ne (tgt := 66) hG d_x_placeOrError_57 (by decide) qr6 (by decide) (fun c7 => ?_) (fun c7 => ?_)
      · replace hj := gmJ_neg c7 hj
        refine gm_iconst hG d_x_placeOrError_66 ?_
        exact hj
      · replace hj := gmJ_pos c7 hj
        refine gm_sipush hG d_x_placeOrError_60 (by decide) ?_
        refine gm_goto (tgt := 67) hG d_x_placeOrError_63 (by decide) ?_
        exact hj
    exact gm_iret' hF h (gmR_ite (fun c7 => (by decide)) (fun c7 => (by decide))) d_x_placeOrError_67
  · replace h := gmI_pos c4 h
    refine gm_sipush hG d_x_placeOrError_29 (by decide) ?_
    exact gm_iret' hF h (by decide) d_x_placeOrError_32
def Fx_partAlong (a0 : Int) (σ : St) : Option (Int × St) := gmB (Fx_placeOrError a0 σ) (fun r2 s1 => gmG ((r2 = 0) → 0 ≤ a0 ∧ a0 < 72) (some ((if r2 = 0 then (s1 (gmTg 55 (a0).toNat) 5) else r2), s1)))
set_option maxRecDepth 100000 in
set_option maxHeartbeats 4000000 in
theorem Wx_partAlong {a0 : Int} {σ : St} {rv : Int} {rs : St} (ra0 : gmR a0) (h : Fx_partAlong a0 σ = some (rv, rs)) : Ctr gmY5_partAlong prog_1_method_21_code 3 (some .int) 5 120 [.inr 0, .inl a0] σ (some rv) rs := by
  refine Ctr.ofI (own := "GarmentMarker") (by decide +kernel) rfl (Nat.le_of_ble_eq_true rfl) (fun φ hG hF => ?_)
  unfold Fx_partAlong at h
  refine gm_lv (l2 := [(0, .inr 0), (1, .inl a0)]) rfl ?_
  refine gm_ok (fun hO => ?_)
  refine gm_aload_n hG 0 d_x_partAlong_0 rfl rfl ?_
  refine gm_iload_n hG 1 d_x_partAlong_1 rfl rfl ?_
  obtain ⟨r2, s1, es1, h⟩ := gmB_of h
  refine gm_callVi hG [.inl a0] [] gmM_5_167 (Wx_placeOrError ra0 es1) gmKc_0 rfl (by decide) (Nat.le_of_ble_eq_true rfl) rfl d_x_partAlong_2 (fun qr2 => ?_)
  refine gm_ok (fun hOs1 => ?_)
  refine gm_istore_n (lv' := [(2, .inl r2), (0, .inr 0), (1, .inl a0)]) hG d_x_partAlong_5 rfl (by decide) rfl ?_
  refine gm_iload_n hG 0 d_x_partAlong_6 rfl rfl ?_
  obtain ⟨g4, h⟩ := gmG_of h
  suffices hj : J φ s1 26 [(2, .inl r2), (0, .inr 0), (1, .inl a0)] [.inl (if r2 = 0 then (s1 (gmTg 55 (a0).toNat) 5) else r2)] by
    refine gm_if_ne (tgt := 25) hG d_x_partAlong_7 (by decide) qr2 (fun c3 => ?_) (fun c3 => ?_)
    · replace hj := gmJ_neg c3 hj
      refine gm_iload_n hG 0 d_x_partAlong_25 rfl rfl ?_
      exact hj
    · replace hj := gmJ_pos c3 hj
      refine gm_aload_n hG 1 d_x_partAlong_10 rfl rfl ?_
      refine gm_getR (t := 54) hG gmF_5_27 gmKc_0 rfl d_x_partAlong_11 ?_
      refine gm_getR (t := 55) hG gmF_5_155 gmKc_54 rfl d_x_partAlong_14 ?_
      refine gm_iload_n hG 2 d_x_partAlong_17 rfl rfl ?_
      refine gm_aald (t := (a0).toNat) hG 5 gmKc_55 (by decide) (by decide) rfl gmLc_55 (g4 c3) rfl d_x_partAlong_18 ?_
      refine gm_getI hG gmF_5_171 (gmKtA (k := 55) (i := a0) gmKc_55 (by rw [gmLc_55]; exact (g4 c3))) (gmFrN 5 (Or.inl (gmKtA (k := 55) (i := a0) gmKc_55 (by rw [gmLc_55]; exact (g4 c3))))) d_x_partAlong_19 (fun _ => ?_)
      refine gm_goto (tgt := 26) hG d_x_partAlong_22 (by decide) ?_
      exact hj
  exact gm_iret' hF h (gmR_ite (fun c3 => (hOs1 (gmTg 55 (a0).toNat) 5)) (fun c3 => qr2)) d_x_partAlong_26
def Fx_partAcross (a0 : Int) (σ : St) : Option (Int × St) := gmB (Fx_placeOrError a0 σ) (fun r2 s1 => gmG ((r2 = 0) → 0 ≤ a0 ∧ a0 < 72) (some ((if r2 = 0 then (s1 (gmTg 55 (a0).toNat) 6) else r2), s1)))
set_option maxRecDepth 100000 in
set_option maxHeartbeats 4000000 in
theorem Wx_partAcross {a0 : Int} {σ : St} {rv : Int} {rs : St} (ra0 : gmR a0) (h : Fx_partAcross a0 σ = some (rv, rs)) : Ctr gmY5_partAcross prog_1_method_22_code 3 (some .int) 5 120 [.inr 0, .inl a0] σ (some rv) rs := by
  refine Ctr.ofI (own := "GarmentMarker") (by decide +kernel) rfl (Nat.le_of_ble_eq_true rfl) (fun φ hG hF => ?_)
  unfold Fx_partAcross at h
  refine gm_lv (l2 := [(0, .inr 0), (1, .inl a0)]) rfl ?_
  refine gm_ok (fun hO => ?_)
  refine gm_aload_n hG 0 d_x_partAcross_0 rfl rfl ?_
  refine gm_iload_n hG 1 d_x_partAcross_1 rfl rfl ?_
  obtain ⟨r2, s1, es1, h⟩ := gmB_of h
  refine gm_callVi hG [.inl a0] [] gmM_5_167 (Wx_placeOrError ra0 es1) gmKc_0 rfl (by decide) (Nat.le_of_ble_eq_true rfl) rfl d_x_partAcross_2 (fun qr2 => ?_)
  refine gm_ok (fun hOs1 => ?_)
  refine gm_istore_n (lv' := [(2, .inl r2), (0, .inr 0), (1, .inl a0)]) hG d_x_partAcross_5 rfl (by decide) rfl ?_
  refine gm_iload_n hG 0 d_x_partAcross_6 rfl rfl ?_
  obtain ⟨g4, h⟩ := gmG_of h
  suffices hj : J φ s1 26 [(2, .inl r2), (0, .inr 0), (1, .inl a0)] [.inl (if r2 = 0 then (s1 (gmTg 55 (a0).toNat) 6) else r2)] by
    refine gm_if_ne (tgt := 25) hG d_x_partAcross_7 (by decide) qr2 (fun c3 => ?_) (fun c3 => ?_)
    · replace hj := gmJ_neg c3 hj
      refine gm_iload_n hG 0 d_x_partAcross_25 rfl rfl ?_
      exact hj
    · replace hj := gmJ_pos c3 hj
      refine gm_aload_n hG 1 d_x_partAcross_10 rfl rfl ?_
      refine gm_getR (t := 54) hG gmF_5_27 gmKc_0 rfl d_x_partAcross_11 ?_
      refine gm_getR (t := 55) hG gmF_5_155 gmKc_54 rfl d_x_partAcross_14 ?_
      refine gm_iload_n hG 2 d_x_partAcross_17 rfl rfl ?_
      refine gm_aald (t := (a0).toNat) hG 5 gmKc_55 (by decide) (by decide) rfl gmLc_55 (g4 c3) rfl d_x_partAcross_18 ?_
      refine gm_getI hG gmF_5_174 (gmKtA (k := 55) (i := a0) gmKc_55 (by rw [gmLc_55]; exact (g4 c3))) (gmFrN 6 (Or.inl (gmKtA (k := 55) (i := a0) gmKc_55 (by rw [gmLc_55]; exact (g4 c3))))) d_x_partAcross_19 (fun _ => ?_)
      refine gm_goto (tgt := 26) hG d_x_partAcross_22 (by decide) ?_
      exact hj
  exact gm_iret' hF h (gmR_ite (fun c3 => (hOs1 (gmTg 55 (a0).toNat) 6)) (fun c3 => qr2)) d_x_partAcross_26
def Fx_partAlongExtent (a0 : Int) (σ : St) : Option (Int × St) := gmBv (Fk_makeParts 16 σ) (fun s1 => gmB (Fk_has a0 s1) (fun r3 s2 => gmG ((¬ r3 = 0) → 0 ≤ a0 ∧ a0 < 72) (some ((if r3 = 0 then (-1004) else (s2 (gmTg 55 (a0).toNat) 3)), s2))))
set_option maxRecDepth 100000 in
set_option maxHeartbeats 4000000 in
theorem Wx_partAlongExtent {a0 : Int} {σ : St} {rv : Int} {rs : St} (ra0 : gmR a0) (h : Fx_partAlongExtent a0 σ = some (rv, rs)) : Ctr gmY5_partAlongExtent prog_1_method_23_code 2 (some .int) 4 99 [.inr 0, .inl a0] σ (some rv) rs := by
  refine Ctr.ofI (own := "GarmentMarker") (by decide +kernel) rfl (Nat.le_of_ble_eq_true rfl) (fun φ hG hF => ?_)
  unfold Fx_partAlongExtent at h
  refine gm_lv (l2 := [(0, .inr 0), (1, .inl a0)]) rfl ?_
  refine gm_ok (fun hO => ?_)
  refine gm_aload_n hG 0 d_x_partAlongExtent_0 rfl rfl ?_
  refine gm_getR (t := 54) hG gmF_5_27 gmKc_0 rfl d_x_partAlongExtent_1 ?_
  refine gm_aload_n hG 0 d_x_partAlongExtent_4 rfl rfl ?_
  refine gm_getR (t := 1) hG gmF_5_12 gmKc_0 rfl d_x_partAlongExtent_5 ?_
  refine gm_aload_n hG 0 d_x_partAlongExtent_8 rfl rfl ?_
  refine gm_getR (t := 1) hG gmF_5_12 gmKc_0 rfl d_x_partAlongExtent_9 ?_
  refine gm_getR (t := 16) hG gmF_5_116 gmKc_1 rfl d_x_partAlongExtent_12 ?_
  obtain ⟨s1, es1, h⟩ := gmBv_of h
  refine gm_callVv hG [.inr 1, .inr 16] [] gmM_5_142 (Wk_makeParts gmKc_16 es1) gmKc_54 rfl (by decide) (Nat.le_of_ble_eq_true rfl) rfl d_x_partAlongExtent_15 ?_
  refine gm_ok (fun hOs1 => ?_)
  refine gm_aload_n hG 0 d_x_partAlongExtent_18 rfl rfl ?_
  refine gm_getR (t := 54) hG gmF_5_27 gmKc_0 rfl d_x_partAlongExtent_19 ?_
  refine gm_iload_n hG 1 d_x_partAlongExtent_22 rfl rfl ?_
  obtain ⟨r3, s2, es2, h⟩ := gmB_of h
  refine gm_callVi hG [.inl a0] [] gmM_5_152 (Wk_has ra0 es2) gmKc_54 rfl (by decide) (Nat.le_of_ble_eq_true rfl) rfl d_x_partAlongExtent_23 (fun qr3 => ?_)
  refine gm_ok (fun hOs2 => ?_)
  obtain ⟨g5, h⟩ := gmG_of h
  suffices hj : J φ s2 47 [(0, .inr 0), (1, .inl a0)] [.inl (if r3 = 0 then (-1004) else (s2 (gmTg 55 (a0).toNat) 3))] by
    refine gm_if_eq (tgt := 44) hG d_x_partAlongExtent_26 (by decide) qr3 (fun c4 => ?_) (fun c4 => ?_)
    · replace hj := gmJ_pos c4 hj
      refine gm_sipush hG d_x_partAlongExtent_44 (by decide) ?_
      exact hj
    · replace hj := gmJ_neg c4 hj
      refine gm_aload_n hG 0 d_x_partAlongExtent_29 rfl rfl ?_
      refine gm_getR (t := 54) hG gmF_5_27 gmKc_0 rfl d_x_partAlongExtent_30 ?_
      refine gm_getR (t := 55) hG gmF_5_155 gmKc_54 rfl d_x_partAlongExtent_33 ?_
      refine gm_iload_n hG 1 d_x_partAlongExtent_36 rfl rfl ?_
      refine gm_aald (t := (a0).toNat) hG 5 gmKc_55 (by decide) (by decide) rfl gmLc_55 (g5 c4) rfl d_x_partAlongExtent_37 ?_
      refine gm_getI hG gmF_5_177 (gmKtA (k := 55) (i := a0) gmKc_55 (by rw [gmLc_55]; exact (g5 c4))) (gmFrN 3 (Or.inl (gmKtA (k := 55) (i := a0) gmKc_55 (by rw [gmLc_55]; exact (g5 c4))))) d_x_partAlongExtent_38 (fun _ => ?_)
      refine gm_goto (tgt := 47) hG d_x_partAlongExtent_41 (by decide) ?_
      exact hj
  exact gm_iret' hF h (gmR_ite (fun c4 => (by decide)) (fun c4 => (hOs2 (gmTg 55 (a0).toNat) 3))) d_x_partAlongExtent_47
def Fx_partAcrossExtent (a0 : Int) (σ : St) : Option (Int × St) := gmBv (Fk_makeParts 16 σ) (fun s1 => gmB (Fk_has a0 s1) (fun r3 s2 => gmG ((¬ r3 = 0) → 0 ≤ a0 ∧ a0 < 72) (some ((if r3 = 0 then (-1004) else (s2 (gmTg 55 (a0).toNat) 4)), s2))))
set_option maxRecDepth 100000 in
set_option maxHeartbeats 4000000 in
theorem Wx_partAcrossExtent {a0 : Int} {σ : St} {rv : Int} {rs : St} (ra0 : gmR a0) (h : Fx_partAcrossExtent a0 σ = some (rv, rs)) : Ctr gmY5_partAcrossExtent prog_1_method_24_code 2 (some .int) 4 99 [.inr 0, .inl a0] σ (some rv) rs := by
  refine Ctr.ofI (own := "GarmentMarker") (by decide +kernel) rfl (Nat.le_of_ble_eq_true rfl) (fun φ hG hF => ?_)
  unfold Fx_partAcrossExtent at h
  refine gm_lv (l2 := [(0, .inr 0), (1, .inl a0)]) rfl ?_
  refine gm_ok (fun hO => ?_)
  refine gm_aload_n hG 0 d_x_partAcrossExtent_0 rfl rfl ?_
  refine gm_getR (t := 54) hG gmF_5_27 gmKc_0 rfl d_x_partAcrossExtent_1 ?_
  refine gm_aload_n hG 0 d_x_partAcrossExtent_4 rfl rfl ?_
  refine gm_getR (t := 1) hG gmF_5_12 gmKc_0 rfl d_x_partAcrossExtent_5 ?_
  refine gm_aload_n hG 0 d_x_partAcrossExtent_8 rfl rfl ?_
  refine gm_getR (t := 1) hG gmF_5_12 gmKc_0 rfl d_x_partAcrossExtent_9 ?_
  refine gm_getR (t := 16) hG gmF_5_116 gmKc_1 rfl d_x_partAcrossExtent_12 ?_
  obtain ⟨s1, es1, h⟩ := gmBv_of h
  refine gm_callVv hG [.inr 1, .inr 16] [] gmM_5_142 (Wk_makeParts gmKc_16 es1) gmKc_54 rfl (by decide) (Nat.le_of_ble_eq_true rfl) rfl d_x_partAcrossExtent_15 ?_
  refine gm_ok (fun hOs1 => ?_)
  refine gm_aload_n hG 0 d_x_partAcrossExtent_18 rfl rfl ?_
  refine gm_getR (t := 54) hG gmF_5_27 gmKc_0 rfl d_x_partAcrossExtent_19 ?_
  refine gm_iload_n hG 1 d_x_partAcrossExtent_22 rfl rfl ?_
  obtain ⟨r3, s2, es2, h⟩ := gmB_of h
  refine gm_callVi hG [.inl a0] [] gmM_5_152 (Wk_has ra0 es2) gmKc_54 rfl (by decide) (Nat.le_of_ble_eq_true rfl) rfl d_x_partAcrossExtent_23 (fun qr3 => ?_)
  refine gm_ok (fun hOs2 => ?_)
  obtain ⟨g5, h⟩ := gmG_of h
  suffices hj : J φ s2 47 [(0, .inr 0), (1, .inl a0)] [.inl (if r3 = 0 then (-1004) else (s2 (gmTg 55 (a0).toNat) 4))] by
    refine gm_if_eq (tgt := 44) hG d_x_partAcrossExtent_26 (by decide) qr3 (fun c4 => ?_) (fun c4 => ?_)
    · replace hj := gmJ_pos c4 hj
      refine gm_sipush hG d_x_partAcrossExtent_44 (by decide) ?_
      exact hj
    · replace hj := gmJ_neg c4 hj
      refine gm_aload_n hG 0 d_x_partAcrossExtent_29 rfl rfl ?_
      refine gm_getR (t := 54) hG gmF_5_27 gmKc_0 rfl d_x_partAcrossExtent_30 ?_
      refine gm_getR (t := 55) hG gmF_5_155 gmKc_54 rfl d_x_partAcrossExtent_33 ?_
      refine gm_iload_n hG 1 d_x_partAcrossExtent_36 rfl rfl ?_
      refine gm_aald (t := (a0).toNat) hG 5 gmKc_55 (by decide) (by decide) rfl gmLc_55 (g5 c4) rfl d_x_partAcrossExtent_37 ?_
      refine gm_getI hG gmF_5_180 (gmKtA (k := 55) (i := a0) gmKc_55 (by rw [gmLc_55]; exact (g5 c4))) (gmFrN 4 (Or.inl (gmKtA (k := 55) (i := a0) gmKc_55 (by rw [gmLc_55]; exact (g5 c4))))) d_x_partAcrossExtent_38 (fun _ => ?_)
      refine gm_goto (tgt := 47) hG d_x_partAcrossExtent_41 (by decide) ?_
      exact hj
  exact gm_iret' hF h (gmR_ite (fun c4 => (by decide)) (fun c4 => (hOs2 (gmTg 55 (a0).toNat) 4))) d_x_partAcrossExtent_47
def Fx_lengthFor (k1 : Nat) (σ : St) : Option (Int × St) := gmBv (Fk_makeParts k1 σ) (fun s1 => gmB (Fk_lengthPacked (s1 1 8) (s1 1 9) s1) (fun r3 s2 => some (r3, s2)))
set_option maxRecDepth 100000 in
set_option maxHeartbeats 4000000 in
theorem Wx_lengthFor {k1 : Nat} {σ : St} {rv : Int} {rs : St} (hk1 : gmKd k1 = 10) (h : Fx_lengthFor k1 σ = some (rv, rs)) : Ctr gmY5_lengthFor prog_1_method_46_code 2 (some .int) 4 99 [.inr 0, .inr k1] σ (some rv) rs := by
  refine Ctr.ofI (own := "GarmentMarker") (by decide +kernel) rfl (Nat.le_of_ble_eq_true rfl) (fun φ hG hF => ?_)
  unfold Fx_lengthFor at h
  refine gm_lv (l2 := [(0, .inr 0), (1, .inr k1)]) rfl ?_
  refine gm_ok (fun hO => ?_)
  refine gm_aload_n hG 0 d_x_lengthFor_0 rfl rfl ?_
  refine gm_getR (t := 54) hG gmF_5_27 gmKc_0 rfl d_x_lengthFor_1 ?_
  refine gm_aload_n hG 0 d_x_lengthFor_4 rfl rfl ?_
  refine gm_getR (t := 1) hG gmF_5_12 gmKc_0 rfl d_x_lengthFor_5 ?_
  refine gm_aload_n hG 1 d_x_lengthFor_8 rfl rfl ?_
  obtain ⟨s1, es1, h⟩ := gmBv_of h
  refine gm_callVv hG [.inr 1, .inr k1] [] gmM_5_142 (Wk_makeParts hk1 es1) gmKc_54 rfl (by decide) (Nat.le_of_ble_eq_true rfl) rfl d_x_lengthFor_9 ?_
  refine gm_ok (fun hOs1 => ?_)
  refine gm_aload_n hG 0 d_x_lengthFor_12 rfl rfl ?_
  refine gm_getR (t := 54) hG gmF_5_27 gmKc_0 rfl d_x_lengthFor_13 ?_
  refine gm_aload_n hG 0 d_x_lengthFor_16 rfl rfl ?_
  refine gm_getR (t := 1) hG gmF_5_12 gmKc_0 rfl d_x_lengthFor_17 ?_
  refine gm_getI hG gmF_5_132 gmKc_1 rfl d_x_lengthFor_20 (fun _ => ?_)
  refine gm_aload_n hG 0 d_x_lengthFor_23 rfl rfl ?_
  refine gm_getR (t := 1) hG gmF_5_12 gmKc_0 rfl d_x_lengthFor_24 ?_
  refine gm_getI hG gmF_5_135 gmKc_1 rfl d_x_lengthFor_27 (fun _ => ?_)
  obtain ⟨r3, s2, es2, h⟩ := gmB_of h
  refine gm_callVi hG [.inl (s1 1 8), .inl (s1 1 9)] [] gmM_5_193 (Wk_lengthPacked (hOs1 1 8) (hOs1 1 9) es2) gmKc_54 rfl (by decide) (Nat.le_of_ble_eq_true rfl) rfl d_x_lengthFor_30 (fun qr3 => ?_)
  refine gm_ok (fun hOs2 => ?_)
  exact gm_iret' hF h qr3 d_x_lengthFor_33
def Fx_markerLength (σ : St) : Option (Int × St) := gmB (Fx_lengthFor 16 σ) (fun r2 s1 => some (r2, s1))
set_option maxRecDepth 100000 in
set_option maxHeartbeats 4000000 in
theorem Wx_markerLength {σ : St} {rv : Int} {rs : St} (h : Fx_markerLength σ = some (rv, rs)) : Ctr gmY5_markerLength prog_1_method_25_code 1 (some .int) 5 120 [.inr 0] σ (some rv) rs := by
  refine Ctr.ofI (own := "GarmentMarker") (by decide +kernel) rfl (Nat.le_of_ble_eq_true rfl) (fun φ hG hF => ?_)
  unfold Fx_markerLength at h
  refine gm_lv (l2 := [(0, .inr 0)]) rfl ?_
  refine gm_ok (fun hO => ?_)
  refine gm_aload_n hG 0 d_x_markerLength_0 rfl rfl ?_
  refine gm_aload_n hG 0 d_x_markerLength_1 rfl rfl ?_
  refine gm_getR (t := 1) hG gmF_5_12 gmKc_0 rfl d_x_markerLength_2 ?_
  refine gm_getR (t := 16) hG gmF_5_116 gmKc_1 rfl d_x_markerLength_5 ?_
  obtain ⟨r2, s1, es1, h⟩ := gmB_of h
  refine gm_callVi hG [.inr 16] [] gmM_5_183 (Wx_lengthFor gmKc_16 es1) gmKc_0 rfl (by decide) (Nat.le_of_ble_eq_true rfl) rfl d_x_markerLength_8 (fun qr2 => ?_)
  refine gm_ok (fun hOs1 => ?_)
  exact gm_iret' hF h qr2 d_x_markerLength_11
def Fx_wastedArea (σ : St) : Option (Int × St) := gmB (Fx_lengthFor 16 σ) (fun r2 s1 => if r2 = (-1007) then some ((-1007), s1) else gmB (Fk_partsArea s1) (fun r5 s4 => gmG (gmR ((r2 * (s1 54 2)) - r5)) (some (((r2 * (s1 54 2)) - r5), s4))))
set_option maxRecDepth 100000 in
set_option maxHeartbeats 4000000 in
theorem Wx_wastedArea {σ : St} {rv : Int} {rs : St} (h : Fx_wastedArea σ = some (rv, rs)) : Ctr gmY5_wastedArea prog_1_method_26_code 2 (some .int) 5 120 [.inr 0] σ (some rv) rs := by
  refine Ctr.ofI (own := "GarmentMarker") (by decide +kernel) rfl (Nat.le_of_ble_eq_true rfl) (fun φ hG hF => ?_)
  unfold Fx_wastedArea at h
  refine gm_lv (l2 := [(0, .inr 0)]) rfl ?_
  refine gm_ok (fun hO => ?_)
  refine gm_aload_n hG 0 d_x_wastedArea_0 rfl rfl ?_
  refine gm_aload_n hG 0 d_x_wastedArea_1 rfl rfl ?_
  refine gm_getR (t := 1) hG gmF_5_12 gmKc_0 rfl d_x_wastedArea_2 ?_
  refine gm_getR (t := 16) hG gmF_5_116 gmKc_1 rfl d_x_wastedArea_5 ?_
  obtain ⟨r2, s1, es1, h⟩ := gmB_of h
  refine gm_callVi hG [.inr 16] [] gmM_5_183 (Wx_lengthFor gmKc_16 es1) gmKc_0 rfl (by decide) (Nat.le_of_ble_eq_true rfl) rfl d_x_wastedArea_8 (fun qr2 => ?_)
  refine gm_ok (fun hOs1 => ?_)
  refine gm_istore_n (lv' := [(1, .inl r2), (0, .inr 0)]) hG d_x_wastedArea_11 rfl (by decide) rfl ?_
  refine gm_iload_n hG 0 d_x_wastedArea_12 rfl rfl ?_
  refine gm_sipush hG d_x_wastedArea_13 (by decide) ?_
  refine gm_icmp_ne (tgt := 25) hG d_x_wastedArea_16 (by decide) qr2 (by decide) (fun c3 => ?_) (fun c3 => ?_)
  · replace h := gmI_neg c3 h
    refine gm_iload_n hG 0 d_x_wastedArea_25 rfl rfl ?_
    refine gm_aload_n hG 1 d_x_wastedArea_26 rfl rfl ?_
    refine gm_getR (t := 54) hG gmF_5_27 gmKc_0 rfl d_x_wastedArea_27 ?_
    refine gm_getI hG gmF_5_187 gmKc_54 rfl d_x_wastedArea_30 (fun _ => ?_)
    refine gm_imul hG d_x_wastedArea_33 ?_
    refine gm_aload_n hG 1 d_x_wastedArea_34 rfl rfl ?_
    refine gm_getR (t := 54) hG gmF_5_27 gmKc_0 rfl d_x_wastedArea_35 ?_
    obtain ⟨r5, s4, es4, h⟩ := gmB_of h
    refine gm_callVi hG [] [.inl (r2 * (s1 54 2))] gmM_5_190 (Wk_partsArea es4) gmKc_54 rfl (by decide) (Nat.le_of_ble_eq_true rfl) rfl d_x_wastedArea_38 (fun qr5 => ?_)
    refine gm_ok (fun hOs4 => ?_)
    refine gm_isub hG d_x_wastedArea_41 ?_
    obtain ⟨g6, h⟩ := gmG_of h
    exact gm_iret' hF h g6 d_x_wastedArea_42
  · replace h := gmI_pos c3 h
    refine gm_sipush hG d_x_wastedArea_19 (by decide) ?_
    refine gm_goto (tgt := 42) hG d_x_wastedArea_22 (by decide) ?_
    exact gm_iret' hF h (by decide) d_x_wastedArea_42
def Fx_markerLengthWith (a0 : Int) (a1 : Int) (σ : St) : Option (Int × St) := gmB (Fx_isPacking a0 a1 σ) (fun r2 s1 => if r2 = 0 then some ((-1005), s1) else gmBv (Fk_makeParts 16 s1) (fun s4 => gmB (Fk_lengthPacked a0 a1 s4) (fun r6 s5 => some (r6, s5))))
set_option maxRecDepth 100000 in
set_option maxHeartbeats 4000000 in
theorem Wx_markerLengthWith {a0 : Int} {a1 : Int} {σ : St} {rv : Int} {rs : St} (ra0 : gmR a0) (ra1 : gmR a1) (h : Fx_markerLengthWith a0 a1 σ = some (rv, rs)) : Ctr gmY5_markerLengthWith prog_1_method_27_code 3 (some .int) 4 99 [.inr 0, .inl a0, .inl a1] σ (some rv) rs := by
  refine Ctr.ofI (own := "GarmentMarker") (by decide +kernel) rfl (Nat.le_of_ble_eq_true rfl) (fun φ hG hF => ?_)
  unfold Fx_markerLengthWith at h
  refine gm_lv (l2 := [(0, .inr 0), (1, .inl a0), (2, .inl a1)]) rfl ?_
  refine gm_ok (fun hO => ?_)
  refine gm_iload_n hG 1 d_x_markerLengthWith_0 rfl rfl ?_
  refine gm_iload_n hG 2 d_x_markerLengthWith_1 rfl rfl ?_
  obtain ⟨r2, s1, es1, h⟩ := gmB_of h
  refine gm_callSi hG [.inl a0, .inl a1] [] gmM_5_128 (Wx_isPacking ra0 ra1 es1) rfl (by decide) (Nat.le_of_ble_eq_true rfl) rfl d_x_markerLengthWith_2 (fun qr2 => ?_)
  refine gm_ok (fun hOs1 => ?_)
  refine gm_if_ne (tgt := 12) hG d_x_markerLengthWith_5 (by decide) qr2 (fun c3 => ?_) (fun c3 => ?_)
  · replace h := gmI_neg c3 h
    refine gm_aload_n hG 0 d_x_markerLengthWith_12 rfl rfl ?_
    refine gm_getR (t := 54) hG gmF_5_27 gmKc_0 rfl d_x_markerLengthWith_13 ?_
    refine gm_aload_n hG 0 d_x_markerLengthWith_16 rfl rfl ?_
    refine gm_getR (t := 1) hG gmF_5_12 gmKc_0 rfl d_x_markerLengthWith_17 ?_
    refine gm_aload_n hG 0 d_x_markerLengthWith_20 rfl rfl ?_
    refine gm_getR (t := 1) hG gmF_5_12 gmKc_0 rfl d_x_markerLengthWith_21 ?_
    refine gm_getR (t := 16) hG gmF_5_116 gmKc_1 rfl d_x_markerLengthWith_24 ?_
    obtain ⟨s4, es4, h⟩ := gmBv_of h
    refine gm_callVv hG [.inr 1, .inr 16] [] gmM_5_142 (Wk_makeParts gmKc_16 es4) gmKc_54 rfl (by decide) (Nat.le_of_ble_eq_true rfl) rfl d_x_markerLengthWith_27 ?_
    refine gm_ok (fun hOs4 => ?_)
    refine gm_aload_n hG 0 d_x_markerLengthWith_30 rfl rfl ?_
    refine gm_getR (t := 54) hG gmF_5_27 gmKc_0 rfl d_x_markerLengthWith_31 ?_
    refine gm_iload_n hG 1 d_x_markerLengthWith_34 rfl rfl ?_
    refine gm_iload_n hG 2 d_x_markerLengthWith_35 rfl rfl ?_
    obtain ⟨r6, s5, es5, h⟩ := gmB_of h
    refine gm_callVi hG [.inl a0, .inl a1] [] gmM_5_193 (Wk_lengthPacked ra0 ra1 es5) gmKc_54 rfl (by decide) (Nat.le_of_ble_eq_true rfl) rfl d_x_markerLengthWith_36 (fun qr6 => ?_)
    refine gm_ok (fun hOs5 => ?_)
    exact gm_iret' hF h qr6 d_x_markerLengthWith_39
  · replace h := gmI_pos c3 h
    refine gm_sipush hG d_x_markerLengthWith_8 (by decide) ?_
    exact gm_iret' hF h (by decide) d_x_markerLengthWith_11
def Fx_findBestPacking_48 : Nat → Int → Int → Int → Int → St → (Int → Int → St → Option (Int × St)) → Option (Int × St)
  | 0, _, _, _, _, _, _ => none
  | n + 1, y1, y2, y3, y4, σ, k => if 4 ≤ y4 then k y1 y2 σ else gmB (Fk_lengthPacked y3 y4 σ) (fun r8 s7 => if y1 = (-1007) then gmB (Fx_packingNumber y3 y4 s7) (fun r11 s10 => gmG (gmR (y4 + 1)) (Fx_findBestPacking_48 n r11 r8 y3 (y4 + 1) s10 k)) else if y2 ≤ r8 then gmG (gmR (y4 + 1)) (Fx_findBestPacking_48 n y1 y2 y3 (y4 + 1) s7 k) else gmB (Fx_packingNumber y3 y4 s7) (fun r16 s15 => gmG (gmR (y4 + 1)) (Fx_findBestPacking_48 n r16 r8 y3 (y4 + 1) s15 k)))
def Fx_findBestPacking_40 : Nat → Int → Int → Int → St → (Int → St → Option (Int × St)) → Option (Int × St)
  | 0, _, _, _, _, _ => none
  | n + 1, y1, y2, y3, σ, k => if 2 ≤ y3 then k y1 σ else Fx_findBestPacking_48 gmN y1 y2 y3 0 σ (fun x18 x19 s20 => gmG (gmR (y3 + 1)) (Fx_findBestPacking_40 n x18 x19 (y3 + 1) s20 k))
def Fx_findBestPacking (σ : St) : Option (Int × St) := gmBv (Fk_makeParts 16 σ) (fun s1 => gmB (Fk_hasLayout s1) (fun r3 s2 => if r3 = 0 then some ((-1007), s2) else Fx_findBestPacking_40 gmN (-1007) 0 0 s2 (fun x22 s23 => some (x22, s23))))
set_option maxRecDepth 100000 in
set_option maxHeartbeats 4000000 in
theorem Wx_findBestPacking_48 {φ : Fx} {rv : Int} {rs : St} (hG : Good φ "GarmentMarker" prog_1_method_47_code 6 4 99) (hF : FinI φ prog_1_method_47_code rv rs) : ∀ (n : Nat) {y1 : Int} {y2 : Int} {y3 : Int} {y4 : Int} {σ : St} {k : Int → Int → St → Option (Int × St)}, gmR y1 → gmR y2 → gmR y3 → gmR y4 → Fx_findBestPacking_48 n y1 y2 y3 y4 σ k = some (rv, rs) → (∀ {z1 : Int} {z2 : Int} {τ : St}, gmR z1 → gmR z2 → k z1 z2 τ = some (rv, rs) → J φ τ 95 [(0, .inr 0), (1, .inl z1), (2, .inl z2), (3, .inl y3)] []) → J φ σ 48 [(0, .inr 0), (1, .inl y1), (2, .inl y2), (3, .inl y3), (4, .inl y4)] [] := by
  intro n
  induction n with
  | zero =>
    intro _ _ _ _ _ _ _ _ _ _ h
    exact absurd h (by rw [Fx_findBestPacking_48.eq_1]; exact fun q => by cases q)
  | succ n ih =>
    intro y1 y2 y3 y4 σ k r1 r2 r3 r4 h hk
    rw [Fx_findBestPacking_48.eq_2] at h
    refine gm_ok (fun hO => ?_)
    refine gm_iload hG 4 d_x_findBestPacking_48 rfl ?_
    refine gm_iconst hG d_x_findBestPacking_50 ?_
    refine gm_icmp_ge (tgt := 95) hG d_x_findBestPacking_51 (by decide) r4 (by decide) (fun c6 => ?_) (fun c6 => ?_)
    · replace h := gmI_pos c6 h
      refine gm_sub [0, 1, 2, 3] rfl ?_
      exact hk r1 r2 h
    · replace h := gmI_neg c6 h
      refine gm_aload_n hG 0 d_x_findBestPacking_54 rfl rfl ?_
      refine gm_getR (t := 54) hG gmF_5_27 gmKc_0 rfl d_x_findBestPacking_55 ?_
      refine gm_iload_n hG 3 d_x_findBestPacking_58 rfl rfl ?_
      refine gm_iload hG 4 d_x_findBestPacking_59 rfl ?_
      obtain ⟨r8, s7, es7, h⟩ := gmB_of h
      refine gm_callVi hG [.inl y3, .inl y4] [] gmM_5_193 (Wk_lengthPacked r3 r4 es7) gmKc_54 rfl (by decide) (Nat.le_of_ble_eq_true rfl) rfl d_x_findBestPacking_61 (fun qr8 => ?_)
      refine gm_ok (fun hOs7 => ?_)
      refine gm_istore (lv' := [(5, .inl r8), (0, .inr 0), (1, .inl y1), (2, .inl y2), (3, .inl y3), (4, .inl y4)]) hG d_x_findBestPacking_64 (by decide) rfl ?_
      refine gm_iload_n hG 2 d_x_findBestPacking_66 rfl rfl ?_
      refine gm_sipush hG d_x_findBestPacking_67 (by decide) ?_
      refine gm_icmp_eq (tgt := 79) hG d_x_findBestPacking_70 (by decide) r1 (by decide) (fun c9 => ?_) (fun c9 => ?_)
      · replace h := gmI_pos c9 h
        refine gm_iload_n hG 4 d_x_findBestPacking_79 rfl rfl ?_
        refine gm_iload hG 5 d_x_findBestPacking_80 rfl ?_
        obtain ⟨r11, s10, es10, h⟩ := gmB_of h
        refine gm_callSi hG [.inl y3, .inl y4] [] gmM_5_138 (Wx_packingNumber r3 r4 es10) rfl (by decide) (Nat.le_of_ble_eq_true rfl) rfl d_x_findBestPacking_82 (fun qr11 => ?_)
        refine gm_ok (fun hOs10 => ?_)
        refine gm_istore_n (lv' := [(1, .inl r11), (5, .inl r8), (0, .inr 0), (2, .inl y2), (3, .inl y3), (4, .inl y4)]) hG d_x_findBestPacking_85 rfl (by decide) rfl ?_
        refine gm_iload hG 1 d_x_findBestPacking_86 rfl ?_
        refine gm_istore_n (lv' := [(2, .inl r8), (1, .inl r11), (5, .inl r8), (0, .inr 0), (3, .inl y3), (4, .inl y4)]) hG d_x_findBestPacking_88 rfl (by decide) rfl ?_
        refine gm_iinc (lv' := [(4, .inl (y4 + 1)), (2, .inl r8), (1, .inl r11), (5, .inl r8), (0, .inr 0), (3, .inl y3)]) hG 5 d_x_findBestPacking_89 rfl (by decide) rfl ?_
        refine gm_goto (tgt := 48) hG d_x_findBestPacking_92 (by decide) ?_
        obtain ⟨g12, h⟩ := gmG_of h
        refine gm_sub [4, 2, 1, 5, 0] rfl ?_
        exact ih qr11 qr8 r3 g12 h hk
      · replace h := gmI_neg c9 h
        refine gm_iload hG 0 d_x_findBestPacking_73 rfl ?_
        refine gm_iload_n hG 3 d_x_findBestPacking_75 rfl rfl ?_
        refine gm_icmp_ge (tgt := 89) hG d_x_findBestPacking_76 (by decide) qr8 r2 (fun c13 => ?_) (fun c13 => ?_)
        · replace h := gmI_pos c13 h
          refine gm_iinc (lv' := [(4, .inl (y4 + 1)), (5, .inl r8), (0, .inr 0), (1, .inl y1), (2, .inl y2), (3, .inl y3)]) hG 5 d_x_findBestPacking_89 rfl (by decide) rfl ?_
          refine gm_goto (tgt := 48) hG d_x_findBestPacking_92 (by decide) ?_
          obtain ⟨g14, h⟩ := gmG_of h
          refine gm_sub [2, 3, 4, 5, 0] rfl ?_
          exact ih r1 r2 r3 g14 h hk
        · replace h := gmI_neg c13 h
          refine gm_iload_n hG 4 d_x_findBestPacking_79 rfl rfl ?_
          refine gm_iload hG 5 d_x_findBestPacking_80 rfl ?_
          obtain ⟨r16, s15, es15, h⟩ := gmB_of h
          refine gm_callSi hG [.inl y3, .inl y4] [] gmM_5_138 (Wx_packingNumber r3 r4 es15) rfl (by decide) (Nat.le_of_ble_eq_true rfl) rfl d_x_findBestPacking_82 (fun qr16 => ?_)
          refine gm_ok (fun hOs15 => ?_)
          refine gm_istore_n (lv' := [(1, .inl r16), (5, .inl r8), (0, .inr 0), (2, .inl y2), (3, .inl y3), (4, .inl y4)]) hG d_x_findBestPacking_85 rfl (by decide) rfl ?_
          refine gm_iload hG 1 d_x_findBestPacking_86 rfl ?_
          refine gm_istore_n (lv' := [(2, .inl r8), (1, .inl r16), (5, .inl r8), (0, .inr 0), (3, .inl y3), (4, .inl y4)]) hG d_x_findBestPacking_88 rfl (by decide) rfl ?_
          refine gm_iinc (lv' := [(4, .inl (y4 + 1)), (2, .inl r8), (1, .inl r16), (5, .inl r8), (0, .inr 0), (3, .inl y3)]) hG 5 d_x_findBestPacking_89 rfl (by decide) rfl ?_
          refine gm_goto (tgt := 48) hG d_x_findBestPacking_92 (by decide) ?_
          obtain ⟨g17, h⟩ := gmG_of h
          refine gm_sub [4, 2, 1, 5, 0] rfl ?_
          exact ih qr16 qr8 r3 g17 h hk
set_option maxRecDepth 100000 in
set_option maxHeartbeats 4000000 in
theorem Wx_findBestPacking_40 {φ : Fx} {rv : Int} {rs : St} (hG : Good φ "GarmentMarker" prog_1_method_47_code 6 4 99) (hF : FinI φ prog_1_method_47_code rv rs) : ∀ (n : Nat) {y1 : Int} {y2 : Int} {y3 : Int} {σ : St} {k : Int → St → Option (Int × St)}, gmR y1 → gmR y2 → gmR y3 → Fx_findBestPacking_40 n y1 y2 y3 σ k = some (rv, rs) → (∀ {z1 : Int} {τ : St}, gmR z1 → k z1 τ = some (rv, rs) → J φ τ 101 [(1, .inl z1)] []) → J φ σ 40 [(0, .inr 0), (1, .inl y1), (2, .inl y2), (3, .inl y3)] [] := by
  intro n
  induction n with
  | zero =>
    intro _ _ _ _ _ _ _ _ h
    exact absurd h (by rw [Fx_findBestPacking_40.eq_1]; exact fun q => by cases q)
  | succ n ih =>
    intro y1 y2 y3 σ k r1 r2 r3 h hk
    rw [Fx_findBestPacking_40.eq_2] at h
    refine gm_ok (fun hO => ?_)
    refine gm_iload_n hG 3 d_x_findBestPacking_40 rfl rfl ?_
    refine gm_iconst hG d_x_findBestPacking_41 ?_
    refine gm_icmp_ge (tgt := 101) hG d_x_findBestPacking_42 (by decide) r3 (by decide) (fun c5 => ?_) (fun c5 => ?_)
    · replace h := gmI_pos c5 h
      refine gm_sub [1] rfl ?_
      exact hk r1 h
    · replace h := gmI_neg c5 h
      refine gm_iconst hG d_x_findBestPacking_45 ?_
      refine gm_istore (lv' := [(4, .inl 0), (0, .inr 0), (1, .inl y1), (2, .inl y2), (3, .inl y3)]) hG d_x_findBestPacking_46 (by decide) rfl ?_
      refine gm_sub [1, 2, 3, 4, 0] rfl ?_
      refine Wx_findBestPacking_48 hG hF gmN r1 r2 r3 (by decide) h (fun {x18} {x19} {s20} qx18 qx19 h => ?_)
      refine gm_ok (fun hOs20 => ?_)
      refine gm_iinc (lv' := [(3, .inl (y3 + 1)), (0, .inr 0), (1, .inl x18), (2, .inl x19)]) hG 3 d_x_findBestPacking_95 rfl (by decide) rfl ?_
      refine gm_goto (tgt := 40) hG d_x_findBestPacking_98 (by decide) ?_
      obtain ⟨g21, h⟩ := gmG_of h
      refine gm_sub [1, 2, 3, 0] rfl ?_
      exact ih qx18 qx19 g21 h hk
set_option maxRecDepth 100000 in
set_option maxHeartbeats 4000000 in
theorem Wx_findBestPacking {σ : St} {rv : Int} {rs : St} (h : Fx_findBestPacking σ = some (rv, rs)) : Ctr gmY5_findBestPacking prog_1_method_47_code 6 (some .int) 4 99 [.inr 0] σ (some rv) rs := by
  refine Ctr.ofI (own := "GarmentMarker") (by decide +kernel) rfl (Nat.le_of_ble_eq_true rfl) (fun φ hG hF => ?_)
  unfold Fx_findBestPacking at h
  refine gm_lv (l2 := [(0, .inr 0)]) rfl ?_
  refine gm_ok (fun hO => ?_)
  refine gm_aload_n hG 0 d_x_findBestPacking_0 rfl rfl ?_
  refine gm_getR (t := 54) hG gmF_5_27 gmKc_0 rfl d_x_findBestPacking_1 ?_
  refine gm_aload_n hG 0 d_x_findBestPacking_4 rfl rfl ?_
  refine gm_getR (t := 1) hG gmF_5_12 gmKc_0 rfl d_x_findBestPacking_5 ?_
  refine gm_aload_n hG 0 d_x_findBestPacking_8 rfl rfl ?_
  refine gm_getR (t := 1) hG gmF_5_12 gmKc_0 rfl d_x_findBestPacking_9 ?_
  refine gm_getR (t := 16) hG gmF_5_116 gmKc_1 rfl d_x_findBestPacking_12 ?_
  obtain ⟨s1, es1, h⟩ := gmBv_of h
  refine gm_callVv hG [.inr 1, .inr 16] [] gmM_5_142 (Wk_makeParts gmKc_16 es1) gmKc_54 rfl (by decide) (Nat.le_of_ble_eq_true rfl) rfl d_x_findBestPacking_15 ?_
  refine gm_ok (fun hOs1 => ?_)
  refine gm_aload_n hG 0 d_x_findBestPacking_18 rfl rfl ?_
  refine gm_getR (t := 54) hG gmF_5_27 gmKc_0 rfl d_x_findBestPacking_19 ?_
  obtain ⟨r3, s2, es2, h⟩ := gmB_of h
  refine gm_callVi hG [] [] gmM_5_212 (Wk_hasLayout es2) gmKc_54 rfl (by decide) (Nat.le_of_ble_eq_true rfl) rfl d_x_findBestPacking_22 (fun qr3 => ?_)
  refine gm_ok (fun hOs2 => ?_)
  refine gm_if_ne (tgt := 32) hG d_x_findBestPacking_25 (by decide) qr3 (fun c4 => ?_) (fun c4 => ?_)
  · replace h := gmI_neg c4 h
    refine gm_sipush hG d_x_findBestPacking_32 (by decide) ?_
    refine gm_istore_n (lv' := [(1, .inl (-1007)), (0, .inr 0)]) hG d_x_findBestPacking_35 rfl (by decide) rfl ?_
    refine gm_iconst hG d_x_findBestPacking_36 ?_
    refine gm_istore_n (lv' := [(2, .inl 0), (1, .inl (-1007)), (0, .inr 0)]) hG d_x_findBestPacking_37 rfl (by decide) rfl ?_
    refine gm_iconst hG d_x_findBestPacking_38 ?_
    refine gm_istore_n (lv' := [(3, .inl 0), (2, .inl 0), (1, .inl (-1007)), (0, .inr 0)]) hG d_x_findBestPacking_39 rfl (by decide) rfl ?_
    refine gm_sub [3, 2, 1, 0] rfl ?_
    refine Wx_findBestPacking_40 hG hF gmN (by decide) (by decide) (by decide) h (fun {x22} {s23} qx22 h => ?_)
    refine gm_ok (fun hOs23 => ?_)
    refine gm_iload_n hG 0 d_x_findBestPacking_101 rfl rfl ?_
    exact gm_iret' hF h qx22 d_x_findBestPacking_102
  · replace h := gmI_pos c4 h
    refine gm_sipush hG d_x_findBestPacking_28 (by decide) ?_
    exact gm_iret' hF h (by decide) d_x_findBestPacking_31
def Fx_bestLength (σ : St) : Option (Int × St) := gmB (Fx_findBestPacking σ) (fun r2 s1 => if r2 = (-1007) then some ((-1007), s1) else gmG (0 ≤ r2 ∧ r2 < 2147483648) (gmB (Fk_lengthPacked (r2 / 10) (r2 % 10) s1) (fun r6 s5 => some (r6, s5))))
set_option maxRecDepth 100000 in
set_option maxHeartbeats 4000000 in
theorem Wx_bestLength {σ : St} {rv : Int} {rs : St} (h : Fx_bestLength σ = some (rv, rs)) : Ctr gmY5_bestLength prog_1_method_28_code 2 (some .int) 5 124 [.inr 0] σ (some rv) rs := by
  refine Ctr.ofI (own := "GarmentMarker") (by decide +kernel) rfl (Nat.le_of_ble_eq_true rfl) (fun φ hG hF => ?_)
  unfold Fx_bestLength at h
  refine gm_lv (l2 := [(0, .inr 0)]) rfl ?_
  refine gm_ok (fun hO => ?_)
  refine gm_aload_n hG 0 d_x_bestLength_0 rfl rfl ?_
  obtain ⟨r2, s1, es1, h⟩ := gmB_of h
  refine gm_callVi hG [] [] gmM_5_196 (Wx_findBestPacking es1) gmKc_0 rfl (by decide) (Nat.le_of_ble_eq_true rfl) rfl d_x_bestLength_1 (fun qr2 => ?_)
  refine gm_ok (fun hOs1 => ?_)
  refine gm_istore_n (lv' := [(1, .inl r2), (0, .inr 0)]) hG d_x_bestLength_4 rfl (by decide) rfl ?_
  refine gm_iload_n hG 0 d_x_bestLength_5 rfl rfl ?_
  refine gm_sipush hG d_x_bestLength_6 (by decide) ?_
  refine gm_icmp_ne (tgt := 18) hG d_x_bestLength_9 (by decide) qr2 (by decide) (fun c3 => ?_) (fun c3 => ?_)
  · replace h := gmI_neg c3 h
    refine gm_aload_n hG 1 d_x_bestLength_18 rfl rfl ?_
    refine gm_getR (t := 54) hG gmF_5_27 gmKc_0 rfl d_x_bestLength_19 ?_
    refine gm_iload_n hG 0 d_x_bestLength_22 rfl rfl ?_
    refine gm_bipush hG d_x_bestLength_23 (by decide) ?_
    obtain ⟨g4, h⟩ := gmG_of h
    refine gm_idiv hG d_x_bestLength_25 g4 (by decide) (fun _ => ?_)
    refine gm_iload_n hG 0 d_x_bestLength_26 rfl rfl ?_
    refine gm_bipush hG d_x_bestLength_27 (by decide) ?_
    refine gm_irem hG d_x_bestLength_29 g4 (by decide) (fun _ => ?_)
    obtain ⟨r6, s5, es5, h⟩ := gmB_of h
    refine gm_callVi hG [.inl (r2 / 10), .inl (r2 % 10)] [] gmM_5_193 (Wk_lengthPacked (gm_kdiv g4 (by decide)) (gm_krem (x := r2) (by decide)) es5) gmKc_54 rfl (by decide) (Nat.le_of_ble_eq_true rfl) rfl d_x_bestLength_30 (fun qr6 => ?_)
    refine gm_ok (fun hOs5 => ?_)
    exact gm_iret' hF h qr6 d_x_bestLength_33
  · replace h := gmI_pos c3 h
    refine gm_sipush hG d_x_bestLength_12 (by decide) ?_
    refine gm_goto (tgt := 33) hG d_x_bestLength_15 (by decide) ?_
    exact gm_iret' hF h (by decide) d_x_bestLength_33
def Fx_bestPacking (σ : St) : Option (Int × St) := gmB (Fx_findBestPacking σ) (fun r2 s1 => some (r2, s1))
set_option maxRecDepth 100000 in
set_option maxHeartbeats 4000000 in
theorem Wx_bestPacking {σ : St} {rv : Int} {rs : St} (h : Fx_bestPacking σ = some (rv, rs)) : Ctr gmY5_bestPacking prog_1_method_29_code 1 (some .int) 5 124 [.inr 0] σ (some rv) rs := by
  refine Ctr.ofI (own := "GarmentMarker") (by decide +kernel) rfl (Nat.le_of_ble_eq_true rfl) (fun φ hG hF => ?_)
  unfold Fx_bestPacking at h
  refine gm_lv (l2 := [(0, .inr 0)]) rfl ?_
  refine gm_ok (fun hO => ?_)
  refine gm_aload_n hG 0 d_x_bestPacking_0 rfl rfl ?_
  obtain ⟨r2, s1, es1, h⟩ := gmB_of h
  refine gm_callVi hG [] [] gmM_5_196 (Wx_findBestPacking es1) gmKc_0 rfl (by decide) (Nat.le_of_ble_eq_true rfl) rfl d_x_bestPacking_1 (fun qr2 => ?_)
  refine gm_ok (fun hOs1 => ?_)
  exact gm_iret' hF h qr2 d_x_bestPacking_4
def Fx_setOrdered (a0 : Int) (a1 : Int) (σ : St) : Option (Int × St) := gmB (Fx_isSize a0 σ) (fun r2 s1 => if r2 = 0 then some ((-1002), s1) else gmB (Fx_isWithin a1 0 99 s1) (fun r5 s4 => if r5 = 0 then some ((-1005), s4) else gmG (0 ≤ a0 ∧ a0 < 3) (gmL ((s4 17 (a0).toNat) : Int) (fun x8 => gmL (gmUp s4 17 (a0).toNat a1) (fun s9 => some (x8, s9))))))
set_option maxRecDepth 100000 in
set_option maxHeartbeats 4000000 in
theorem Wx_setOrdered {a0 : Int} {a1 : Int} {σ : St} {rv : Int} {rs : St} (ra0 : gmR a0) (ra1 : gmR a1) (h : Fx_setOrdered a0 a1 σ = some (rv, rs)) : Ctr gmY5_setOrdered prog_1_method_30_code 4 (some .int) 2 42 [.inr 0, .inl a0, .inl a1] σ (some rv) rs := by
  refine Ctr.ofI (own := "GarmentMarker") (by decide +kernel) rfl (Nat.le_of_ble_eq_true rfl) (fun φ hG hF => ?_)
  unfold Fx_setOrdered at h
  refine gm_lv (l2 := [(0, .inr 0), (1, .inl a0), (2, .inl a1)]) rfl ?_
  refine gm_ok (fun hO => ?_)
  refine gm_iload_n hG 1 d_x_setOrdered_0 rfl rfl ?_
  obtain ⟨r2, s1, es1, h⟩ := gmB_of h
  refine gm_callSi hG [.inl a0] [] gmM_5_105 (Wx_isSize ra0 es1) rfl (by decide) (Nat.le_of_ble_eq_true rfl) rfl d_x_setOrdered_1 (fun qr2 => ?_)
  refine gm_ok (fun hOs1 => ?_)
  refine gm_if_ne (tgt := 11) hG d_x_setOrdered_4 (by decide) qr2 (fun c3 => ?_) (fun c3 => ?_)
  · replace h := gmI_neg c3 h
    refine gm_iload_n hG 2 d_x_setOrdered_11 rfl rfl ?_
    refine gm_iconst hG d_x_setOrdered_12 ?_
    refine gm_bipush hG d_x_setOrdered_13 (by decide) ?_
    obtain ⟨r5, s4, es4, h⟩ := gmB_of h
    refine gm_callSi hG [.inl a1, .inl 0, .inl 99] [] gmM_5_35 (Wx_isWithin ra1 (by decide) (by decide) es4) rfl (by decide) (Nat.le_of_ble_eq_true rfl) rfl d_x_setOrdered_15 (fun qr5 => ?_)
    refine gm_ok (fun hOs4 => ?_)
    refine gm_if_ne (tgt := 25) hG d_x_setOrdered_18 (by decide) qr5 (fun c6 => ?_) (fun c6 => ?_)
    · replace h := gmI_neg c6 h
      refine gm_aload_n hG 0 d_x_setOrdered_25 rfl rfl ?_
      refine gm_getR (t := 1) hG gmF_5_12 gmKc_0 rfl d_x_setOrdered_26 ?_
      refine gm_getR (t := 17) hG gmF_5_199 gmKc_1 rfl d_x_setOrdered_29 ?_
      refine gm_iload_n hG 1 d_x_setOrdered_32 rfl rfl ?_
      obtain ⟨g7, h⟩ := gmG_of h
      refine gm_iald (t := (a0).toNat) hG gmKc_17 gmLc_17 g7 rfl d_x_setOrdered_33 (fun _ => ?_)
      obtain ⟨x8, ex8, h⟩ := gmL_of h
      refine gm_top ex8 ?_
      refine gm_istore_n (lv' := [(3, .inl x8), (0, .inr 0), (1, .inl a0), (2, .inl a1)]) hG d_x_setOrdered_34 rfl (by decide) rfl ?_
      refine gm_aload_n hG 1 d_x_setOrdered_35 rfl rfl ?_
      refine gm_getR (t := 1) hG gmF_5_12 gmKc_0 rfl d_x_setOrdered_36 ?_
      refine gm_getR (t := 17) hG gmF_5_199 gmKc_1 rfl d_x_setOrdered_39 ?_
      refine gm_iload_n hG 2 d_x_setOrdered_42 rfl rfl ?_
      refine gm_iload_n hG 3 d_x_setOrdered_43 rfl rfl ?_
      obtain ⟨s9, es9, h⟩ := gmL_of h
      refine gm_iast (t := (a0).toNat) hG gmKc_17 gmLc_17 g7 rfl ra1 es9 d_x_setOrdered_44 ?_
      refine gm_ok (fun hOs9 => ?_)
      refine gm_iload_n hG 0 d_x_setOrdered_45 rfl rfl ?_
      exact gm_iret' hF h (gm_kr ex8 (hOs4 17 (a0).toNat)) d_x_setOrdered_46
    · replace h := gmI_pos c6 h
      refine gm_sipush hG d_x_setOrdered_21 (by decide) ?_
      exact gm_iret' hF h (by decide) d_x_setOrdered_24
  · replace h := gmI_pos c3 h
    refine gm_sipush hG d_x_setOrdered_7 (by decide) ?_
    exact gm_iret' hF h (by decide) d_x_setOrdered_10
def Fx_plies (σ : St) : Option (Int × St) := gmB (Ft_pliesFor 16 σ) (fun r2 s1 => some (r2, s1))
set_option maxRecDepth 100000 in
set_option maxHeartbeats 4000000 in
theorem Wx_plies {σ : St} {rv : Int} {rs : St} (h : Fx_plies σ = some (rv, rs)) : Ctr gmY5_plies prog_1_method_31_code 1 (some .int) 2 45 [.inr 0] σ (some rv) rs := by
  refine Ctr.ofI (own := "GarmentMarker") (by decide +kernel) rfl (Nat.le_of_ble_eq_true rfl) (fun φ hG hF => ?_)
  unfold Fx_plies at h
  refine gm_lv (l2 := [(0, .inr 0)]) rfl ?_
  refine gm_ok (fun hO => ?_)
  refine gm_aload_n hG 0 d_x_plies_0 rfl rfl ?_
  refine gm_getR (t := 1) hG gmF_5_12 gmKc_0 rfl d_x_plies_1 ?_
  refine gm_aload_n hG 0 d_x_plies_4 rfl rfl ?_
  refine gm_getR (t := 1) hG gmF_5_12 gmKc_0 rfl d_x_plies_5 ?_
  refine gm_getR (t := 16) hG gmF_5_116 gmKc_1 rfl d_x_plies_8 ?_
  obtain ⟨r2, s1, es1, h⟩ := gmB_of h
  refine gm_callVi hG [.inr 16] [] gmM_5_202 (Wt_pliesFor gmKc_16 es1) gmKc_1 rfl (by decide) (Nat.le_of_ble_eq_true rfl) rfl d_x_plies_11 (fun qr2 => ?_)
  refine gm_ok (fun hOs1 => ?_)
  exact gm_iret' hF h qr2 d_x_plies_14
def Fx_clothLength (σ : St) : Option (Int × St) := gmB (Ft_pliesFor 16 σ) (fun r2 s1 => if r2 = (-1008) then some ((-1008), s1) else gmB (Fx_lengthFor 16 s1) (fun r5 s4 => gmG (gmR (if r5 = (-1007) then (-1007) else (r2 * r5))) (some ((if r5 = (-1007) then (-1007) else (r2 * r5)), s4))))
set_option maxRecDepth 100000 in
set_option maxHeartbeats 4000000 in
theorem Wx_clothLength {σ : St} {rv : Int} {rs : St} (h : Fx_clothLength σ = some (rv, rs)) : Ctr gmY5_clothLength prog_1_method_32_code 3 (some .int) 5 120 [.inr 0] σ (some rv) rs := by
  refine Ctr.ofI (own := "GarmentMarker") (by decide +kernel) rfl (Nat.le_of_ble_eq_true rfl) (fun φ hG hF => ?_)
  unfold Fx_clothLength at h
  refine gm_lv (l2 := [(0, .inr 0)]) rfl ?_
  refine gm_ok (fun hO => ?_)
  refine gm_aload_n hG 0 d_x_clothLength_0 rfl rfl ?_
  refine gm_getR (t := 1) hG gmF_5_12 gmKc_0 rfl d_x_clothLength_1 ?_
  refine gm_aload_n hG 0 d_x_clothLength_4 rfl rfl ?_
  refine gm_getR (t := 1) hG gmF_5_12 gmKc_0 rfl d_x_clothLength_5 ?_
  refine gm_getR (t := 16) hG gmF_5_116 gmKc_1 rfl d_x_clothLength_8 ?_
  obtain ⟨r2, s1, es1, h⟩ := gmB_of h
  refine gm_callVi hG [.inr 16] [] gmM_5_202 (Wt_pliesFor gmKc_16 es1) gmKc_1 rfl (by decide) (Nat.le_of_ble_eq_true rfl) rfl d_x_clothLength_11 (fun qr2 => ?_)
  refine gm_ok (fun hOs1 => ?_)
  refine gm_istore_n (lv' := [(1, .inl r2), (0, .inr 0)]) hG d_x_clothLength_14 rfl (by decide) rfl ?_
  refine gm_iload_n hG 0 d_x_clothLength_15 rfl rfl ?_
  refine gm_sipush hG d_x_clothLength_16 (by decide) ?_
  refine gm_icmp_ne (tgt := 26) hG d_x_clothLength_19 (by decide) qr2 (by decide) (fun c3 => ?_) (fun c3 => ?_)
  · replace h := gmI_neg c3 h
    refine gm_aload_n hG 1 d_x_clothLength_26 rfl rfl ?_
    refine gm_aload_n hG 1 d_x_clothLength_27 rfl rfl ?_
    refine gm_getR (t := 1) hG gmF_5_12 gmKc_0 rfl d_x_clothLength_28 ?_
    refine gm_getR (t := 16) hG gmF_5_116 gmKc_1 rfl d_x_clothLength_31 ?_
    obtain ⟨r5, s4, es4, h⟩ := gmB_of h
    refine gm_callVi hG [.inr 16] [] gmM_5_183 (Wx_lengthFor gmKc_16 es4) gmKc_0 rfl (by decide) (Nat.le_of_ble_eq_true rfl) rfl d_x_clothLength_34 (fun qr5 => ?_)
    refine gm_ok (fun hOs4 => ?_)
    refine gm_istore_n (lv' := [(2, .inl r5), (1, .inl r2), (0, .inr 0)]) hG d_x_clothLength_37 rfl (by decide) rfl ?_
    refine gm_iload_n hG 0 d_x_clothLength_38 rfl rfl ?_
    refine gm_sipush hG d_x_clothLength_39 (by decide) ?_
    suffices hj : J φ s4 54 [(2, .inl r5), (1, .inl r2), (0, .inr 0)] [.inl (if r5 = (-1007) then (-1007) else (r2 * r5))] by
      refine gm_icmp_ne (tgt := 51) hG d_x_clothLength_42 (by decide) qr5 (by decide) (fun c6 => ?_) (fun c6 => ?_)
      · replace hj := gmJ_neg c6 hj
        refine gm_iload_n hG 1 d_x_clothLength_51 rfl rfl ?_
        refine gm_iload_n hG 0 d_x_clothLength_52 rfl rfl ?_
        refine gm_imul hG d_x_clothLength_53 ?_
        exact hj
      · replace hj := gmJ_pos c6 hj
        refine gm_sipush hG d_x_clothLength_45 (by decide) ?_
        refine gm_goto (tgt := 54) hG d_x_clothLength_48 (by decide) ?_
        exact hj
    obtain ⟨g7, h⟩ := gmG_of h
    exact gm_iret' hF h g7 d_x_clothLength_54
  · replace h := gmI_pos c3 h
    refine gm_sipush hG d_x_clothLength_22 (by decide) ?_
    exact gm_iret' hF h (by decide) d_x_clothLength_25
def Fx_surplus (σ : St) : Option (Int × St) := gmB (Ft_pliesFor 16 σ) (fun r2 s1 => if r2 = (-1008) then some ((-1008), s1) else gmB (Ft_surplusFor 16 r2 s1) (fun r5 s4 => some (r5, s4)))
set_option maxRecDepth 100000 in
set_option maxHeartbeats 4000000 in
theorem Wx_surplus {σ : St} {rv : Int} {rs : St} (h : Fx_surplus σ = some (rv, rs)) : Ctr gmY5_surplus prog_1_method_33_code 2 (some .int) 2 45 [.inr 0] σ (some rv) rs := by
  refine Ctr.ofI (own := "GarmentMarker") (by decide +kernel) rfl (Nat.le_of_ble_eq_true rfl) (fun φ hG hF => ?_)
  unfold Fx_surplus at h
  refine gm_lv (l2 := [(0, .inr 0)]) rfl ?_
  refine gm_ok (fun hO => ?_)
  refine gm_aload_n hG 0 d_x_surplus_0 rfl rfl ?_
  refine gm_getR (t := 1) hG gmF_5_12 gmKc_0 rfl d_x_surplus_1 ?_
  refine gm_aload_n hG 0 d_x_surplus_4 rfl rfl ?_
  refine gm_getR (t := 1) hG gmF_5_12 gmKc_0 rfl d_x_surplus_5 ?_
  refine gm_getR (t := 16) hG gmF_5_116 gmKc_1 rfl d_x_surplus_8 ?_
  obtain ⟨r2, s1, es1, h⟩ := gmB_of h
  refine gm_callVi hG [.inr 16] [] gmM_5_202 (Wt_pliesFor gmKc_16 es1) gmKc_1 rfl (by decide) (Nat.le_of_ble_eq_true rfl) rfl d_x_surplus_11 (fun qr2 => ?_)
  refine gm_ok (fun hOs1 => ?_)
  refine gm_istore_n (lv' := [(1, .inl r2), (0, .inr 0)]) hG d_x_surplus_14 rfl (by decide) rfl ?_
  refine gm_iload_n hG 0 d_x_surplus_15 rfl rfl ?_
  refine gm_sipush hG d_x_surplus_16 (by decide) ?_
  refine gm_icmp_ne (tgt := 28) hG d_x_surplus_19 (by decide) qr2 (by decide) (fun c3 => ?_) (fun c3 => ?_)
  · replace h := gmI_neg c3 h
    refine gm_aload_n hG 1 d_x_surplus_28 rfl rfl ?_
    refine gm_getR (t := 1) hG gmF_5_12 gmKc_0 rfl d_x_surplus_29 ?_
    refine gm_aload_n hG 1 d_x_surplus_32 rfl rfl ?_
    refine gm_getR (t := 1) hG gmF_5_12 gmKc_0 rfl d_x_surplus_33 ?_
    refine gm_getR (t := 16) hG gmF_5_116 gmKc_1 rfl d_x_surplus_36 ?_
    refine gm_iload_n hG 0 d_x_surplus_39 rfl rfl ?_
    obtain ⟨r5, s4, es4, h⟩ := gmB_of h
    refine gm_callVi hG [.inr 16, .inl r2] [] gmM_5_205 (Wt_surplusFor gmKc_16 qr2 es4) gmKc_1 rfl (by decide) (Nat.le_of_ble_eq_true rfl) rfl d_x_surplus_40 (fun qr5 => ?_)
    refine gm_ok (fun hOs4 => ?_)
    exact gm_iret' hF h qr5 d_x_surplus_43
  · replace h := gmI_pos c3 h
    refine gm_sipush hG d_x_surplus_22 (by decide) ?_
    refine gm_goto (tgt := 43) hG d_x_surplus_25 (by decide) ?_
    exact gm_iret' hF h (by decide) d_x_surplus_43
def Fx_lookAtMix (a0 : Int) (σ : St) : Option St := gmG (0 ≤ a0 ∧ a0 < 2147483648) (gmL (gmUp σ 132 0 (a0 / 9)) (fun s2 => gmG (0 ≤ (a0 / 3) ∧ (a0 / 3) < 2147483648) (gmL (gmUp s2 132 1 ((a0 / 3) % 3)) (fun s4 => gmL (gmUp s4 132 2 (a0 % 3)) (fun s5 => some s5)))))
set_option maxRecDepth 100000 in
set_option maxHeartbeats 4000000 in
theorem Wx_lookAtMix {a0 : Int} {σ : St} {rs : St} (ra0 : gmR a0) (h : Fx_lookAtMix a0 σ = some rs) : Ctr gmY5_lookAtMix prog_1_method_48_code 2 none 0 0 [.inr 0, .inl a0] σ none rs := by
  refine Ctr.ofV (own := "GarmentMarker") (by decide +kernel) rfl (Nat.le_of_ble_eq_true rfl) (fun φ hG hF => ?_)
  unfold Fx_lookAtMix at h
  refine gm_lv (l2 := [(0, .inr 0), (1, .inl a0)]) rfl ?_
  refine gm_ok (fun hO => ?_)
  refine gm_aload_n hG 0 d_x_lookAtMix_0 rfl rfl ?_
  refine gm_getR (t := 132) hG gmF_5_31 gmKc_0 rfl d_x_lookAtMix_1 ?_
  refine gm_iconst hG d_x_lookAtMix_4 ?_
  refine gm_iload_n hG 1 d_x_lookAtMix_5 rfl rfl ?_
  refine gm_bipush hG d_x_lookAtMix_6 (by decide) ?_
  obtain ⟨g1, h⟩ := gmG_of h
  refine gm_idiv hG d_x_lookAtMix_8 g1 (by decide) (fun _ => ?_)
  obtain ⟨s2, es2, h⟩ := gmL_of h
  refine gm_iast (t := 0) hG gmKc_132 gmLc_132 (by decide) rfl (gm_kdiv g1 (by decide)) es2 d_x_lookAtMix_9 ?_
  refine gm_ok (fun hOs2 => ?_)
  refine gm_aload_n hG 0 d_x_lookAtMix_10 rfl rfl ?_
  refine gm_getR (t := 132) hG gmF_5_31 gmKc_0 rfl d_x_lookAtMix_11 ?_
  refine gm_iconst hG d_x_lookAtMix_14 ?_
  refine gm_iload_n hG 1 d_x_lookAtMix_15 rfl rfl ?_
  refine gm_iconst hG d_x_lookAtMix_16 ?_
  refine gm_idiv hG d_x_lookAtMix_17 g1 (by decide) (fun _ => ?_)
  refine gm_iconst hG d_x_lookAtMix_18 ?_
  obtain ⟨g3, h⟩ := gmG_of h
  refine gm_irem hG d_x_lookAtMix_19 g3 (by decide) (fun _ => ?_)
  obtain ⟨s4, es4, h⟩ := gmL_of h
  refine gm_iast (t := 1) hG gmKc_132 gmLc_132 (by decide) rfl (gm_krem (x := (a0 / 3)) (by decide)) es4 d_x_lookAtMix_20 ?_
  refine gm_ok (fun hOs4 => ?_)
  refine gm_aload_n hG 0 d_x_lookAtMix_21 rfl rfl ?_
  refine gm_getR (t := 132) hG gmF_5_31 gmKc_0 rfl d_x_lookAtMix_22 ?_
  refine gm_iconst hG d_x_lookAtMix_25 ?_
  refine gm_iload_n hG 1 d_x_lookAtMix_26 rfl rfl ?_
  refine gm_iconst hG d_x_lookAtMix_27 ?_
  refine gm_irem hG d_x_lookAtMix_28 g1 (by decide) (fun _ => ?_)
  obtain ⟨s5, es5, h⟩ := gmL_of h
  refine gm_iast (t := 2) hG gmKc_132 gmLc_132 (by decide) rfl (gm_krem (x := a0) (by decide)) es5 d_x_lookAtMix_29 ?_
  refine gm_ok (fun hOs5 => ?_)
  exact gm_vret' hF h d_x_lookAtMix_30
def Fx_goodMixes_4 : Nat → Int → Int → St → (Int → St → Option (Int × St)) → Option (Int × St)
  | 0, _, _, _, _ => none
  | n + 1, y1, y2, σ, k => if 27 ≤ y2 then k y1 σ else gmBv (Fx_lookAtMix y2 σ) (fun s2 => gmBv (Fk_makeParts 132 s2) (fun s3 => gmB (Ft_pliesFor 132 s3) (fun r5 s4 => if r5 = (-1008) then gmG (gmR (y2 + 1)) (Fx_goodMixes_4 n y1 (y2 + 1) s4 k) else gmB (Fk_hasLayout s4) (fun r9 s8 => if r9 = 0 then gmG (gmR (y2 + 1)) (Fx_goodMixes_4 n y1 (y2 + 1) s8 k) else gmG (gmR (y1 + 1)) (gmG (gmR (y2 + 1)) (Fx_goodMixes_4 n (y1 + 1) (y2 + 1) s8 k))))))
def Fx_goodMixes (σ : St) : Option (Int × St) := Fx_goodMixes_4 gmN 0 1 σ (fun x14 s15 => some (x14, s15))
set_option maxRecDepth 100000 in
set_option maxHeartbeats 4000000 in
theorem Wx_goodMixes_4 {φ : Fx} {rv : Int} {rs : St} (hG : Good φ "GarmentMarker" prog_1_method_34_code 3 4 99) (hF : FinI φ prog_1_method_34_code rv rs) : ∀ (n : Nat) {y1 : Int} {y2 : Int} {σ : St} {k : Int → St → Option (Int × St)}, gmR y1 → gmR y2 → Fx_goodMixes_4 n y1 y2 σ k = some (rv, rs) → (∀ {z1 : Int} {τ : St}, gmR z1 → k z1 τ = some (rv, rs) → J φ τ 66 [(1, .inl z1)] []) → J φ σ 4 [(0, .inr 0), (1, .inl y1), (2, .inl y2)] [] := by
  intro n
  induction n with
  | zero =>
    intro _ _ _ _ _ _ h
    exact absurd h (by rw [Fx_goodMixes_4.eq_1]; exact fun q => by cases q)
  | succ n ih =>
    intro y1 y2 σ k r1 r2 h hk
    rw [Fx_goodMixes_4.eq_2] at h
    refine gm_ok (fun hO => ?_)
    refine gm_iload_n hG 2 d_x_goodMixes_4 rfl rfl ?_
    refine gm_bipush hG d_x_goodMixes_5 (by decide) ?_
    refine gm_icmp_ge (tgt := 66) hG d_x_goodMixes_7 (by decide) r2 (by decide) (fun c1 => ?_) (fun c1 => ?_)
    · replace h := gmI_pos c1 h
      refine gm_sub [1] rfl ?_
      exact hk r1 h
    · replace h := gmI_neg c1 h
      refine gm_aload_n hG 0 d_x_goodMixes_10 rfl rfl ?_
      refine gm_iload_n hG 2 d_x_goodMixes_11 rfl rfl ?_
      obtain ⟨s2, es2, h⟩ := gmBv_of h
      refine gm_callVv hG [.inl y2] [] gmM_5_209 (Wx_lookAtMix r2 es2) gmKc_0 rfl (by decide) (Nat.le_of_ble_eq_true rfl) rfl d_x_goodMixes_12 ?_
      refine gm_ok (fun hOs2 => ?_)
      refine gm_aload_n hG 0 d_x_goodMixes_15 rfl rfl ?_
      refine gm_getR (t := 54) hG gmF_5_27 gmKc_0 rfl d_x_goodMixes_16 ?_
      refine gm_aload_n hG 0 d_x_goodMixes_19 rfl rfl ?_
      refine gm_getR (t := 1) hG gmF_5_12 gmKc_0 rfl d_x_goodMixes_20 ?_
      refine gm_aload_n hG 0 d_x_goodMixes_23 rfl rfl ?_
      refine gm_getR (t := 132) hG gmF_5_31 gmKc_0 rfl d_x_goodMixes_24 ?_
      obtain ⟨s3, es3, h⟩ := gmBv_of h
      refine gm_callVv hG [.inr 1, .inr 132] [] gmM_5_142 (Wk_makeParts gmKc_132 es3) gmKc_54 rfl (by decide) (Nat.le_of_ble_eq_true rfl) rfl d_x_goodMixes_27 ?_
      refine gm_ok (fun hOs3 => ?_)
      refine gm_aload_n hG 0 d_x_goodMixes_30 rfl rfl ?_
      refine gm_getR (t := 1) hG gmF_5_12 gmKc_0 rfl d_x_goodMixes_31 ?_
      refine gm_aload_n hG 0 d_x_goodMixes_34 rfl rfl ?_
      refine gm_getR (t := 132) hG gmF_5_31 gmKc_0 rfl d_x_goodMixes_35 ?_
      obtain ⟨r5, s4, es4, h⟩ := gmB_of h
      refine gm_callVi hG [.inr 132] [] gmM_5_202 (Wt_pliesFor gmKc_132 es4) gmKc_1 rfl (by decide) (Nat.le_of_ble_eq_true rfl) rfl d_x_goodMixes_38 (fun qr5 => ?_)
      refine gm_ok (fun hOs4 => ?_)
      refine gm_sipush hG d_x_goodMixes_41 (by decide) ?_
      refine gm_icmp_eq (tgt := 60) hG d_x_goodMixes_44 (by decide) qr5 (by decide) (fun c6 => ?_) (fun c6 => ?_)
      · replace h := gmI_pos c6 h
        refine gm_iinc (lv' := [(2, .inl (y2 + 1)), (0, .inr 0), (1, .inl y1)]) hG 2 d_x_goodMixes_60 rfl (by decide) rfl ?_
        refine gm_goto (tgt := 4) hG d_x_goodMixes_63 (by decide) ?_
        obtain ⟨g7, h⟩ := gmG_of h
        refine gm_sub [1, 2, 0] rfl ?_
        exact ih r1 g7 h hk
      · replace h := gmI_neg c6 h
        refine gm_aload_n hG 0 d_x_goodMixes_47 rfl rfl ?_
        refine gm_getR (t := 54) hG gmF_5_27 gmKc_0 rfl d_x_goodMixes_48 ?_
        obtain ⟨r9, s8, es8, h⟩ := gmB_of h
        refine gm_callVi hG [] [] gmM_5_212 (Wk_hasLayout es8) gmKc_54 rfl (by decide) (Nat.le_of_ble_eq_true rfl) rfl d_x_goodMixes_51 (fun qr9 => ?_)
        refine gm_ok (fun hOs8 => ?_)
        refine gm_if_eq (tgt := 60) hG d_x_goodMixes_54 (by decide) qr9 (fun c10 => ?_) (fun c10 => ?_)
        · replace h := gmI_pos c10 h
          refine gm_iinc (lv' := [(2, .inl (y2 + 1)), (0, .inr 0), (1, .inl y1)]) hG 2 d_x_goodMixes_60 rfl (by decide) rfl ?_
          refine gm_goto (tgt := 4) hG d_x_goodMixes_63 (by decide) ?_
          obtain ⟨g11, h⟩ := gmG_of h
          refine gm_sub [1, 2, 0] rfl ?_
          exact ih r1 g11 h hk
        · replace h := gmI_neg c10 h
          refine gm_iinc (lv' := [(1, .inl (y1 + 1)), (0, .inr 0), (2, .inl y2)]) hG 1 d_x_goodMixes_57 rfl (by decide) rfl ?_
          refine gm_iinc (lv' := [(2, .inl (y2 + 1)), (1, .inl (y1 + 1)), (0, .inr 0)]) hG 2 d_x_goodMixes_60 rfl (by decide) rfl ?_
          refine gm_goto (tgt := 4) hG d_x_goodMixes_63 (by decide) ?_
          obtain ⟨g12, h⟩ := gmG_of h
          obtain ⟨g13, h⟩ := gmG_of h
          refine gm_sub [2, 1, 0] rfl ?_
          exact ih g12 g13 h hk
set_option maxRecDepth 100000 in
set_option maxHeartbeats 4000000 in
theorem Wx_goodMixes {σ : St} {rv : Int} {rs : St} (h : Fx_goodMixes σ = some (rv, rs)) : Ctr gmY5_goodMixes prog_1_method_34_code 3 (some .int) 4 99 [.inr 0] σ (some rv) rs := by
  refine Ctr.ofI (own := "GarmentMarker") (by decide +kernel) rfl (Nat.le_of_ble_eq_true rfl) (fun φ hG hF => ?_)
  unfold Fx_goodMixes at h
  refine gm_lv (l2 := [(0, .inr 0)]) rfl ?_
  refine gm_ok (fun hO => ?_)
  refine gm_iconst hG d_x_goodMixes_0 ?_
  refine gm_istore_n (lv' := [(1, .inl 0), (0, .inr 0)]) hG d_x_goodMixes_1 rfl (by decide) rfl ?_
  refine gm_iconst hG d_x_goodMixes_2 ?_
  refine gm_istore_n (lv' := [(2, .inl 1), (1, .inl 0), (0, .inr 0)]) hG d_x_goodMixes_3 rfl (by decide) rfl ?_
  refine gm_sub [2, 1, 0] rfl ?_
  refine Wx_goodMixes_4 hG hF gmN (by decide) (by decide) h (fun {x14} {s15} qx14 h => ?_)
  refine gm_ok (fun hOs15 => ?_)
  refine gm_iload_n hG 0 d_x_goodMixes_66 rfl rfl ?_
  exact gm_iret' hF h qx14 d_x_goodMixes_67
