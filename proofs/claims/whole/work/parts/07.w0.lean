def Fc_sideIn (k0 : Nat) (a0 : Int) (a1 : Int) (σ : St) : Option (Int × St) := gmG (gmR (if a0 = 0 then ((σ k0 1) + (a1 * (σ k0 3))) else ((σ k0 2) + (a1 * (σ k0 4))))) (some ((if a0 = 0 then ((σ k0 1) + (a1 * (σ k0 3))) else ((σ k0 2) + (a1 * (σ k0 4)))), σ))
set_option maxRecDepth 100000 in
set_option maxHeartbeats 4000000 in
theorem Wc_sideIn {k0 : Nat} {a0 : Int} {a1 : Int} {σ : St} {rv : Int} {rs : St} (hk0 : gmKd k0 = 2) (ra0 : gmR a0) (ra1 : gmR a1) (h : Fc_sideIn k0 a0 a1 σ = some (rv, rs)) : Ctr gmY2_sideIn prog_4_method_3_code 3 (some .int) 0 0 [.inr k0, .inl a0, .inl a1] σ (some rv) rs := by
  refine Ctr.ofI (own := "GarmentMarker$Piece") (by decide +kernel) rfl (Nat.le_of_ble_eq_true rfl) (fun φ hG hF => ?_)
  unfold Fc_sideIn at h
  refine gm_lv (l2 := [(0, .inr k0), (1, .inl a0), (2, .inl a1)]) rfl ?_
  refine gm_ok (fun hO => ?_)
  refine gm_iload_n hG 1 d_c_sideIn_0 rfl rfl ?_
  suffices hj : J φ σ 29 [(0, .inr k0), (1, .inl a0), (2, .inl a1)] [.inl (if a0 = 0 then ((σ k0 1) + (a1 * (σ k0 3))) else ((σ k0 2) + (a1 * (σ k0 4))))] by
    refine gm_if_ne (tgt := 18) hG d_c_sideIn_1 (by decide) ra0 (fun c1 => ?_) (fun c1 => ?_)
    · replace hj := gmJ_neg c1 hj
      refine gm_aload_n hG 0 d_c_sideIn_18 rfl rfl ?_
      refine gm_getI hG gmF_2_19 hk0 (gmFrN 2 (Or.inr (Or.inl hk0))) d_c_sideIn_19 (fun _ => ?_)
      refine gm_iload_n hG 2 d_c_sideIn_22 rfl rfl ?_
      refine gm_aload_n hG 0 d_c_sideIn_23 rfl rfl ?_
      refine gm_getI hG gmF_2_25 hk0 (gmFrN 4 (Or.inr (Or.inl hk0))) d_c_sideIn_24 (fun _ => ?_)
      refine gm_imul hG d_c_sideIn_27 ?_
      refine gm_iadd hG d_c_sideIn_28 ?_
      exact hj
    · replace hj := gmJ_pos c1 hj
      refine gm_aload_n hG 0 d_c_sideIn_4 rfl rfl ?_
      refine gm_getI hG gmF_2_15 hk0 (gmFrN 1 (Or.inr (Or.inl hk0))) d_c_sideIn_5 (fun _ => ?_)
      refine gm_iload_n hG 2 d_c_sideIn_8 rfl rfl ?_
      refine gm_aload_n hG 0 d_c_sideIn_9 rfl rfl ?_
      refine gm_getI hG gmF_2_22 hk0 (gmFrN 3 (Or.inr (Or.inl hk0))) d_c_sideIn_10 (fun _ => ?_)
      refine gm_imul hG d_c_sideIn_13 ?_
      refine gm_iadd hG d_c_sideIn_14 ?_
      refine gm_goto (tgt := 29) hG d_c_sideIn_15 (by decide) ?_
      exact hj
  obtain ⟨g2, h⟩ := gmG_of h
  exact gm_iret' hF h g2 d_c_sideIn_29
def Fk_isBetterTurned (a0 : Int) (a1 : Int) (σ : St) : Option (Int × St) := some ((if (σ 54 2) < a1 then 0 else (if (σ 54 2) < a0 then 1 else (if a1 ≤ a0 then 0 else 1))), σ)
set_option maxRecDepth 100000 in
set_option maxHeartbeats 4000000 in
theorem Wk_isBetterTurned {a0 : Int} {a1 : Int} {σ : St} {rv : Int} {rs : St} (ra0 : gmR a0) (ra1 : gmR a1) (h : Fk_isBetterTurned a0 a1 σ = some (rv, rs)) : Ctr gmY0_isBetterTurned prog_2_method_5_code 3 (some .boolean) 0 0 [.inr 54, .inl a0, .inl a1] σ (some rv) rs := by
  refine Ctr.ofZ (own := "GarmentMarker$Marker") (by decide +kernel) rfl (Nat.le_of_ble_eq_true rfl) (fun φ hG hF => ?_)
  unfold Fk_isBetterTurned at h
  refine gm_lv (l2 := [(0, .inr 54), (1, .inl a0), (2, .inl a1)]) rfl ?_
  refine gm_ok (fun hO => ?_)
  refine gm_iload_n hG 2 d_k_isBetterTurned_0 rfl rfl ?_
  refine gm_aload_n hG 0 d_k_isBetterTurned_1 rfl rfl ?_
  refine gm_getI hG gmF_0_41 gmKc_54 rfl d_k_isBetterTurned_2 (fun _ => ?_)
  suffices hj : J φ σ 26 [(0, .inr 54), (1, .inl a0), (2, .inl a1)] [.inl (if (σ 54 2) < a1 then 0 else (if (σ 54 2) < a0 then 1 else (if a1 ≤ a0 then 0 else 1)))] by
    refine gm_icmp_gt (tgt := 25) hG d_k_isBetterTurned_5 (by decide) ra1 (hO 54 2) (fun c1 => ?_) (fun c1 => ?_)
    · replace hj := gmJ_pos c1 hj
      refine gm_iconst hG d_k_isBetterTurned_25 ?_
      exact hj
    · replace hj := gmJ_neg c1 hj
      refine gm_iload_n hG 1 d_k_isBetterTurned_8 rfl rfl ?_
      refine gm_aload_n hG 0 d_k_isBetterTurned_9 rfl rfl ?_
      refine gm_getI hG gmF_0_41 gmKc_54 rfl d_k_isBetterTurned_10 (fun _ => ?_)
      refine gm_icmp_gt (tgt := 21) hG d_k_isBetterTurned_13 (by decide) ra0 (hO 54 2) (fun c2 => ?_) (fun c2 => ?_)
      · replace hj := gmJ_pos c2 hj
        refine gm_iconst hG d_k_isBetterTurned_21 ?_
        refine gm_goto (tgt := 26) hG d_k_isBetterTurned_22 (by decide) ?_
        exact hj
      · replace hj := gmJ_neg c2 hj
        refine gm_iload_n hG 1 d_k_isBetterTurned_16 rfl rfl ?_
        refine gm_iload_n hG 2 d_k_isBetterTurned_17 rfl rfl ?_
        refine gm_icmp_ge (tgt := 25) hG d_k_isBetterTurned_18 (by decide) ra0 ra1 (fun c3 => ?_) (fun c3 => ?_)
        · replace hj := gmJ_pos c3 hj
          refine gm_iconst hG d_k_isBetterTurned_25 ?_
          exact hj
        · replace hj := gmJ_neg c3 hj
          refine gm_iconst hG d_k_isBetterTurned_21 ?_
          refine gm_goto (tgt := 26) hG d_k_isBetterTurned_22 (by decide) ?_
          exact hj
  exact gm_zret' hF h (gmZ_ite (fun c1 => (Or.inl rfl)) (fun c1 => (gmZ_ite (fun c2 => (Or.inr rfl)) (fun c2 => (gmZ_ite (fun c3 => (Or.inl rfl)) (fun c3 => (Or.inr rfl))))))) d_k_isBetterTurned_26
def Fk_makePart (a1 : Int) (a2 : Int) (σ : St) : Option St := if (σ 54 1) < 72 then gmG (0 ≤ a2 ∧ a2 < 6) (gmL (gmTg 2 (a2).toNat) (fun p3 => gmG (0 ≤ (σ 54 1) ∧ (σ 54 1) < 72) (gmL (gmTg 55 ((σ 54 1)).toNat) (fun p5 => gmG (gmR ((σ 54 1) + 1)) (gmL (gmUp σ 54 1 ((σ 54 1) + 1)) (fun s7 => gmB (Fc_sideIn p3 0 a1 s7) (fun r9 s8 => gmB (Fc_sideIn p3 1 a1 s8) (fun r11 s10 => gmL (gmUp s10 p5 0 a1) (fun s12 => gmL (gmUp s12 p5 1 a2) (fun s13 => gmL (gmUp s13 p5 2 (if (s13 1 6) = 0 then 0 else (if (s13 p3 5) = 1 then 1 else 0))) (fun s16 => if (s16 p5 2) = 0 then if (s16 1 7) = 0 then gmL (gmUp s16 p5 4 r9) (fun s19 => gmL (gmUp s19 p5 3 r11) (fun s20 => some s20)) else gmB (Fk_isBetterTurned r9 r11 s16) (fun r22 s21 => gmL ((if r22 = 0 then 0 else 1) : Int) (fun x24 => gmL (gmUp s21 p5 4 (if x24 = 0 then r9 else r11)) (fun s26 => gmL (gmUp s26 p5 3 (if x24 = 0 then r11 else r9)) (fun s28 => some s28)))) else gmG (0 ≤ (r9 + 1) ∧ (r9 + 1) < 2147483648) (gmL (gmUp s16 p5 4 ((r9 + 1) / 2)) (fun s30 => gmL (gmUp s30 p5 3 r11) (fun s31 => some s31)))))))))))))) else some σ
set_option maxRecDepth 100000 in
set_option maxHeartbeats 4000000 in
theorem Wk_makePart {a1 : Int} {a2 : Int} {σ : St} {rs : St} (ra1 : gmR a1) (ra2 : gmR a2) (h : Fk_makePart a1 a2 σ = some rs) : Ctr gmY0_makePart prog_2_method_4_code 9 none 1 22 [.inr 54, .inr 1, .inl a1, .inl a2] σ none rs := by
  refine Ctr.ofV (own := "GarmentMarker$Marker") (by decide +kernel) rfl (Nat.le_of_ble_eq_true rfl) (fun φ hG hF => ?_)
  unfold Fk_makePart at h
  refine gm_lv (l2 := [(0, .inr 54), (1, .inr 1), (2, .inl a1), (3, .inl a2)]) rfl ?_
  refine gm_ok (fun hO => ?_)
  refine gm_aload_n hG 0 d_k_makePart_0 rfl rfl ?_
  refine gm_getI hG gmF_0_44 gmKc_54 rfl d_k_makePart_1 (fun _ => ?_)
  refine gm_bipush hG d_k_makePart_4 (by decide) ?_
  refine gm_icmp_lt (tgt := 10) hG d_k_makePart_6 (by decide) (hO 54 1) (by decide) (fun c1 => ?_) (fun c1 => ?_)
  · replace h := gmI_pos c1 h
    refine gm_aload_n hG 1 d_k_makePart_10 rfl rfl ?_
    refine gm_getR (t := 2) hG gmF_0_51 gmKc_1 rfl d_k_makePart_11 ?_
    refine gm_iload_n hG 3 d_k_makePart_14 rfl rfl ?_
    obtain ⟨g2, h⟩ := gmG_of h
    refine gm_aald (t := (a2).toNat) hG 2 gmKc_2 (by decide) (by decide) rfl gmLc_2 g2 rfl d_k_makePart_15 ?_
    obtain ⟨p3, ep3, h⟩ := gmL_of h
    refine gm_topR ep3 ?_
    refine gm_astore (lv' := [(4, .inr p3), (0, .inr 54), (1, .inr 1), (2, .inl a1), (3, .inl a2)]) hG d_k_makePart_16 (by decide) rfl ?_
    refine gm_aload_n hG 1 d_k_makePart_18 rfl rfl ?_
    refine gm_getR (t := 55) hG gmF_0_11 gmKc_54 rfl d_k_makePart_19 ?_
    refine gm_aload_n hG 1 d_k_makePart_22 rfl rfl ?_
    refine gm_getI hG gmF_0_44 gmKc_54 rfl d_k_makePart_23 (fun _ => ?_)
    obtain ⟨g4, h⟩ := gmG_of h
    refine gm_aald (t := ((σ 54 1)).toNat) hG 5 gmKc_55 (by decide) (by decide) rfl gmLc_55 g4 rfl d_k_makePart_26 ?_
    obtain ⟨p5, ep5, h⟩ := gmL_of h
    refine gm_topR ep5 ?_
    refine gm_astore (lv' := [(5, .inr p5), (4, .inr p3), (0, .inr 54), (1, .inr 1), (2, .inl a1), (3, .inl a2)]) hG d_k_makePart_27 (by decide) rfl ?_
    refine gm_aload_n hG 2 d_k_makePart_29 rfl rfl ?_
    refine gm_dup hG d_k_makePart_30 ?_
    refine gm_getI hG gmF_0_44 gmKc_54 rfl d_k_makePart_31 (fun _ => ?_)
    refine gm_iconst hG d_k_makePart_34 ?_
    refine gm_iadd hG d_k_makePart_35 ?_
    obtain ⟨g6, h⟩ := gmG_of h
    obtain ⟨s7, es7, h⟩ := gmL_of h
    refine gm_putI hG gmF_0_44 gmKc_54 rfl rfl (by decide +kernel) g6 es7 d_k_makePart_36 ?_
    refine gm_ok (fun hOs7 => ?_)
    refine gm_aload hG 1 d_k_makePart_39 rfl ?_
    refine gm_iconst hG d_k_makePart_41 ?_
    refine gm_iload_n hG 4 d_k_makePart_42 rfl rfl ?_
    obtain ⟨r9, s8, es8, h⟩ := gmB_of h
    refine gm_callVi hG [.inl 0, .inl a1] [] gmM_0_67 (Wc_sideIn (gm_kd ep3 (gmKtP (k := 2) (i := a2) gmKc_2 (by rw [gmLc_2]; exact g2))) (by decide) ra1 es8) (gm_kd ep3 (gmKtP (k := 2) (i := a2) gmKc_2 (by rw [gmLc_2]; exact g2))) rfl (by decide) (Nat.le_of_ble_eq_true rfl) rfl d_k_makePart_43 (fun qr9 => ?_)
    refine gm_ok (fun hOs8 => ?_)
    refine gm_istore (lv' := [(6, .inl r9), (5, .inr p5), (4, .inr p3), (0, .inr 54), (1, .inr 1), (2, .inl a1), (3, .inl a2)]) hG d_k_makePart_46 (by decide) rfl ?_
    refine gm_aload hG 2 d_k_makePart_48 rfl ?_
    refine gm_iconst hG d_k_makePart_50 ?_
    refine gm_iload_n hG 5 d_k_makePart_51 rfl rfl ?_
    obtain ⟨r11, s10, es10, h⟩ := gmB_of h
    refine gm_callVi hG [.inl 1, .inl a1] [] gmM_0_67 (Wc_sideIn (gm_kd ep3 (gmKtP (k := 2) (i := a2) gmKc_2 (by rw [gmLc_2]; exact g2))) (by decide) ra1 es10) (gm_kd ep3 (gmKtP (k := 2) (i := a2) gmKc_2 (by rw [gmLc_2]; exact g2))) rfl (by decide) (Nat.le_of_ble_eq_true rfl) rfl d_k_makePart_52 (fun qr11 => ?_)
    refine gm_ok (fun hOs10 => ?_)
    refine gm_istore (lv' := [(7, .inl r11), (6, .inl r9), (5, .inr p5), (4, .inr p3), (0, .inr 54), (1, .inr 1), (2, .inl a1), (3, .inl a2)]) hG d_k_makePart_55 (by decide) rfl ?_
    refine gm_aload hG 2 d_k_makePart_57 rfl ?_
    refine gm_iload_n hG 6 d_k_makePart_59 rfl rfl ?_
    obtain ⟨s12, es12, h⟩ := gmL_of h
    refine gm_putI hG gmF_0_71 (gm_kd ep5 (gmKtA (k := 55) (i := (σ 54 1)) gmKc_55 (by rw [gmLc_55]; exact g4))) (gmFrN 0 (Or.inl (gm_kd ep5 (gmKtA (k := 55) (i := (σ 54 1)) gmKc_55 (by rw [gmLc_55]; exact g4))))) rfl (by decide +kernel) ra1 es12 d_k_makePart_60 ?_
    refine gm_ok (fun hOs12 => ?_)
    refine gm_aload hG 2 d_k_makePart_63 rfl ?_
    refine gm_iload_n hG 7 d_k_makePart_65 rfl rfl ?_
    obtain ⟨s13, es13, h⟩ := gmL_of h
    refine gm_putI hG gmF_0_74 (gm_kd ep5 (gmKtA (k := 55) (i := (σ 54 1)) gmKc_55 (by rw [gmLc_55]; exact g4))) (gmFrN 1 (Or.inl (gm_kd ep5 (gmKtA (k := 55) (i := (σ 54 1)) gmKc_55 (by rw [gmLc_55]; exact g4))))) rfl (by decide +kernel) ra2 es13 d_k_makePart_66 ?_
    refine gm_ok (fun hOs13 => ?_)
    refine gm_aload hG 2 d_k_makePart_69 rfl ?_
    refine gm_aload_n hG 5 d_k_makePart_71 rfl rfl ?_
    refine gm_getI hG gmF_0_31 gmKc_1 rfl d_k_makePart_72 (fun _ => ?_)
    suffices hj : J φ s13 92 [(7, .inl r11), (6, .inl r9), (5, .inr p5), (4, .inr p3), (0, .inr 54), (1, .inr 1), (2, .inl a1), (3, .inl a2)] [.inl (if (s13 1 6) = 0 then 0 else (if (s13 p3 5) = 1 then 1 else 0)), .inr p5] by
      refine gm_if_eq (tgt := 91) hG d_k_makePart_75 (by decide) (hOs13 1 6) (fun c14 => ?_) (fun c14 => ?_)
      · replace hj := gmJ_pos c14 hj
        refine gm_iconst hG d_k_makePart_91 ?_
        exact hj
      · replace hj := gmJ_neg c14 hj
        refine gm_aload hG 3 d_k_makePart_78 rfl ?_
        refine gm_getI hG gmF_0_60 (gm_kd ep3 (gmKtP (k := 2) (i := a2) gmKc_2 (by rw [gmLc_2]; exact g2))) (gmFrN 5 (Or.inr (Or.inl (gm_kd ep3 (gmKtP (k := 2) (i := a2) gmKc_2 (by rw [gmLc_2]; exact g2)))))) d_k_makePart_80 (fun _ => ?_)
        refine gm_iconst hG d_k_makePart_83 ?_
        refine gm_icmp_ne (tgt := 91) hG d_k_makePart_84 (by decide) (hOs13 p3 5) (by decide) (fun c15 => ?_) (fun c15 => ?_)
        · replace hj := gmJ_neg c15 hj
          refine gm_iconst hG d_k_makePart_91 ?_
          exact hj
        · replace hj := gmJ_pos c15 hj
          refine gm_iconst hG d_k_makePart_87 ?_
          refine gm_goto (tgt := 92) hG d_k_makePart_88 (by decide) ?_
          exact hj
    obtain ⟨s16, es16, h⟩ := gmL_of h
    refine gm_putZ hG gmF_0_77 (gm_kd ep5 (gmKtA (k := 55) (i := (σ 54 1)) gmKc_55 (by rw [gmLc_55]; exact g4))) (gmFrN 2 (Or.inl (gm_kd ep5 (gmKtA (k := 55) (i := (σ 54 1)) gmKc_55 (by rw [gmLc_55]; exact g4))))) rfl (by decide +kernel) (gmZ_ite (fun c14 => (Or.inl rfl)) (fun c14 => (gmZ_ite (fun c15 => (Or.inr rfl)) (fun c15 => (Or.inl rfl))))) es16 d_k_makePart_92 ?_
    refine gm_ok (fun hOs16 => ?_)
    refine gm_aload hG 2 d_k_makePart_95 rfl ?_
    refine gm_getI hG gmF_0_77 (gm_kd ep5 (gmKtA (k := 55) (i := (σ 54 1)) gmKc_55 (by rw [gmLc_55]; exact g4))) (gmFrN 2 (Or.inl (gm_kd ep5 (gmKtA (k := 55) (i := (σ 54 1)) gmKc_55 (by rw [gmLc_55]; exact g4))))) d_k_makePart_97 (fun _ => ?_)
    refine gm_if_eq (tgt := 124) hG d_k_makePart_100 (by decide) (hOs16 p5 2) (fun c17 => ?_) (fun c17 => ?_)
    · replace h := gmI_pos c17 h
      refine gm_aload_n hG 5 d_k_makePart_124 rfl rfl ?_
      refine gm_getI hG gmF_0_86 gmKc_1 rfl d_k_makePart_125 (fun _ => ?_)
      refine gm_if_eq (tgt := 146) hG d_k_makePart_128 (by decide) (hOs16 1 7) (fun c18 => ?_) (fun c18 => ?_)
      · replace h := gmI_pos c18 h
        refine gm_iconst hG d_k_makePart_146 ?_
        refine gm_istore (lv' := [(8, .inl 0), (7, .inl r11), (6, .inl r9), (5, .inr p5), (4, .inr p3), (0, .inr 54), (1, .inr 1), (2, .inl a1), (3, .inl a2)]) hG d_k_makePart_147 (by decide) rfl ?_
        refine gm_aload hG 3 d_k_makePart_149 rfl ?_
        refine gm_iload hG 0 d_k_makePart_151 rfl ?_
        suffices hj : J φ s16 163 [(8, .inl 0), (7, .inl r11), (6, .inl r9), (5, .inr p5), (4, .inr p3), (0, .inr 54), (1, .inr 1), (2, .inl a1), (3, .inl a2)] [.inl r9, .inr p5] by
          refine gm_if_eq (tgt := 161) hG d_k_makePart_153 (by decide) (by decide) (fun _ => ?_) (fun q => absurd q (by decide))
          refine gm_iload hG 2 d_k_makePart_161 rfl ?_
          exact hj
        obtain ⟨s19, es19, h⟩ := gmL_of h
        refine gm_putI hG gmF_0_80 (gm_kd ep5 (gmKtA (k := 55) (i := (σ 54 1)) gmKc_55 (by rw [gmLc_55]; exact g4))) (gmFrN 4 (Or.inl (gm_kd ep5 (gmKtA (k := 55) (i := (σ 54 1)) gmKc_55 (by rw [gmLc_55]; exact g4))))) rfl (by decide +kernel) qr9 es19 d_k_makePart_163 ?_
        refine gm_ok (fun hOs19 => ?_)
        refine gm_aload hG 3 d_k_makePart_166 rfl ?_
        refine gm_iload hG 0 d_k_makePart_168 rfl ?_
        suffices hj : J φ s19 180 [(8, .inl 0), (7, .inl r11), (6, .inl r9), (5, .inr p5), (4, .inr p3), (0, .inr 54), (1, .inr 1), (2, .inl a1), (3, .inl a2)] [.inl r11, .inr p5] by
          refine gm_if_eq (tgt := 178) hG d_k_makePart_170 (by decide) (by decide) (fun _ => ?_) (fun q => absurd q (by decide))
          refine gm_iload hG 1 d_k_makePart_178 rfl ?_
          exact hj
        obtain ⟨s20, es20, h⟩ := gmL_of h
        refine gm_putI hG gmF_0_83 (gm_kd ep5 (gmKtA (k := 55) (i := (σ 54 1)) gmKc_55 (by rw [gmLc_55]; exact g4))) (gmFrN 3 (Or.inl (gm_kd ep5 (gmKtA (k := 55) (i := (σ 54 1)) gmKc_55 (by rw [gmLc_55]; exact g4))))) rfl (by decide +kernel) qr11 es20 d_k_makePart_180 ?_
        refine gm_ok (fun hOs20 => ?_)
        exact gm_vret' hF h d_k_makePart_183
      · replace h := gmI_neg c18 h
        refine gm_aload_n hG 4 d_k_makePart_131 rfl rfl ?_
        refine gm_iload hG 1 d_k_makePart_132 rfl ?_
        refine gm_iload hG 0 d_k_makePart_134 rfl ?_
        obtain ⟨r22, s21, es21, h⟩ := gmB_of h
        refine gm_callVi hG [.inl r9, .inl r11] [] gmM_0_89 (Wk_isBetterTurned qr9 qr11 es21) gmKc_54 rfl (by decide) (Nat.le_of_ble_eq_true rfl) rfl d_k_makePart_136 (fun qr22 => ?_)
        refine gm_ok (fun hOs21 => ?_)
        suffices hj : J φ s21 147 [(7, .inl r11), (6, .inl r9), (5, .inr p5), (4, .inr p3), (0, .inr 54), (1, .inr 1), (2, .inl a1), (3, .inl a2)] [.inl (if r22 = 0 then 0 else 1)] by
          refine gm_if_eq (tgt := 146) hG d_k_makePart_139 (by decide) qr22 (fun c23 => ?_) (fun c23 => ?_)
          · replace hj := gmJ_pos c23 hj
            refine gm_iconst hG d_k_makePart_146 ?_
            exact hj
          · replace hj := gmJ_neg c23 hj
            refine gm_iconst hG d_k_makePart_142 ?_
            refine gm_goto (tgt := 147) hG d_k_makePart_143 (by decide) ?_
            exact hj
        obtain ⟨x24, ex24, h⟩ := gmL_of h
        refine gm_top ex24 ?_
        refine gm_istore (lv' := [(8, .inl x24), (7, .inl r11), (6, .inl r9), (5, .inr p5), (4, .inr p3), (0, .inr 54), (1, .inr 1), (2, .inl a1), (3, .inl a2)]) hG d_k_makePart_147 (by decide) rfl ?_
        refine gm_aload hG 3 d_k_makePart_149 rfl ?_
        refine gm_iload hG 0 d_k_makePart_151 rfl ?_
        suffices hj : J φ s21 163 [(8, .inl x24), (7, .inl r11), (6, .inl r9), (5, .inr p5), (4, .inr p3), (0, .inr 54), (1, .inr 1), (2, .inl a1), (3, .inl a2)] [.inl (if x24 = 0 then r9 else r11), .inr p5] by
          refine gm_if_eq (tgt := 161) hG d_k_makePart_153 (by decide) (gm_kr ex24 (gmR_ite (fun c23 => (by decide)) (fun c23 => (by decide)))) (fun c25 => ?_) (fun c25 => ?_)
          · replace hj := gmJ_pos c25 hj
            refine gm_iload hG 2 d_k_makePart_161 rfl ?_
            exact hj
          · replace hj := gmJ_neg c25 hj
            refine gm_iload hG 1 d_k_makePart_156 rfl ?_
            refine gm_goto (tgt := 163) hG d_k_makePart_158 (by decide) ?_
            exact hj
        obtain ⟨s26, es26, h⟩ := gmL_of h
        refine gm_putI hG gmF_0_80 (gm_kd ep5 (gmKtA (k := 55) (i := (σ 54 1)) gmKc_55 (by rw [gmLc_55]; exact g4))) (gmFrN 4 (Or.inl (gm_kd ep5 (gmKtA (k := 55) (i := (σ 54 1)) gmKc_55 (by rw [gmLc_55]; exact g4))))) rfl (by decide +kernel) (gmR_ite (fun c25 => qr9) (fun c25 => qr11)) es26 d_k_makePart_163 ?_
        refine gm_ok (fun hOs26 => ?_)
        refine gm_aload hG 3 d_k_makePart_166 rfl ?_
        refine gm_iload hG 0 d_k_makePart_168 rfl ?_
        suffices hj : J φ s26 180 [(8, .inl x24), (7, .inl r11), (6, .inl r9), (5, .inr p5), (4, .inr p3), (0, .inr 54), (1, .inr 1), (2, .inl a1), (3, .inl a2)] [.inl (if x24 = 0 then r11 else r9), .inr p5] by
          refine gm_if_eq (tgt := 178) hG d_k_makePart_170 (by decide) (gm_kr ex24 (gmR_ite (fun c23 => (by decide)) (fun c23 => (by decide)))) (fun c27 => ?_) (fun c27 => ?_)
          · replace hj := gmJ_pos c27 hj
            refine gm_iload hG 1 d_k_makePart_178 rfl ?_
            exact hj
          · replace hj := gmJ_neg c27 hj
            refine gm_iload hG 2 d_k_makePart_173 rfl ?_
            refine gm_goto (tgt := 180) hG d_k_makePart_175 (by decide) ?_
            exact hj
        obtain ⟨s28, es28, h⟩ := gmL_of h
        refine gm_putI hG gmF_0_83 (gm_kd ep5 (gmKtA (k := 55) (i := (σ 54 1)) gmKc_55 (by rw [gmLc_55]; exact g4))) (gmFrN 3 (Or.inl (gm_kd ep5 (gmKtA (k := 55) (i := (σ 54 1)) gmKc_55 (by rw [gmLc_55]; exact g4))))) rfl (by decide +kernel) (gmR_ite (fun c27 => qr11) (fun c27 => qr9)) es28 d_k_makePart_180 ?_
        refine gm_ok (fun hOs28 => ?_)
        exact gm_vret' hF h d_k_makePart_183
    · replace h := gmI_neg c17 h
      refine gm_aload hG 2 d_k_makePart_103 rfl ?_
      refine gm_iload hG 1 d_k_makePart_105 rfl ?_
      refine gm_iconst hG d_k_makePart_107 ?_
      refine gm_iadd hG d_k_makePart_108 ?_
      refine gm_iconst hG d_k_makePart_109 ?_
      obtain ⟨g29, h⟩ := gmG_of h
      refine gm_idiv hG d_k_makePart_110 g29 (by decide) (fun _ => ?_)
      obtain ⟨s30, es30, h⟩ := gmL_of h
      refine gm_putI hG gmF_0_80 (gm_kd ep5 (gmKtA (k := 55) (i := (σ 54 1)) gmKc_55 (by rw [gmLc_55]; exact g4))) (gmFrN 4 (Or.inl (gm_kd ep5 (gmKtA (k := 55) (i := (σ 54 1)) gmKc_55 (by rw [gmLc_55]; exact g4))))) rfl (by decide +kernel) (gm_kdiv g29 (by decide)) es30 d_k_makePart_111 ?_
      refine gm_ok (fun hOs30 => ?_)
      refine gm_aload hG 2 d_k_makePart_114 rfl ?_
      refine gm_iload hG 0 d_k_makePart_116 rfl ?_
      obtain ⟨s31, es31, h⟩ := gmL_of h
      refine gm_putI hG gmF_0_83 (gm_kd ep5 (gmKtA (k := 55) (i := (σ 54 1)) gmKc_55 (by rw [gmLc_55]; exact g4))) (gmFrN 3 (Or.inl (gm_kd ep5 (gmKtA (k := 55) (i := (σ 54 1)) gmKc_55 (by rw [gmLc_55]; exact g4))))) rfl (by decide +kernel) qr11 es31 d_k_makePart_118 ?_
      refine gm_ok (fun hOs31 => ?_)
      refine gm_goto (tgt := 183) hG d_k_makePart_121 (by decide) ?_
      exact gm_vret' hF h d_k_makePart_183
  · replace h := gmI_neg c1 h
    exact gm_vret' hF h d_k_makePart_9
def Fk_makeGarment_45 : Nat → Int → Int → Int → Int → St → (St → Option St) → Option St
  | 0, _, _, _, _, _, _ => none
  | n + 1, y2, y3, y4, y5, σ, k => if y4 ≤ y5 then k σ else gmBv (Fk_makePart y2 y3 σ) (fun s8 => gmG (gmR (y5 + 1)) (Fk_makeGarment_45 n y2 y3 y4 (y5 + 1) s8 k))
def Fk_makeGarment_2 : Nat → Int → Int → St → (St → Option St) → Option St
  | 0, _, _, _, _ => none
  | n + 1, y2, y3, σ, k => if 6 ≤ y3 then k σ else gmG (0 ≤ y3 ∧ y3 < 6) (if (σ (gmTg 2 (y3).toNat) 0) = 0 then gmG (gmR (y3 + 1)) (Fk_makeGarment_2 n y2 (y3 + 1) σ k) else gmL ((if (σ 1 6) = 0 then (σ (gmTg 2 (y3).toNat) 5) else 1) : Int) (fun x6 => Fk_makeGarment_45 gmN y2 y3 x6 0 σ (fun s10 => gmG (gmR (y3 + 1)) (Fk_makeGarment_2 n y2 (y3 + 1) s10 k))))
def Fk_makeGarment (a1 : Int) (σ : St) : Option St := Fk_makeGarment_2 gmN a1 0 σ (fun s12 => some s12)
set_option maxRecDepth 100000 in
set_option maxHeartbeats 4000000 in
theorem Wk_makeGarment_45 {φ : Fx} {rs : St} (hG : Good φ "GarmentMarker$Marker" prog_2_method_3_code 6 2 50) (hF : FinV φ prog_2_method_3_code rs) : ∀ (n : Nat) {y2 : Int} {y3 : Int} {y4 : Int} {y5 : Int} {σ : St} {k : St → Option St}, gmR y2 → gmR y3 → gmR y4 → gmR y5 → Fk_makeGarment_45 n y2 y3 y4 y5 σ k = some rs → (∀ {τ : St}, k τ = some rs → J φ τ 65 [(0, .inr 54), (1, .inr 1), (2, .inl y2), (3, .inl y3)] []) → J φ σ 45 [(0, .inr 54), (1, .inr 1), (2, .inl y2), (3, .inl y3), (4, .inl y4), (5, .inl y5)] [] := by
  intro n
  induction n with
  | zero =>
    intro _ _ _ _ _ _ _ _ _ _ h
    exact absurd h (by rw [Fk_makeGarment_45.eq_1]; exact fun q => by cases q)
  | succ n ih =>
    intro y2 y3 y4 y5 σ k r2 r3 r4 r5 h hk
    rw [Fk_makeGarment_45.eq_2] at h
    refine gm_ok (fun hO => ?_)
    refine gm_iload hG 5 d_k_makeGarment_45 rfl ?_
    refine gm_iload hG 4 d_k_makeGarment_47 rfl ?_
    refine gm_icmp_ge (tgt := 65) hG d_k_makeGarment_49 (by decide) r5 r4 (fun c7 => ?_) (fun c7 => ?_)
    · replace h := gmI_pos c7 h
      refine gm_sub [0, 1, 2, 3] rfl ?_
      exact hk h
    · replace h := gmI_neg c7 h
      refine gm_aload_n hG 0 d_k_makeGarment_52 rfl rfl ?_
      refine gm_aload_n hG 1 d_k_makeGarment_53 rfl rfl ?_
      refine gm_iload_n hG 2 d_k_makeGarment_54 rfl rfl ?_
      refine gm_iload_n hG 3 d_k_makeGarment_55 rfl rfl ?_
      obtain ⟨s8, es8, h⟩ := gmBv_of h
      refine gm_callVv hG [.inr 1, .inl y2, .inl y3] [] gmM_0_63 (Wk_makePart r2 r3 es8) gmKc_54 rfl (by decide) (Nat.le_of_ble_eq_true rfl) rfl d_k_makeGarment_56 ?_
      refine gm_ok (fun hOs8 => ?_)
      refine gm_iinc (lv' := [(5, .inl (y5 + 1)), (0, .inr 54), (1, .inr 1), (2, .inl y2), (3, .inl y3), (4, .inl y4)]) hG 5 d_k_makeGarment_59 rfl (by decide) rfl ?_
      refine gm_goto (tgt := 45) hG d_k_makeGarment_62 (by decide) ?_
      obtain ⟨g9, h⟩ := gmG_of h
      refine gm_sub [1, 2, 3, 4, 5, 0] rfl ?_
      exact ih r2 r3 r4 g9 h hk
set_option maxRecDepth 100000 in
set_option maxHeartbeats 4000000 in
theorem Wk_makeGarment_2 {φ : Fx} {rs : St} (hG : Good φ "GarmentMarker$Marker" prog_2_method_3_code 6 2 50) (hF : FinV φ prog_2_method_3_code rs) : ∀ (n : Nat) {y2 : Int} {y3 : Int} {σ : St} {k : St → Option St}, gmR y2 → gmR y3 → Fk_makeGarment_2 n y2 y3 σ k = some rs → (∀ {τ : St}, k τ = some rs → J φ τ 71 [] []) → J φ σ 2 [(0, .inr 54), (1, .inr 1), (2, .inl y2), (3, .inl y3)] [] := by
  intro n
  induction n with
  | zero =>
    intro _ _ _ _ _ _ h
    exact absurd h (by rw [Fk_makeGarment_2.eq_1]; exact fun q => by cases q)
  | succ n ih =>
    intro y2 y3 σ k r2 r3 h hk
    rw [Fk_makeGarment_2.eq_2] at h
    refine gm_ok (fun hO => ?_)
    refine gm_iload_n hG 3 d_k_makeGarment_2 rfl rfl ?_
    refine gm_bipush hG d_k_makeGarment_3 (by decide) ?_
    refine gm_icmp_ge (tgt := 71) hG d_k_makeGarment_5 (by decide) r3 (by decide) (fun c1 => ?_) (fun c1 => ?_)
    · replace h := gmI_pos c1 h
      refine gm_sub [] rfl ?_
      exact hk h
    · replace h := gmI_neg c1 h
      refine gm_aload_n hG 1 d_k_makeGarment_8 rfl rfl ?_
      refine gm_getR (t := 2) hG gmF_0_51 gmKc_1 rfl d_k_makeGarment_9 ?_
      refine gm_iload_n hG 3 d_k_makeGarment_12 rfl rfl ?_
      obtain ⟨g2, h⟩ := gmG_of h
      refine gm_aald (t := (y3).toNat) hG 2 gmKc_2 (by decide) (by decide) rfl gmLc_2 g2 rfl d_k_makeGarment_13 ?_
      refine gm_getI hG gmF_0_55 (gmKtP (k := 2) (i := y3) gmKc_2 (by rw [gmLc_2]; exact g2)) (gmFrN 0 (Or.inr (Or.inl (gmKtP (k := 2) (i := y3) gmKc_2 (by rw [gmLc_2]; exact g2))))) d_k_makeGarment_14 (fun _ => ?_)
      refine gm_if_eq (tgt := 65) hG d_k_makeGarment_17 (by decide) (hO (gmTg 2 (y3).toNat) 0) (fun c3 => ?_) (fun c3 => ?_)
      · replace h := gmI_pos c3 h
        refine gm_iinc (lv' := [(3, .inl (y3 + 1)), (0, .inr 54), (1, .inr 1), (2, .inl y2)]) hG 3 d_k_makeGarment_65 rfl (by decide) rfl ?_
        refine gm_goto (tgt := 2) hG d_k_makeGarment_68 (by decide) ?_
        obtain ⟨g4, h⟩ := gmG_of h
        refine gm_sub [1, 2, 3, 0] rfl ?_
        exact ih r2 g4 h hk
      · replace h := gmI_neg c3 h
        refine gm_aload_n hG 1 d_k_makeGarment_20 rfl rfl ?_
        refine gm_getI hG gmF_0_31 gmKc_1 rfl d_k_makeGarment_21 (fun _ => ?_)
        suffices hj : J φ σ 40 [(0, .inr 54), (1, .inr 1), (2, .inl y2), (3, .inl y3)] [.inl (if (σ 1 6) = 0 then (σ (gmTg 2 (y3).toNat) 5) else 1)] by
          refine gm_if_eq (tgt := 31) hG d_k_makeGarment_24 (by decide) (hO 1 6) (fun c5 => ?_) (fun c5 => ?_)
          · replace hj := gmJ_pos c5 hj
            refine gm_aload_n hG 1 d_k_makeGarment_31 rfl rfl ?_
            refine gm_getR (t := 2) hG gmF_0_51 gmKc_1 rfl d_k_makeGarment_32 ?_
            refine gm_iload_n hG 3 d_k_makeGarment_35 rfl rfl ?_
            refine gm_aald (t := (y3).toNat) hG 2 gmKc_2 (by decide) (by decide) rfl gmLc_2 g2 rfl d_k_makeGarment_36 ?_
            refine gm_getI hG gmF_0_60 (gmKtP (k := 2) (i := y3) gmKc_2 (by rw [gmLc_2]; exact g2)) (gmFrN 5 (Or.inr (Or.inl (gmKtP (k := 2) (i := y3) gmKc_2 (by rw [gmLc_2]; exact g2))))) d_k_makeGarment_37 (fun _ => ?_)
            exact hj
          · replace hj := gmJ_neg c5 hj
            refine gm_iconst hG d_k_makeGarment_27 ?_
            refine gm_goto (tgt := 40) hG d_k_makeGarment_28 (by decide) ?_
            exact hj
        obtain ⟨x6, ex6, h⟩ := gmL_of h
        refine gm_top ex6 ?_
        refine gm_istore (lv' := [(4, .inl x6), (0, .inr 54), (1, .inr 1), (2, .inl y2), (3, .inl y3)]) hG d_k_makeGarment_40 (by decide) rfl ?_
        refine gm_iconst hG d_k_makeGarment_42 ?_
        refine gm_istore (lv' := [(5, .inl 0), (4, .inl x6), (0, .inr 54), (1, .inr 1), (2, .inl y2), (3, .inl y3)]) hG d_k_makeGarment_43 (by decide) rfl ?_
        refine gm_sub [2, 3, 4, 5, 1, 0] rfl ?_
        refine Wk_makeGarment_45 hG hF gmN r2 r3 (gm_kr ex6 (gmR_ite (fun c5 => (hO (gmTg 2 (y3).toNat) 5)) (fun c5 => (by decide)))) (by decide) h (fun  {s10}  h => ?_)
        refine gm_ok (fun hOs10 => ?_)
        refine gm_iinc (lv' := [(3, .inl (y3 + 1)), (0, .inr 54), (1, .inr 1), (2, .inl y2)]) hG 3 d_k_makeGarment_65 rfl (by decide) rfl ?_
        refine gm_goto (tgt := 2) hG d_k_makeGarment_68 (by decide) ?_
        obtain ⟨g11, h⟩ := gmG_of h
        refine gm_sub [1, 2, 3, 0] rfl ?_
        exact ih r2 g11 h hk
set_option maxRecDepth 100000 in
set_option maxHeartbeats 4000000 in
theorem Wk_makeGarment {a1 : Int} {σ : St} {rs : St} (ra1 : gmR a1) (h : Fk_makeGarment a1 σ = some rs) : Ctr gmY0_makeGarment prog_2_method_3_code 6 none 2 50 [.inr 54, .inr 1, .inl a1] σ none rs := by
  refine Ctr.ofV (own := "GarmentMarker$Marker") (by decide +kernel) rfl (Nat.le_of_ble_eq_true rfl) (fun φ hG hF => ?_)
  unfold Fk_makeGarment at h
  refine gm_lv (l2 := [(0, .inr 54), (1, .inr 1), (2, .inl a1)]) rfl ?_
  refine gm_ok (fun hO => ?_)
  refine gm_iconst hG d_k_makeGarment_0 ?_
  refine gm_istore_n (lv' := [(3, .inl 0), (0, .inr 54), (1, .inr 1), (2, .inl a1)]) hG d_k_makeGarment_1 rfl (by decide) rfl ?_
  refine gm_sub [1, 2, 3, 0] rfl ?_
  refine Wk_makeGarment_2 hG hF gmN ra1 (by decide) h (fun  {s12}  h => ?_)
  refine gm_ok (fun hOs12 => ?_)
  exact gm_vret' hF h d_k_makeGarment_71
def Fk_makeParts_39 : Nat → Nat → Int → Int → St → (St → Option St) → Option St
  | 0, _, _, _, _, _ => none
  | n + 1, y2, y3, y4, σ, k => gmG (0 ≤ y3 ∧ y3 < (gmLn y2 : Int)) (if (σ y2 (y3).toNat) ≤ y4 then k σ else gmBv (Fk_makeGarment y3 σ) (fun s8 => gmG (gmR (y4 + 1)) (Fk_makeParts_39 n y2 y3 (y4 + 1) s8 k)))
def Fk_makeParts_31 : Nat → Nat → Int → St → (St → Option St) → Option St
  | 0, _, _, _, _ => none
  | n + 1, y2, y3, σ, k => if 3 ≤ y3 then k σ else Fk_makeParts_39 gmN y2 y3 0 σ (fun s10 => gmG (gmR (y3 + 1)) (Fk_makeParts_31 n y2 (y3 + 1) s10 k))
def Fk_makeParts (k2 : Nat) (σ : St) : Option St := gmG ((¬ (σ 1 6) = 0) → 0 ≤ (σ 1 5) ∧ (σ 1 5) < 2147483648) (gmL (gmUp σ 54 2 (if (σ 1 6) = 0 then (σ 1 5) else ((σ 1 5) / 2))) (fun s3 => gmL (gmUp s3 54 1 0) (fun s4 => Fk_makeParts_31 gmN k2 0 s4 (fun s12 => some s12))))
set_option maxRecDepth 100000 in
set_option maxHeartbeats 4000000 in
theorem Wk_makeParts_39 {φ : Fx} {rs : St} (hG : Good φ "GarmentMarker$Marker" prog_2_method_2_code 5 3 75) (hF : FinV φ prog_2_method_2_code rs) : ∀ (n : Nat) {y2 : Nat} {y3 : Int} {y4 : Int} {σ : St} {k : St → Option St}, gmKd y2 = 10 → gmR y3 → gmR y4 → Fk_makeParts_39 n y2 y3 y4 σ k = some rs → (∀ {τ : St}, k τ = some rs → J φ τ 59 [(0, .inr 54), (1, .inr 1), (2, .inr y2), (3, .inl y3)] []) → J φ σ 39 [(0, .inr 54), (1, .inr 1), (2, .inr y2), (3, .inl y3), (4, .inl y4)] [] := by
  intro n
  induction n with
  | zero =>
    intro _ _ _ _ _ _ _ _ h
    exact absurd h (by rw [Fk_makeParts_39.eq_1]; exact fun q => by cases q)
  | succ n ih =>
    intro y2 y3 y4 σ k r2 r3 r4 h hk
    rw [Fk_makeParts_39.eq_2] at h
    refine gm_ok (fun hO => ?_)
    refine gm_iload hG 4 d_k_makeParts_39 rfl ?_
    refine gm_aload_n hG 2 d_k_makeParts_41 rfl rfl ?_
    refine gm_iload_n hG 3 d_k_makeParts_42 rfl rfl ?_
    obtain ⟨g6, h⟩ := gmG_of h
    refine gm_iald (t := (y3).toNat) hG r2 rfl g6 rfl d_k_makeParts_43 (fun _ => ?_)
    refine gm_icmp_ge (tgt := 59) hG d_k_makeParts_44 (by decide) r4 (hO y2 (y3).toNat) (fun c7 => ?_) (fun c7 => ?_)
    · replace h := gmI_pos c7 h
      refine gm_sub [0, 1, 2, 3] rfl ?_
      exact hk h
    · replace h := gmI_neg c7 h
      refine gm_aload_n hG 0 d_k_makeParts_47 rfl rfl ?_
      refine gm_aload_n hG 1 d_k_makeParts_48 rfl rfl ?_
      refine gm_iload_n hG 3 d_k_makeParts_49 rfl rfl ?_
      obtain ⟨s8, es8, h⟩ := gmBv_of h
      refine gm_callVv hG [.inr 1, .inl y3] [] gmM_0_47 (Wk_makeGarment r3 es8) gmKc_54 rfl (by decide) (Nat.le_of_ble_eq_true rfl) rfl d_k_makeParts_50 ?_
      refine gm_ok (fun hOs8 => ?_)
      refine gm_iinc (lv' := [(4, .inl (y4 + 1)), (0, .inr 54), (1, .inr 1), (2, .inr y2), (3, .inl y3)]) hG 4 d_k_makeParts_53 rfl (by decide) rfl ?_
      refine gm_goto (tgt := 39) hG d_k_makeParts_56 (by decide) ?_
      obtain ⟨g9, h⟩ := gmG_of h
      refine gm_sub [1, 2, 3, 4, 0] rfl ?_
      exact ih r2 r3 g9 h hk
set_option maxRecDepth 100000 in
set_option maxHeartbeats 4000000 in
theorem Wk_makeParts_31 {φ : Fx} {rs : St} (hG : Good φ "GarmentMarker$Marker" prog_2_method_2_code 5 3 75) (hF : FinV φ prog_2_method_2_code rs) : ∀ (n : Nat) {y2 : Nat} {y3 : Int} {σ : St} {k : St → Option St}, gmKd y2 = 10 → gmR y3 → Fk_makeParts_31 n y2 y3 σ k = some rs → (∀ {τ : St}, k τ = some rs → J φ τ 65 [] []) → J φ σ 31 [(0, .inr 54), (1, .inr 1), (2, .inr y2), (3, .inl y3)] [] := by
  intro n
  induction n with
  | zero =>
    intro _ _ _ _ _ _ h
    exact absurd h (by rw [Fk_makeParts_31.eq_1]; exact fun q => by cases q)
  | succ n ih =>
    intro y2 y3 σ k r2 r3 h hk
    rw [Fk_makeParts_31.eq_2] at h
    refine gm_ok (fun hO => ?_)
    refine gm_iload_n hG 3 d_k_makeParts_31 rfl rfl ?_
    refine gm_iconst hG d_k_makeParts_32 ?_
    refine gm_icmp_ge (tgt := 65) hG d_k_makeParts_33 (by decide) r3 (by decide) (fun c5 => ?_) (fun c5 => ?_)
    · replace h := gmI_pos c5 h
      refine gm_sub [] rfl ?_
      exact hk h
    · replace h := gmI_neg c5 h
      refine gm_iconst hG d_k_makeParts_36 ?_
      refine gm_istore (lv' := [(4, .inl 0), (0, .inr 54), (1, .inr 1), (2, .inr y2), (3, .inl y3)]) hG d_k_makeParts_37 (by decide) rfl ?_
      refine gm_sub [1, 2, 3, 4, 0] rfl ?_
      refine Wk_makeParts_39 hG hF gmN r2 r3 (by decide) h (fun  {s10}  h => ?_)
      refine gm_ok (fun hOs10 => ?_)
      refine gm_iinc (lv' := [(3, .inl (y3 + 1)), (0, .inr 54), (1, .inr 1), (2, .inr y2)]) hG 3 d_k_makeParts_59 rfl (by decide) rfl ?_
      refine gm_goto (tgt := 31) hG d_k_makeParts_62 (by decide) ?_
      obtain ⟨g11, h⟩ := gmG_of h
      refine gm_sub [1, 2, 3, 0] rfl ?_
      exact ih r2 g11 h hk
set_option maxRecDepth 100000 in
set_option maxHeartbeats 4000000 in
theorem Wk_makeParts {k2 : Nat} {σ : St} {rs : St} (hk2 : gmKd k2 = 10) (h : Fk_makeParts k2 σ = some rs) : Ctr gmY0_makeParts prog_2_method_2_code 5 none 3 75 [.inr 54, .inr 1, .inr k2] σ none rs := by
  refine Ctr.ofV (own := "GarmentMarker$Marker") (by decide +kernel) rfl (Nat.le_of_ble_eq_true rfl) (fun φ hG hF => ?_)
  unfold Fk_makeParts at h
  refine gm_lv (l2 := [(0, .inr 54), (1, .inr 1), (2, .inr k2)]) rfl ?_
  refine gm_ok (fun hO => ?_)
  refine gm_aload_n hG 0 d_k_makeParts_0 rfl rfl ?_
  refine gm_aload_n hG 1 d_k_makeParts_1 rfl rfl ?_
  refine gm_getI hG gmF_0_31 gmKc_1 rfl d_k_makeParts_2 (fun _ => ?_)
  obtain ⟨g2, h⟩ := gmG_of h
  suffices hj : J φ σ 21 [(0, .inr 54), (1, .inr 1), (2, .inr k2)] [.inl (if (σ 1 6) = 0 then (σ 1 5) else ((σ 1 5) / 2)), .inr 54] by
    refine gm_if_eq (tgt := 17) hG d_k_makeParts_5 (by decide) (hO 1 6) (fun c1 => ?_) (fun c1 => ?_)
    · replace hj := gmJ_pos c1 hj
      refine gm_aload_n hG 1 d_k_makeParts_17 rfl rfl ?_
      refine gm_getI hG gmF_0_37 gmKc_1 rfl d_k_makeParts_18 (fun _ => ?_)
      exact hj
    · replace hj := gmJ_neg c1 hj
      refine gm_aload_n hG 1 d_k_makeParts_8 rfl rfl ?_
      refine gm_getI hG gmF_0_37 gmKc_1 rfl d_k_makeParts_9 (fun _ => ?_)
      refine gm_iconst hG d_k_makeParts_12 ?_
      refine gm_idiv hG d_k_makeParts_13 (g2 c1) (by decide) (fun _ => ?_)
      refine gm_goto (tgt := 21) hG d_k_makeParts_14 (by decide) ?_
      exact hj
  obtain ⟨s3, es3, h⟩ := gmL_of h
  refine gm_putI hG gmF_0_41 gmKc_54 rfl rfl (by decide +kernel) (gmR_ite (fun c1 => (hO 1 5)) (fun c1 => (gm_kdiv (g2 c1) (by decide)))) es3 d_k_makeParts_21 ?_
  refine gm_ok (fun hOs3 => ?_)
  refine gm_aload_n hG 0 d_k_makeParts_24 rfl rfl ?_
  refine gm_iconst hG d_k_makeParts_25 ?_
  obtain ⟨s4, es4, h⟩ := gmL_of h
  refine gm_putI hG gmF_0_44 gmKc_54 rfl rfl (by decide +kernel) (by decide) es4 d_k_makeParts_26 ?_
  refine gm_ok (fun hOs4 => ?_)
  refine gm_iconst hG d_k_makeParts_29 ?_
  refine gm_istore_n (lv' := [(3, .inl 0), (0, .inr 54), (1, .inr 1), (2, .inr k2)]) hG d_k_makeParts_30 rfl (by decide) rfl ?_
  refine gm_sub [1, 2, 3, 0] rfl ?_
  refine Wk_makeParts_31 hG hF gmN hk2 (by decide) h (fun  {s12}  h => ?_)
  refine gm_ok (fun hOs12 => ?_)
  exact gm_vret' hF h d_k_makeParts_65
def Fx_isWithin (a0 : Int) (a1 : Int) (a2 : Int) (σ : St) : Option (Int × St) := some ((if a0 < a1 then 0 else (if a2 < a0 then 0 else 1)), σ)
set_option maxRecDepth 100000 in
set_option maxHeartbeats 4000000 in
theorem Wx_isWithin {a0 : Int} {a1 : Int} {a2 : Int} {σ : St} {rv : Int} {rs : St} (ra0 : gmR a0) (ra1 : gmR a1) (ra2 : gmR a2) (h : Fx_isWithin a0 a1 a2 σ = some (rv, rs)) : Ctr gmY5_isWithin prog_1_method_40_code 3 (some .boolean) 0 0 [.inl a0, .inl a1, .inl a2] σ (some rv) rs := by
  refine Ctr.ofZ (own := "GarmentMarker") (by decide +kernel) rfl (Nat.le_of_ble_eq_true rfl) (fun φ hG hF => ?_)
  unfold Fx_isWithin at h
  refine gm_lv (l2 := [(0, .inl a0), (1, .inl a1), (2, .inl a2)]) rfl ?_
  refine gm_ok (fun hO => ?_)
  refine gm_iload_n hG 0 d_x_isWithin_0 rfl rfl ?_
  refine gm_iload_n hG 1 d_x_isWithin_1 rfl rfl ?_
  suffices hj : J φ σ 15 [(0, .inl a0), (1, .inl a1), (2, .inl a2)] [.inl (if a0 < a1 then 0 else (if a2 < a0 then 0 else 1))] by
    refine gm_icmp_lt (tgt := 14) hG d_x_isWithin_2 (by decide) ra0 ra1 (fun c1 => ?_) (fun c1 => ?_)
    · replace hj := gmJ_pos c1 hj
      refine gm_iconst hG d_x_isWithin_14 ?_
      exact hj
    · replace hj := gmJ_neg c1 hj
      refine gm_iload_n hG 0 d_x_isWithin_5 rfl rfl ?_
      refine gm_iload_n hG 2 d_x_isWithin_6 rfl rfl ?_
      refine gm_icmp_gt (tgt := 14) hG d_x_isWithin_7 (by decide) ra0 ra2 (fun c2 => ?_) (fun c2 => ?_)
      · replace hj := gmJ_pos c2 hj
        refine gm_iconst hG d_x_isWithin_14 ?_
        exact hj
      · replace hj := gmJ_neg c2 hj
        refine gm_iconst hG d_x_isWithin_10 ?_
        refine gm_goto (tgt := 15) hG d_x_isWithin_11 (by decide) ?_
        exact hj
  exact gm_zret' hF h (gmZ_ite (fun c1 => (Or.inl rfl)) (fun c1 => (gmZ_ite (fun c2 => (Or.inl rfl)) (fun c2 => (Or.inr rfl))))) d_x_isWithin_15
def Fk_has (a0 : Int) (σ : St) : Option (Int × St) := gmG (gmR ((σ 54 1) - 1)) (gmB (Fx_isWithin a0 0 ((σ 54 1) - 1) σ) (fun r3 s2 => gmG (r3 = 0 ∨ r3 = 1) (some (r3, s2))))
set_option maxRecDepth 100000 in
set_option maxHeartbeats 4000000 in
theorem Wk_has {a0 : Int} {σ : St} {rv : Int} {rs : St} (ra0 : gmR a0) (h : Fk_has a0 σ = some (rv, rs)) : Ctr gmY0_has prog_2_method_6_code 2 (some .boolean) 1 22 [.inr 54, .inl a0] σ (some rv) rs := by
  refine Ctr.ofZ (own := "GarmentMarker$Marker") (by decide +kernel) rfl (Nat.le_of_ble_eq_true rfl) (fun φ hG hF => ?_)
  unfold Fk_has at h
  refine gm_lv (l2 := [(0, .inr 54), (1, .inl a0)]) rfl ?_
  refine gm_ok (fun hO => ?_)
  refine gm_iload_n hG 1 d_k_has_0 rfl rfl ?_
  refine gm_iconst hG d_k_has_1 ?_
  refine gm_aload_n hG 0 d_k_has_2 rfl rfl ?_
  refine gm_getI hG gmF_0_44 gmKc_54 rfl d_k_has_3 (fun _ => ?_)
  refine gm_iconst hG d_k_has_6 ?_
  refine gm_isub hG d_k_has_7 ?_
  obtain ⟨g1, h⟩ := gmG_of h
  obtain ⟨r3, s2, es2, h⟩ := gmB_of h
  refine gm_callNi hG [.inl a0, .inl 0, .inl ((σ 54 1) - 1)] [] gmM_0_93 (Wx_isWithin ra0 (by decide) g1 es2) rfl (by decide) (Nat.le_of_ble_eq_true rfl) rfl d_k_has_8 (fun qr3 => ?_)
  refine gm_ok (fun hOs2 => ?_)
  obtain ⟨g4, h⟩ := gmG_of h
  exact gm_zret' hF h g4 d_k_has_11
def Fk_foldParts_4 : Nat → Int → Int → St → (Int → St → Option (Int × St)) → Option (Int × St)
  | 0, _, _, _, _ => none
  | n + 1, y1, y2, σ, k => if (σ 54 1) ≤ y2 then k y1 σ else gmG (0 ≤ y2 ∧ y2 < 72) (if (σ (gmTg 55 (y2).toNat) 2) = 0 then gmG (gmR (y2 + 1)) (Fk_foldParts_4 n y1 (y2 + 1) σ k) else gmG (gmR (y1 + 1)) (gmG (gmR (y2 + 1)) (Fk_foldParts_4 n (y1 + 1) (y2 + 1) σ k)))
def Fk_foldParts (σ : St) : Option (Int × St) := Fk_foldParts_4 gmN 0 0 σ (fun x7 s8 => some (x7, s8))
set_option maxRecDepth 100000 in
set_option maxHeartbeats 4000000 in
theorem Wk_foldParts_4 {φ : Fx} {rv : Int} {rs : St} (hG : Good φ "GarmentMarker$Marker" prog_2_method_7_code 3 0 0) (hF : FinI φ prog_2_method_7_code rv rs) : ∀ (n : Nat) {y1 : Int} {y2 : Int} {σ : St} {k : Int → St → Option (Int × St)}, gmR y1 → gmR y2 → Fk_foldParts_4 n y1 y2 σ k = some (rv, rs) → (∀ {z1 : Int} {τ : St}, gmR z1 → k z1 τ = some (rv, rs) → J φ τ 33 [(1, .inl z1)] []) → J φ σ 4 [(0, .inr 54), (1, .inl y1), (2, .inl y2)] [] := by
  intro n
  induction n with
  | zero =>
    intro _ _ _ _ _ _ h
    exact absurd h (by rw [Fk_foldParts_4.eq_1]; exact fun q => by cases q)
  | succ n ih =>
    intro y1 y2 σ k r1 r2 h hk
    rw [Fk_foldParts_4.eq_2] at h
    refine gm_ok (fun hO => ?_)
    refine gm_iload_n hG 2 d_k_foldParts_4 rfl rfl ?_
    refine gm_aload_n hG 0 d_k_foldParts_5 rfl rfl ?_
    refine gm_getI hG gmF_0_44 gmKc_54 rfl d_k_foldParts_6 (fun _ => ?_)
    refine gm_icmp_ge (tgt := 33) hG d_k_foldParts_9 (by decide) r2 (hO 54 1) (fun c1 => ?_) (fun c1 => ?_)
    · replace h := gmI_pos c1 h
      refine gm_sub [1] rfl ?_
      exact hk r1 h
    · replace h := gmI_neg c1 h
      refine gm_aload_n hG 0 d_k_foldParts_12 rfl rfl ?_
      refine gm_getR (t := 55) hG gmF_0_11 gmKc_54 rfl d_k_foldParts_13 ?_
      refine gm_iload_n hG 2 d_k_foldParts_16 rfl rfl ?_
      obtain ⟨g2, h⟩ := gmG_of h
      refine gm_aald (t := (y2).toNat) hG 5 gmKc_55 (by decide) (by decide) rfl gmLc_55 g2 rfl d_k_foldParts_17 ?_
      refine gm_getI hG gmF_0_77 (gmKtA (k := 55) (i := y2) gmKc_55 (by rw [gmLc_55]; exact g2)) (gmFrN 2 (Or.inl (gmKtA (k := 55) (i := y2) gmKc_55 (by rw [gmLc_55]; exact g2)))) d_k_foldParts_18 (fun _ => ?_)
      refine gm_if_eq (tgt := 27) hG d_k_foldParts_21 (by decide) (hO (gmTg 55 (y2).toNat) 2) (fun c3 => ?_) (fun c3 => ?_)
      · replace h := gmI_pos c3 h
        refine gm_iinc (lv' := [(2, .inl (y2 + 1)), (0, .inr 54), (1, .inl y1)]) hG 2 d_k_foldParts_27 rfl (by decide) rfl ?_
        refine gm_goto (tgt := 4) hG d_k_foldParts_30 (by decide) ?_
        obtain ⟨g4, h⟩ := gmG_of h
        refine gm_sub [1, 2, 0] rfl ?_
        exact ih r1 g4 h hk
      · replace h := gmI_neg c3 h
        refine gm_iinc (lv' := [(1, .inl (y1 + 1)), (0, .inr 54), (2, .inl y2)]) hG 1 d_k_foldParts_24 rfl (by decide) rfl ?_
        refine gm_iinc (lv' := [(2, .inl (y2 + 1)), (1, .inl (y1 + 1)), (0, .inr 54)]) hG 2 d_k_foldParts_27 rfl (by decide) rfl ?_
        refine gm_goto (tgt := 4) hG d_k_foldParts_30 (by decide) ?_
        obtain ⟨g5, h⟩ := gmG_of h
        obtain ⟨g6, h⟩ := gmG_of h
        refine gm_sub [2, 1, 0] rfl ?_
        exact ih g5 g6 h hk
set_option maxRecDepth 100000 in
set_option maxHeartbeats 4000000 in
theorem Wk_foldParts {σ : St} {rv : Int} {rs : St} (h : Fk_foldParts σ = some (rv, rs)) : Ctr gmY0_foldParts prog_2_method_7_code 3 (some .int) 0 0 [.inr 54] σ (some rv) rs := by
  refine Ctr.ofI (own := "GarmentMarker$Marker") (by decide +kernel) rfl (Nat.le_of_ble_eq_true rfl) (fun φ hG hF => ?_)
  unfold Fk_foldParts at h
  refine gm_lv (l2 := [(0, .inr 54)]) rfl ?_
  refine gm_ok (fun hO => ?_)
  refine gm_iconst hG d_k_foldParts_0 ?_
  refine gm_istore_n (lv' := [(1, .inl 0), (0, .inr 54)]) hG d_k_foldParts_1 rfl (by decide) rfl ?_
  refine gm_iconst hG d_k_foldParts_2 ?_
  refine gm_istore_n (lv' := [(2, .inl 0), (1, .inl 0), (0, .inr 54)]) hG d_k_foldParts_3 rfl (by decide) rfl ?_
  refine gm_sub [2, 1, 0] rfl ?_
  refine Wk_foldParts_4 hG hF gmN (by decide) (by decide) h (fun {x7} {s8} qx7 h => ?_)
  refine gm_ok (fun hOs8 => ?_)
  refine gm_iload_n hG 0 d_k_foldParts_33 rfl rfl ?_
  exact gm_iret' hF h qx7 d_k_foldParts_34
def Fk_partsArea_4 : Nat → Int → Int → St → (Int → St → Option (Int × St)) → Option (Int × St)
  | 0, _, _, _, _ => none
  | n + 1, y1, y2, σ, k => if (σ 54 1) ≤ y2 then k y1 σ else gmG (0 ≤ y2 ∧ y2 < 72) (gmL ((y1 + ((σ (gmTg 55 (y2).toNat) 3) * (σ (gmTg 55 (y2).toNat) 4))) : Int) (fun x3 => gmG (gmR x3) (gmG (gmR (y2 + 1)) (Fk_partsArea_4 n x3 (y2 + 1) σ k))))
def Fk_partsArea (σ : St) : Option (Int × St) := Fk_partsArea_4 gmN 0 0 σ (fun x6 s7 => some (x6, s7))
set_option maxRecDepth 100000 in
set_option maxHeartbeats 4000000 in
theorem Wk_partsArea_4 {φ : Fx} {rv : Int} {rs : St} (hG : Good φ "GarmentMarker$Marker" prog_2_method_8_code 3 0 0) (hF : FinI φ prog_2_method_8_code rv rs) : ∀ (n : Nat) {y1 : Int} {y2 : Int} {σ : St} {k : Int → St → Option (Int × St)}, gmR y1 → gmR y2 → Fk_partsArea_4 n y1 y2 σ k = some (rv, rs) → (∀ {z1 : Int} {τ : St}, gmR z1 → k z1 τ = some (rv, rs) → J φ τ 40 [(1, .inl z1)] []) → J φ σ 4 [(0, .inr 54), (1, .inl y1), (2, .inl y2)] [] := by
  intro n
  induction n with
  | zero =>
    intro _ _ _ _ _ _ h
    exact absurd h (by rw [Fk_partsArea_4.eq_1]; exact fun q => by cases q)
  | succ n ih =>
    intro y1 y2 σ k r1 r2 h hk
    rw [Fk_partsArea_4.eq_2] at h
    refine gm_ok (fun hO => ?_)
    refine gm_iload_n hG 2 d_k_partsArea_4 rfl rfl ?_
    refine gm_aload_n hG 0 d_k_partsArea_5 rfl rfl ?_
    refine gm_getI hG gmF_0_44 gmKc_54 rfl d_k_partsArea_6 (fun _ => ?_)
    refine gm_icmp_ge (tgt := 40) hG d_k_partsArea_9 (by decide) r2 (hO 54 1) (fun c1 => ?_) (fun c1 => ?_)
    · replace h := gmI_pos c1 h
      refine gm_sub [1] rfl ?_
      exact hk r1 h
    · replace h := gmI_neg c1 h
      refine gm_iload_n hG 1 d_k_partsArea_12 rfl rfl ?_
      refine gm_aload_n hG 0 d_k_partsArea_13 rfl rfl ?_
      refine gm_getR (t := 55) hG gmF_0_11 gmKc_54 rfl d_k_partsArea_14 ?_
      refine gm_iload_n hG 2 d_k_partsArea_17 rfl rfl ?_
      obtain ⟨g2, h⟩ := gmG_of h
      refine gm_aald (t := (y2).toNat) hG 5 gmKc_55 (by decide) (by decide) rfl gmLc_55 g2 rfl d_k_partsArea_18 ?_
      refine gm_getI hG gmF_0_83 (gmKtA (k := 55) (i := y2) gmKc_55 (by rw [gmLc_55]; exact g2)) (gmFrN 3 (Or.inl (gmKtA (k := 55) (i := y2) gmKc_55 (by rw [gmLc_55]; exact g2)))) d_k_partsArea_19 (fun _ => ?_)
      refine gm_aload_n hG 0 d_k_partsArea_22 rfl rfl ?_
      refine gm_getR (t := 55) hG gmF_0_11 gmKc_54 rfl d_k_partsArea_23 ?_
      refine gm_iload_n hG 2 d_k_partsArea_26 rfl rfl ?_
      refine gm_aald (t := (y2).toNat) hG 5 gmKc_55 (by decide) (by decide) rfl gmLc_55 g2 rfl d_k_partsArea_27 ?_
      refine gm_getI hG gmF_0_80 (gmKtA (k := 55) (i := y2) gmKc_55 (by rw [gmLc_55]; exact g2)) (gmFrN 4 (Or.inl (gmKtA (k := 55) (i := y2) gmKc_55 (by rw [gmLc_55]; exact g2)))) d_k_partsArea_28 (fun _ => ?_)
      refine gm_imul hG d_k_partsArea_31 ?_
      refine gm_iadd hG d_k_partsArea_32 ?_
      obtain ⟨x3, ex3, h⟩ := gmL_of h
      refine gm_top ex3 ?_
      refine gm_istore_n (lv' := [(1, .inl x3), (0, .inr 54), (2, .inl y2)]) hG d_k_partsArea_33 rfl (by decide) rfl ?_
      refine gm_iinc (lv' := [(2, .inl (y2 + 1)), (1, .inl x3), (0, .inr 54)]) hG 2 d_k_partsArea_34 rfl (by decide) rfl ?_
      refine gm_goto (tgt := 4) hG d_k_partsArea_37 (by decide) ?_
      obtain ⟨g4, h⟩ := gmG_of h
      obtain ⟨g5, h⟩ := gmG_of h
      refine gm_sub [2, 1, 0] rfl ?_
      exact ih g4 g5 h hk
set_option maxRecDepth 100000 in
set_option maxHeartbeats 4000000 in
theorem Wk_partsArea {σ : St} {rv : Int} {rs : St} (h : Fk_partsArea σ = some (rv, rs)) : Ctr gmY0_partsArea prog_2_method_8_code 3 (some .int) 0 0 [.inr 54] σ (some rv) rs := by
  refine Ctr.ofI (own := "GarmentMarker$Marker") (by decide +kernel) rfl (Nat.le_of_ble_eq_true rfl) (fun φ hG hF => ?_)
  unfold Fk_partsArea at h
  refine gm_lv (l2 := [(0, .inr 54)]) rfl ?_
  refine gm_ok (fun hO => ?_)
  refine gm_iconst hG d_k_partsArea_0 ?_
  refine gm_istore_n (lv' := [(1, .inl 0), (0, .inr 54)]) hG d_k_partsArea_1 rfl (by decide) rfl ?_
  refine gm_iconst hG d_k_partsArea_2 ?_
  refine gm_istore_n (lv' := [(2, .inl 0), (1, .inl 0), (0, .inr 54)]) hG d_k_partsArea_3 rfl (by decide) rfl ?_
  refine gm_sub [2, 1, 0] rfl ?_
  refine Wk_partsArea_4 hG hF gmN (by decide) (by decide) h (fun {x6} {s7} qx6 h => ?_)
  refine gm_ok (fun hOs7 => ?_)
  refine gm_iload_n hG 0 d_k_partsArea_40 rfl rfl ?_
  exact gm_iret' hF h qx6 d_k_partsArea_41
def Fk_hasLayout_2 : Nat → Int → St → (St → Option (Int × St)) → Option (Int × St)
  | 0, _, _, _ => none
  | n + 1, y1, σ, k => if (σ 54 1) ≤ y1 then k σ else gmG (0 ≤ y1 ∧ y1 < 72) (if (σ (gmTg 55 (y1).toNat) 4) ≤ (σ 54 2) then gmG (gmR (y1 + 1)) (Fk_hasLayout_2 n (y1 + 1) σ k) else some (0, σ))
def Fk_hasLayout (σ : St) : Option (Int × St) := Fk_hasLayout_2 gmN 0 σ (fun s5 => some (1, s5))
set_option maxRecDepth 100000 in
set_option maxHeartbeats 4000000 in
theorem Wk_hasLayout_2 {φ : Fx} {rv : Int} {rs : St} (hG : Good φ "GarmentMarker$Marker" prog_2_method_9_code 2 0 0) (hF : FinZ φ prog_2_method_9_code rv rs) : ∀ (n : Nat) {y1 : Int} {σ : St} {k : St → Option (Int × St)}, gmR y1 → Fk_hasLayout_2 n y1 σ k = some (rv, rs) → (∀ {τ : St}, k τ = some (rv, rs) → J φ τ 34 [] []) → J φ σ 2 [(0, .inr 54), (1, .inl y1)] [] := by
  intro n
  induction n with
  | zero =>
    intro _ _ _ _ h
    exact absurd h (by rw [Fk_hasLayout_2.eq_1]; exact fun q => by cases q)
  | succ n ih =>
    intro y1 σ k r1 h hk
    rw [Fk_hasLayout_2.eq_2] at h
    refine gm_ok (fun hO => ?_)
    refine gm_iload_n hG 1 d_k_hasLayout_2 rfl rfl ?_
    refine gm_aload_n hG 0 d_k_hasLayout_3 rfl rfl ?_
    refine gm_getI hG gmF_0_44 gmKc_54 rfl d_k_hasLayout_4 (fun _ => ?_)
    refine gm_icmp_ge (tgt := 34) hG d_k_hasLayout_7 (by decide) r1 (hO 54 1) (fun c1 => ?_) (fun c1 => ?_)
    · replace h := gmI_pos c1 h
      refine gm_sub [] rfl ?_
      exact hk h
    · replace h := gmI_neg c1 h
      refine gm_aload_n hG 0 d_k_hasLayout_10 rfl rfl ?_
      refine gm_getR (t := 55) hG gmF_0_11 gmKc_54 rfl d_k_hasLayout_11 ?_
      refine gm_iload_n hG 1 d_k_hasLayout_14 rfl rfl ?_
      obtain ⟨g2, h⟩ := gmG_of h
      refine gm_aald (t := (y1).toNat) hG 5 gmKc_55 (by decide) (by decide) rfl gmLc_55 g2 rfl d_k_hasLayout_15 ?_
      refine gm_getI hG gmF_0_80 (gmKtA (k := 55) (i := y1) gmKc_55 (by rw [gmLc_55]; exact g2)) (gmFrN 4 (Or.inl (gmKtA (k := 55) (i := y1) gmKc_55 (by rw [gmLc_55]; exact g2)))) d_k_hasLayout_16 (fun _ => ?_)
      refine gm_aload_n hG 0 d_k_hasLayout_19 rfl rfl ?_
      refine gm_getI hG gmF_0_41 gmKc_54 rfl d_k_hasLayout_20 (fun _ => ?_)
      refine gm_icmp_le (tgt := 28) hG d_k_hasLayout_23 (by decide) (hO (gmTg 55 (y1).toNat) 4) (hO 54 2) (fun c3 => ?_) (fun c3 => ?_)
      · replace h := gmI_pos c3 h
        refine gm_iinc (lv' := [(1, .inl (y1 + 1)), (0, .inr 54)]) hG 1 d_k_hasLayout_28 rfl (by decide) rfl ?_
        refine gm_goto (tgt := 2) hG d_k_hasLayout_31 (by decide) ?_
        obtain ⟨g4, h⟩ := gmG_of h
        refine gm_sub [1, 0] rfl ?_
        exact ih g4 h hk
      · replace h := gmI_neg c3 h
        refine gm_iconst hG d_k_hasLayout_26 ?_
        exact gm_zret' hF h (Or.inl rfl) d_k_hasLayout_27
set_option maxRecDepth 100000 in
set_option maxHeartbeats 4000000 in
theorem Wk_hasLayout {σ : St} {rv : Int} {rs : St} (h : Fk_hasLayout σ = some (rv, rs)) : Ctr gmY0_hasLayout prog_2_method_9_code 2 (some .boolean) 0 0 [.inr 54] σ (some rv) rs := by
  refine Ctr.ofZ (own := "GarmentMarker$Marker") (by decide +kernel) rfl (Nat.le_of_ble_eq_true rfl) (fun φ hG hF => ?_)
  unfold Fk_hasLayout at h
  refine gm_lv (l2 := [(0, .inr 54)]) rfl ?_
  refine gm_ok (fun hO => ?_)
  refine gm_iconst hG d_k_hasLayout_0 ?_
  refine gm_istore_n (lv' := [(1, .inl 0), (0, .inr 54)]) hG d_k_hasLayout_1 rfl (by decide) rfl ?_
  refine gm_sub [1, 0] rfl ?_
  refine Wk_hasLayout_2 hG hF gmN (by decide) h (fun  {s5}  h => ?_)
  refine gm_ok (fun hOs5 => ?_)
  refine gm_iconst hG d_k_hasLayout_34 ?_
  exact gm_zret' hF h (Or.inr rfl) d_k_hasLayout_35
def Fp_sortKey (k0 : Nat) (a0 : Int) (σ : St) : Option (Int × St) := if a0 = 1 then some ((σ k0 3), σ) else (if a0 = 2 then some ((σ k0 4), σ) else (if a0 = 3 then gmG (gmR ((σ k0 3) * (σ k0 4))) (some (((σ k0 3) * (σ k0 4)), σ)) else (some (0, σ))))
set_option maxRecDepth 100000 in
set_option maxHeartbeats 4000000 in
theorem Wp_sortKey {k0 : Nat} {a0 : Int} {σ : St} {rv : Int} {rs : St} (hk0 : gmKd k0 = 1) (ra0 : gmR a0) (h : Fp_sortKey k0 a0 σ = some (rv, rs)) : Ctr gmY1_sortKey prog_3_method_3_code 2 (some .int) 0 0 [.inr k0, .inl a0] σ (some rv) rs := by
  refine Ctr.ofI (own := "GarmentMarker$Part") (by decide +kernel) rfl (Nat.le_of_ble_eq_true rfl) (fun φ hG hF => ?_)
  unfold Fp_sortKey at h
  refine gm_lv (l2 := [(0, .inr k0), (1, .inl a0)]) rfl ?_
  refine gm_ok (fun hO => ?_)
  refine gm_iload_n hG 1 d_p_sortKey_0 rfl rfl ?_
  by_cases c1 : a0 = 1
  · replace h := gmI_pos c1 h
    refine gm_tswIn (tgt := 28) hG 1 c1 (by decide) rfl d_p_sortKey_1 (by decide) ?_
    refine gm_aload_n hG 0 d_p_sortKey_28 rfl rfl ?_
    refine gm_getI hG gmF_1_18 hk0 (gmFrN 3 (Or.inl hk0)) d_p_sortKey_29 (fun _ => ?_)
    exact gm_iret' hF h (hO k0 3) d_p_sortKey_32
  · replace h := gmI_neg c1 h
    by_cases c2 : a0 = 2
    · replace h := gmI_pos c2 h
      refine gm_tswIn (tgt := 33) hG 2 c2 (by decide) rfl d_p_sortKey_1 (by decide) ?_
      refine gm_aload_n hG 0 d_p_sortKey_33 rfl rfl ?_
      refine gm_getI hG gmF_1_24 hk0 (gmFrN 4 (Or.inl hk0)) d_p_sortKey_34 (fun _ => ?_)
      exact gm_iret' hF h (hO k0 4) d_p_sortKey_37
    · replace h := gmI_neg c2 h
      by_cases c3 : a0 = 3
      · replace h := gmI_pos c3 h
        refine gm_tswIn (tgt := 38) hG 3 c3 (by decide) rfl d_p_sortKey_1 (by decide) ?_
        refine gm_aload_n hG 0 d_p_sortKey_38 rfl rfl ?_
        refine gm_getI hG gmF_1_18 hk0 (gmFrN 3 (Or.inl hk0)) d_p_sortKey_39 (fun _ => ?_)
        refine gm_aload_n hG 0 d_p_sortKey_42 rfl rfl ?_
        refine gm_getI hG gmF_1_24 hk0 (gmFrN 4 (Or.inl hk0)) d_p_sortKey_43 (fun _ => ?_)
        refine gm_imul hG d_p_sortKey_46 ?_
        obtain ⟨g4, h⟩ := gmG_of h
        exact gm_iret' hF h g4 d_p_sortKey_47
      · replace h := gmI_neg c3 h
        refine gm_tswOut (tgt := 48) hG ra0 (by omega) d_p_sortKey_1 (by decide) ?_
        refine gm_iconst hG d_p_sortKey_48 ?_
        exact gm_iret' hF h (by decide) d_p_sortKey_49
def Fk_sortParts_24 : Nat → Int → Int → Int → Int → St → (Int → St → Option St) → Option St
  | 0, _, _, _, _, _, _ => none
  | n + 1, y1, y2, y3, y4, σ, k => if y4 ≤ 0 then k y4 σ else gmG (0 ≤ (y4 - 1) ∧ (y4 - 1) < 72) (gmG (0 ≤ (σ 128 ((y4 - 1)).toNat) ∧ (σ 128 ((y4 - 1)).toNat) < 72) (gmB (Fp_sortKey (gmTg 55 ((σ 128 ((y4 - 1)).toNat)).toNat) y1 σ) (fun r9 s8 => if y3 ≤ r9 then k y4 s8 else gmG (0 ≤ y4 ∧ y4 < 72) (gmL (gmUp s8 128 (y4).toNat (s8 128 ((y4 - 1)).toNat)) (fun s12 => gmG (gmR (y4 + (-1))) (Fk_sortParts_24 n y1 y2 y3 (y4 + (-1)) s12 k))))))
def Fk_sortParts_2 : Nat → Int → Int → St → (St → Option St) → Option St
  | 0, _, _, _, _ => none
  | n + 1, y1, y2, σ, k => if (σ 54 1) ≤ y2 then k σ else gmG (0 ≤ y2 ∧ y2 < 72) (gmB (Fp_sortKey (gmTg 55 (y2).toNat) y1 σ) (fun r4 s3 => Fk_sortParts_24 gmN y1 y2 r4 y2 s3 (fun x14 s15 => gmG (0 ≤ x14 ∧ x14 < 72) (gmL (gmUp s15 128 (x14).toNat y2) (fun s17 => gmG (gmR (y2 + 1)) (Fk_sortParts_2 n y1 (y2 + 1) s17 k))))))
def Fk_sortParts (a0 : Int) (σ : St) : Option St := Fk_sortParts_2 gmN a0 0 σ (fun s19 => some s19)
set_option maxRecDepth 100000 in
set_option maxHeartbeats 4000000 in
theorem Wk_sortParts_24 {φ : Fx} {rs : St} (hG : Good φ "GarmentMarker$Marker" prog_2_method_11_code 5 1 21) (hF : FinV φ prog_2_method_11_code rs) : ∀ (n : Nat) {y1 : Int} {y2 : Int} {y3 : Int} {y4 : Int} {σ : St} {k : Int → St → Option St}, gmR y1 → gmR y2 → gmR y3 → gmR y4 → Fk_sortParts_24 n y1 y2 y3 y4 σ k = some rs → (∀ {z4 : Int} {τ : St}, gmR z4 → k z4 τ = some rs → J φ τ 73 [(0, .inr 54), (1, .inl y1), (2, .inl y2), (4, .inl z4)] []) → J φ σ 24 [(0, .inr 54), (1, .inl y1), (2, .inl y2), (3, .inl y3), (4, .inl y4)] [] := by
  intro n
  induction n with
  | zero =>
    intro _ _ _ _ _ _ _ _ _ _ h
    exact absurd h (by rw [Fk_sortParts_24.eq_1]; exact fun q => by cases q)
  | succ n ih =>
    intro y1 y2 y3 y4 σ k r1 r2 r3 r4 h hk
    rw [Fk_sortParts_24.eq_2] at h
    refine gm_ok (fun hO => ?_)
    refine gm_iload hG 4 d_k_sortParts_24 rfl ?_
    refine gm_if_le (tgt := 73) hG d_k_sortParts_26 (by decide) r4 (fun c5 => ?_) (fun c5 => ?_)
    · replace h := gmI_pos c5 h
      refine gm_sub [0, 1, 2, 4] rfl ?_
      exact hk r4 h
    · replace h := gmI_neg c5 h
      refine gm_aload_n hG 0 d_k_sortParts_29 rfl rfl ?_
      refine gm_getR (t := 55) hG gmF_0_11 gmKc_54 rfl d_k_sortParts_30 ?_
      refine gm_aload_n hG 0 d_k_sortParts_33 rfl rfl ?_
      refine gm_getR (t := 128) hG gmF_0_18 gmKc_54 rfl d_k_sortParts_34 ?_
      refine gm_iload hG 4 d_k_sortParts_37 rfl ?_
      refine gm_iconst hG d_k_sortParts_39 ?_
      refine gm_isub hG d_k_sortParts_40 ?_
      obtain ⟨g6, h⟩ := gmG_of h
      refine gm_iald (t := ((y4 - 1)).toNat) hG gmKc_128 gmLc_128 g6 rfl d_k_sortParts_41 (fun _ => ?_)
      obtain ⟨g7, h⟩ := gmG_of h
      refine gm_aald (t := ((σ 128 ((y4 - 1)).toNat)).toNat) hG 5 gmKc_55 (by decide) (by decide) rfl gmLc_55 g7 rfl d_k_sortParts_42 ?_
      refine gm_iload_n hG 1 d_k_sortParts_43 rfl rfl ?_
      obtain ⟨r9, s8, es8, h⟩ := gmB_of h
      refine gm_callVi hG [.inl y1] [] gmM_0_119 (Wp_sortKey (gmKtA (k := 55) (i := (σ 128 ((y4 - 1)).toNat)) gmKc_55 (by rw [gmLc_55]; exact g7)) r1 es8) (gmKtA (k := 55) (i := (σ 128 ((y4 - 1)).toNat)) gmKc_55 (by rw [gmLc_55]; exact g7)) rfl (by decide) (Nat.le_of_ble_eq_true rfl) rfl d_k_sortParts_44 (fun qr9 => ?_)
      refine gm_ok (fun hOs8 => ?_)
      refine gm_iload_n hG 3 d_k_sortParts_47 rfl rfl ?_
      refine gm_icmp_ge (tgt := 73) hG d_k_sortParts_48 (by decide) qr9 r3 (fun c10 => ?_) (fun c10 => ?_)
      · replace h := gmI_pos c10 h
        refine gm_sub [0, 1, 2, 4] rfl ?_
        exact hk r4 h
      · replace h := gmI_neg c10 h
        refine gm_aload_n hG 0 d_k_sortParts_51 rfl rfl ?_
        refine gm_getR (t := 128) hG gmF_0_18 gmKc_54 rfl d_k_sortParts_52 ?_
        refine gm_iload hG 4 d_k_sortParts_55 rfl ?_
        refine gm_aload_n hG 0 d_k_sortParts_57 rfl rfl ?_
        refine gm_getR (t := 128) hG gmF_0_18 gmKc_54 rfl d_k_sortParts_58 ?_
        refine gm_iload hG 4 d_k_sortParts_61 rfl ?_
        refine gm_iconst hG d_k_sortParts_63 ?_
        refine gm_isub hG d_k_sortParts_64 ?_
        refine gm_iald (t := ((y4 - 1)).toNat) hG gmKc_128 gmLc_128 g6 rfl d_k_sortParts_65 (fun _ => ?_)
        obtain ⟨g11, h⟩ := gmG_of h
        obtain ⟨s12, es12, h⟩ := gmL_of h
        refine gm_iast (t := (y4).toNat) hG gmKc_128 gmLc_128 g11 rfl (hOs8 128 ((y4 - 1)).toNat) es12 d_k_sortParts_66 ?_
        refine gm_ok (fun hOs12 => ?_)
        refine gm_iinc (lv' := [(4, .inl (y4 + (-1))), (0, .inr 54), (1, .inl y1), (2, .inl y2), (3, .inl y3)]) hG 4 d_k_sortParts_67 rfl (by decide) rfl ?_
        refine gm_goto (tgt := 24) hG d_k_sortParts_70 (by decide) ?_
        obtain ⟨g13, h⟩ := gmG_of h
        refine gm_sub [1, 2, 3, 4, 0] rfl ?_
        exact ih r1 r2 r3 g13 h hk
set_option maxRecDepth 100000 in
set_option maxHeartbeats 4000000 in
theorem Wk_sortParts_2 {φ : Fx} {rs : St} (hG : Good φ "GarmentMarker$Marker" prog_2_method_11_code 5 1 21) (hF : FinV φ prog_2_method_11_code rs) : ∀ (n : Nat) {y1 : Int} {y2 : Int} {σ : St} {k : St → Option St}, gmR y1 → gmR y2 → Fk_sortParts_2 n y1 y2 σ k = some rs → (∀ {τ : St}, k τ = some rs → J φ τ 87 [] []) → J φ σ 2 [(0, .inr 54), (1, .inl y1), (2, .inl y2)] [] := by
  intro n
  induction n with
  | zero =>
    intro _ _ _ _ _ _ h
    exact absurd h (by rw [Fk_sortParts_2.eq_1]; exact fun q => by cases q)
  | succ n ih =>
    intro y1 y2 σ k r1 r2 h hk
    rw [Fk_sortParts_2.eq_2] at h
    refine gm_ok (fun hO => ?_)
    refine gm_iload_n hG 2 d_k_sortParts_2 rfl rfl ?_
    refine gm_aload_n hG 0 d_k_sortParts_3 rfl rfl ?_
    refine gm_getI hG gmF_0_44 gmKc_54 rfl d_k_sortParts_4 (fun _ => ?_)
    refine gm_icmp_ge (tgt := 87) hG d_k_sortParts_7 (by decide) r2 (hO 54 1) (fun c1 => ?_) (fun c1 => ?_)
    · replace h := gmI_pos c1 h
      refine gm_sub [] rfl ?_
      exact hk h
    · replace h := gmI_neg c1 h
      refine gm_aload_n hG 0 d_k_sortParts_10 rfl rfl ?_
      refine gm_getR (t := 55) hG gmF_0_11 gmKc_54 rfl d_k_sortParts_11 ?_
      refine gm_iload_n hG 2 d_k_sortParts_14 rfl rfl ?_
      obtain ⟨g2, h⟩ := gmG_of h
      refine gm_aald (t := (y2).toNat) hG 5 gmKc_55 (by decide) (by decide) rfl gmLc_55 g2 rfl d_k_sortParts_15 ?_
      refine gm_iload_n hG 1 d_k_sortParts_16 rfl rfl ?_
      obtain ⟨r4, s3, es3, h⟩ := gmB_of h
      refine gm_callVi hG [.inl y1] [] gmM_0_119 (Wp_sortKey (gmKtA (k := 55) (i := y2) gmKc_55 (by rw [gmLc_55]; exact g2)) r1 es3) (gmKtA (k := 55) (i := y2) gmKc_55 (by rw [gmLc_55]; exact g2)) rfl (by decide) (Nat.le_of_ble_eq_true rfl) rfl d_k_sortParts_17 (fun qr4 => ?_)
      refine gm_ok (fun hOs3 => ?_)
      refine gm_istore_n (lv' := [(3, .inl r4), (0, .inr 54), (1, .inl y1), (2, .inl y2)]) hG d_k_sortParts_20 rfl (by decide) rfl ?_
      refine gm_iload_n hG 3 d_k_sortParts_21 rfl rfl ?_
      refine gm_istore (lv' := [(4, .inl y2), (3, .inl r4), (0, .inr 54), (1, .inl y1), (2, .inl y2)]) hG d_k_sortParts_22 (by decide) rfl ?_
      refine gm_sub [2, 3, 4, 1, 0] rfl ?_
      refine Wk_sortParts_24 hG hF gmN r1 r2 qr4 r2 h (fun {x14} {s15} qx14 h => ?_)
      refine gm_ok (fun hOs15 => ?_)
      refine gm_aload_n hG 0 d_k_sortParts_73 rfl rfl ?_
      refine gm_getR (t := 128) hG gmF_0_18 gmKc_54 rfl d_k_sortParts_74 ?_
      refine gm_iload hG 3 d_k_sortParts_77 rfl ?_
      refine gm_iload_n hG 2 d_k_sortParts_79 rfl rfl ?_
      obtain ⟨g16, h⟩ := gmG_of h
      obtain ⟨s17, es17, h⟩ := gmL_of h
      refine gm_iast (t := (x14).toNat) hG gmKc_128 gmLc_128 g16 rfl r2 es17 d_k_sortParts_80 ?_
      refine gm_ok (fun hOs17 => ?_)
      refine gm_iinc (lv' := [(2, .inl (y2 + 1)), (0, .inr 54), (1, .inl y1), (4, .inl x14)]) hG 2 d_k_sortParts_81 rfl (by decide) rfl ?_
      refine gm_goto (tgt := 2) hG d_k_sortParts_84 (by decide) ?_
      obtain ⟨g18, h⟩ := gmG_of h
      refine gm_sub [1, 2, 0] rfl ?_
      exact ih r1 g18 h hk
set_option maxRecDepth 100000 in
set_option maxHeartbeats 4000000 in
theorem Wk_sortParts {a0 : Int} {σ : St} {rs : St} (ra0 : gmR a0) (h : Fk_sortParts a0 σ = some rs) : Ctr gmY0_sortParts prog_2_method_11_code 5 none 1 21 [.inr 54, .inl a0] σ none rs := by
  refine Ctr.ofV (own := "GarmentMarker$Marker") (by decide +kernel) rfl (Nat.le_of_ble_eq_true rfl) (fun φ hG hF => ?_)
  unfold Fk_sortParts at h
  refine gm_lv (l2 := [(0, .inr 54), (1, .inl a0)]) rfl ?_
  refine gm_ok (fun hO => ?_)
  refine gm_iconst hG d_k_sortParts_0 ?_
  refine gm_istore_n (lv' := [(2, .inl 0), (0, .inr 54), (1, .inl a0)]) hG d_k_sortParts_1 rfl (by decide) rfl ?_
  refine gm_sub [1, 2, 0] rfl ?_
  refine Wk_sortParts_2 hG hF gmN ra0 (by decide) h (fun  {s19}  h => ?_)
  refine gm_ok (fun hOs19 => ?_)
  exact gm_vret' hF h d_k_sortParts_87
def Fk_takenBits_14 : Nat → Int → Int → Int → Int → Int → St → (Int → St → Option (Int × St)) → Option (Int × St)
  | 0, _, _, _, _, _, _, _ => none
  | n + 1, y2, y3, y4, y5, y6, σ, k => if y3 ≤ y6 then k y4 σ else gmG (0 ≤ y6 ∧ y6 < 72) (gmG (0 ≤ (σ 128 (y6).toNat) ∧ (σ 128 (y6).toNat) < 72) (gmL (gmTg 55 ((σ 128 (y6).toNat)).toNat) (fun p5 => if (σ p5 7) ≤ y2 then gmG (gmR (y6 + 1)) (Fk_takenBits_14 n y2 y3 y4 y5 (y6 + 1) σ k) else if y5 ≤ (σ p5 5) then gmG (gmR (y6 + 1)) (Fk_takenBits_14 n y2 y3 y4 y5 (y6 + 1) σ k) else gmG ((0 : Int) ≤ y4 ∧ (0 : Int) ≤ (σ p5 8)) (gmL ((((y4 : Int).toNat ||| ((σ p5 8) : Int).toNat : Nat) : Int) : Int) (fun x11 => gmG (gmR (y6 + 1)) (Fk_takenBits_14 n y2 y3 x11 y5 (y6 + 1) σ k))))))
def Fk_takenBits (k1 : Nat) (a1 : Int) (a2 : Int) (σ : St) : Option (Int × St) := gmL ((a1 + (σ k1 3)) : Int) (fun x1 => gmG (gmR x1) (Fk_takenBits_14 gmN a1 a2 0 x1 0 σ (fun x14 s15 => some (x14, s15))))
set_option maxRecDepth 100000 in
set_option maxHeartbeats 4000000 in
theorem Wk_takenBits_14 {φ : Fx} {rv : Int} {rs : St} (hG : Good φ "GarmentMarker$Marker" prog_2_method_16_code 8 0 0) (hF : FinI φ prog_2_method_16_code rv rs) : ∀ (n : Nat) {y2 : Int} {y3 : Int} {y4 : Int} {y5 : Int} {y6 : Int} {σ : St} {k : Int → St → Option (Int × St)}, gmR y2 → gmR y3 → gmR y4 → gmR y5 → gmR y6 → Fk_takenBits_14 n y2 y3 y4 y5 y6 σ k = some (rv, rs) → (∀ {z4 : Int} {τ : St}, gmR z4 → k z4 τ = some (rv, rs) → J φ τ 69 [(4, .inl z4)] []) → J φ σ 14 [(0, .inr 54), (2, .inl y2), (3, .inl y3), (4, .inl y4), (5, .inl y5), (6, .inl y6)] [] := by
  intro n
  induction n with
  | zero =>
    intro _ _ _ _ _ _ _ _ _ _ _ _ h
    exact absurd h (by rw [Fk_takenBits_14.eq_1]; exact fun q => by cases q)
  | succ n ih =>
    intro y2 y3 y4 y5 y6 σ k r2 r3 r4 r5 r6 h hk
    rw [Fk_takenBits_14.eq_2] at h
    refine gm_ok (fun hO => ?_)
    refine gm_iload hG 5 d_k_takenBits_14 rfl ?_
    refine gm_iload_n hG 2 d_k_takenBits_16 rfl rfl ?_
    refine gm_icmp_ge (tgt := 69) hG d_k_takenBits_17 (by decide) r6 r3 (fun c2 => ?_) (fun c2 => ?_)
    · replace h := gmI_pos c2 h
      refine gm_sub [3] rfl ?_
      exact hk r4 h
    · replace h := gmI_neg c2 h
      refine gm_aload_n hG 0 d_k_takenBits_20 rfl rfl ?_
      refine gm_getR (t := 55) hG gmF_0_11 gmKc_54 rfl d_k_takenBits_21 ?_
      refine gm_aload_n hG 0 d_k_takenBits_24 rfl rfl ?_
      refine gm_getR (t := 128) hG gmF_0_18 gmKc_54 rfl d_k_takenBits_25 ?_
      refine gm_iload hG 5 d_k_takenBits_28 rfl ?_
      obtain ⟨g3, h⟩ := gmG_of h
      refine gm_iald (t := (y6).toNat) hG gmKc_128 gmLc_128 g3 rfl d_k_takenBits_30 (fun _ => ?_)
      obtain ⟨g4, h⟩ := gmG_of h
      refine gm_aald (t := ((σ 128 (y6).toNat)).toNat) hG 5 gmKc_55 (by decide) (by decide) rfl gmLc_55 g4 rfl d_k_takenBits_31 ?_
      obtain ⟨p5, ep5, h⟩ := gmL_of h
      refine gm_topR ep5 ?_
      refine gm_astore (lv' := [(7, .inr p5), (0, .inr 54), (2, .inl y2), (3, .inl y3), (4, .inl y4), (5, .inl y5), (6, .inl y6)]) hG d_k_takenBits_32 (by decide) rfl ?_
      refine gm_aload hG 0 d_k_takenBits_34 rfl ?_
      refine gm_getI hG gmF_0_111 (gm_kd ep5 (gmKtA (k := 55) (i := (σ 128 (y6).toNat)) gmKc_55 (by rw [gmLc_55]; exact g4))) (gmFrN 7 (Or.inl (gm_kd ep5 (gmKtA (k := 55) (i := (σ 128 (y6).toNat)) gmKc_55 (by rw [gmLc_55]; exact g4))))) d_k_takenBits_36 (fun _ => ?_)
      refine gm_iload_n hG 2 d_k_takenBits_39 rfl rfl ?_
      refine gm_icmp_le (tgt := 63) hG d_k_takenBits_40 (by decide) (hO p5 7) r2 (fun c6 => ?_) (fun c6 => ?_)
      · replace h := gmI_pos c6 h
        refine gm_iinc (lv' := [(6, .inl (y6 + 1)), (7, .inr p5), (0, .inr 54), (2, .inl y2), (3, .inl y3), (4, .inl y4), (5, .inl y5)]) hG 6 d_k_takenBits_63 rfl (by decide) rfl ?_
        refine gm_goto (tgt := 14) hG d_k_takenBits_66 (by decide) ?_
        obtain ⟨g7, h⟩ := gmG_of h
        refine gm_sub [2, 3, 4, 5, 6, 0] rfl ?_
        exact ih r2 r3 r4 r5 g7 h hk
      · replace h := gmI_neg c6 h
        refine gm_aload hG 0 d_k_takenBits_43 rfl ?_
        refine gm_getI hG gmF_0_142 (gm_kd ep5 (gmKtA (k := 55) (i := (σ 128 (y6).toNat)) gmKc_55 (by rw [gmLc_55]; exact g4))) (gmFrN 5 (Or.inl (gm_kd ep5 (gmKtA (k := 55) (i := (σ 128 (y6).toNat)) gmKc_55 (by rw [gmLc_55]; exact g4))))) d_k_takenBits_45 (fun _ => ?_)
        refine gm_iload hG 5 d_k_takenBits_48 rfl ?_
        refine gm_icmp_ge (tgt := 63) hG d_k_takenBits_50 (by decide) (hO p5 5) r5 (fun c8 => ?_) (fun c8 => ?_)
        · replace h := gmI_pos c8 h
          refine gm_iinc (lv' := [(6, .inl (y6 + 1)), (7, .inr p5), (0, .inr 54), (2, .inl y2), (3, .inl y3), (4, .inl y4), (5, .inl y5)]) hG 6 d_k_takenBits_63 rfl (by decide) rfl ?_
          refine gm_goto (tgt := 14) hG d_k_takenBits_66 (by decide) ?_
          obtain ⟨g9, h⟩ := gmG_of h
          refine gm_sub [2, 3, 4, 5, 6, 0] rfl ?_
          exact ih r2 r3 r4 r5 g9 h hk
        · replace h := gmI_neg c8 h
          refine gm_iload hG 4 d_k_takenBits_53 rfl ?_
          refine gm_aload hG 0 d_k_takenBits_55 rfl ?_
          refine gm_getI hG gmF_0_145 (gm_kd ep5 (gmKtA (k := 55) (i := (σ 128 (y6).toNat)) gmKc_55 (by rw [gmLc_55]; exact g4))) (gmFrN 8 (Or.inl (gm_kd ep5 (gmKtA (k := 55) (i := (σ 128 (y6).toNat)) gmKc_55 (by rw [gmLc_55]; exact g4))))) d_k_takenBits_57 (fun _ => ?_)
          obtain ⟨g10, h⟩ := gmG_of h
          refine gm_ior hG d_k_takenBits_60 r4 (hO p5 8) g10 (fun _ => ?_)
          obtain ⟨x11, ex11, h⟩ := gmL_of h
          refine gm_top ex11 ?_
          refine gm_istore (lv' := [(4, .inl x11), (7, .inr p5), (0, .inr 54), (2, .inl y2), (3, .inl y3), (5, .inl y5), (6, .inl y6)]) hG d_k_takenBits_61 (by decide) rfl ?_
          refine gm_iinc (lv' := [(6, .inl (y6 + 1)), (4, .inl x11), (7, .inr p5), (0, .inr 54), (2, .inl y2), (3, .inl y3), (5, .inl y5)]) hG 6 d_k_takenBits_63 rfl (by decide) rfl ?_
          refine gm_goto (tgt := 14) hG d_k_takenBits_66 (by decide) ?_
          obtain ⟨g12, h⟩ := gmG_of h
          refine gm_sub [3, 4, 5, 1, 6, 0] rfl ?_
          exact ih r2 r3 (gm_kr ex11 (gm_kor r4 (hO p5 8) g10)) r5 g12 h hk
set_option maxRecDepth 100000 in
set_option maxHeartbeats 4000000 in
theorem Wk_takenBits {k1 : Nat} {a1 : Int} {a2 : Int} {σ : St} {rv : Int} {rs : St} (hk1 : gmKd k1 = 1) (ra1 : gmR a1) (ra2 : gmR a2) (h : Fk_takenBits k1 a1 a2 σ = some (rv, rs)) : Ctr gmY0_takenBits prog_2_method_16_code 8 (some .int) 0 0 [.inr 54, .inr k1, .inl a1, .inl a2] σ (some rv) rs := by
  refine Ctr.ofI (own := "GarmentMarker$Marker") (by decide +kernel) rfl (Nat.le_of_ble_eq_true rfl) (fun φ hG hF => ?_)
  unfold Fk_takenBits at h
  refine gm_lv (l2 := [(0, .inr 54), (1, .inr k1), (2, .inl a1), (3, .inl a2)]) rfl ?_
  refine gm_ok (fun hO => ?_)
  refine gm_iconst hG d_k_takenBits_0 ?_
  refine gm_istore (lv' := [(4, .inl 0), (0, .inr 54), (1, .inr k1), (2, .inl a1), (3, .inl a2)]) hG d_k_takenBits_1 (by decide) rfl ?_
  refine gm_iload_n hG 3 d_k_takenBits_3 rfl rfl ?_
  refine gm_aload_n hG 2 d_k_takenBits_4 rfl rfl ?_
  refine gm_getI hG gmF_0_83 hk1 (gmFrN 3 (Or.inl hk1)) d_k_takenBits_5 (fun _ => ?_)
  refine gm_iadd hG d_k_takenBits_8 ?_
  obtain ⟨x1, ex1, h⟩ := gmL_of h
  refine gm_top ex1 ?_
  refine gm_istore (lv' := [(5, .inl x1), (4, .inl 0), (0, .inr 54), (1, .inr k1), (2, .inl a1), (3, .inl a2)]) hG d_k_takenBits_9 (by decide) rfl ?_
  refine gm_iconst hG d_k_takenBits_11 ?_
  refine gm_istore (lv' := [(6, .inl 0), (5, .inl x1), (4, .inl 0), (0, .inr 54), (1, .inr k1), (2, .inl a1), (3, .inl a2)]) hG d_k_takenBits_12 (by decide) rfl ?_
  obtain ⟨g13, h⟩ := gmG_of h
  refine gm_sub [3, 5, 6, 2, 1, 0] rfl ?_
  refine Wk_takenBits_14 hG hF gmN ra1 ra2 (by decide) g13 (by decide) h (fun {x14} {s15} qx14 h => ?_)
  refine gm_ok (fun hOs15 => ?_)
  refine gm_iload hG 0 d_k_takenBits_69 rfl ?_
  exact gm_iret' hF h qx14 d_k_takenBits_71
def Fk_firstGap_34 : Nat → Int → Int → Int → Int → St → (St → Option (Int × St)) → Option (Int × St)
  | 0, _, _, _, _, _, _ => none
  | n + 1, y2, y3, y4, y5, σ, k => if y4 < y5 then k σ else gmG ((0 : Int) ≤ y2 ∧ (0 : Int) ≤ y5 ∧ y5 < 32) (gmG ((0 : Int) ≤ (y2 / 2 ^ (y5).toNat) ∧ (0 : Int) ≤ y3) (if ((((y2 / 2 ^ (y5).toNat) : Int).toNat &&& (y3 : Int).toNat : Nat) : Int) = 0 then some (y5, σ) else gmG (gmR (y5 + 1)) (Fk_firstGap_34 n y2 y3 y4 (y5 + 1) σ k)))
def Fk_firstGap (k1 : Nat) (a1 : Int) (σ : St) : Option (Int × St) := gmG (((0 : Int) ≤ 1 ∧ 0 ≤ (σ k1 4) ∧ (σ k1 4) < 32) ∧ (1 : Int) * 2 ^ ((σ k1 4)).toNat < 2147483648) (gmL (((1 * 2 ^ ((σ k1 4)).toNat) - 1) : Int) (fun x2 => gmL ((if (σ k1 2) = 0 then ((σ 54 2) - (σ k1 4)) else 0) : Int) (fun x4 => gmG (gmR x2) (gmG (gmR x4) (Fk_firstGap_34 gmN a1 x2 x4 0 σ (fun s12 => some ((-1), s12)))))))
set_option maxRecDepth 100000 in
set_option maxHeartbeats 4000000 in
theorem Wk_firstGap_34 {φ : Fx} {rv : Int} {rs : St} (hG : Good φ "GarmentMarker$Marker" prog_2_method_17_code 6 0 0) (hF : FinI φ prog_2_method_17_code rv rs) : ∀ (n : Nat) {y2 : Int} {y3 : Int} {y4 : Int} {y5 : Int} {σ : St} {k : St → Option (Int × St)}, gmR y2 → gmR y3 → gmR y4 → gmR y5 → Fk_firstGap_34 n y2 y3 y4 y5 σ k = some (rv, rs) → (∀ {τ : St}, k τ = some (rv, rs) → J φ τ 59 [] []) → J φ σ 34 [(2, .inl y2), (3, .inl y3), (4, .inl y4), (5, .inl y5)] [] := by
  intro n
  induction n with
  | zero =>
    intro _ _ _ _ _ _ _ _ _ _ h
    exact absurd h (by rw [Fk_firstGap_34.eq_1]; exact fun q => by cases q)
  | succ n ih =>
    intro y2 y3 y4 y5 σ k r2 r3 r4 r5 h hk
    rw [Fk_firstGap_34.eq_2] at h
    refine gm_ok (fun hO => ?_)
    refine gm_iload hG 3 d_k_firstGap_34 rfl ?_
    refine gm_iload hG 2 d_k_firstGap_36 rfl ?_
    refine gm_icmp_gt (tgt := 59) hG d_k_firstGap_38 (by decide) r5 r4 (fun c5 => ?_) (fun c5 => ?_)
    · replace h := gmI_pos c5 h
      refine gm_sub [] rfl ?_
      exact hk h
    · replace h := gmI_neg c5 h
      refine gm_iload_n hG 0 d_k_firstGap_41 rfl rfl ?_
      refine gm_iload hG 3 d_k_firstGap_42 rfl ?_
      obtain ⟨g6, h⟩ := gmG_of h
      refine gm_ishr hG d_k_firstGap_44 r2 g6 (fun _ => ?_)
      refine gm_iload_n hG 1 d_k_firstGap_45 rfl rfl ?_
      obtain ⟨g7, h⟩ := gmG_of h
      refine gm_iand hG d_k_firstGap_46 (gm_kshr r2 g6) r3 g7 (fun _ => ?_)
      refine gm_if_ne (tgt := 53) hG d_k_firstGap_47 (by decide) (gm_kand (gm_kshr r2 g6) g7) (fun c8 => ?_) (fun c8 => ?_)
      · replace h := gmI_neg c8 h
        refine gm_iinc (lv' := [(5, .inl (y5 + 1)), (2, .inl y2), (3, .inl y3), (4, .inl y4)]) hG 3 d_k_firstGap_53 rfl (by decide) rfl ?_
        refine gm_goto (tgt := 34) hG d_k_firstGap_56 (by decide) ?_
        obtain ⟨g9, h⟩ := gmG_of h
        refine gm_sub [1, 2, 3, 0] rfl ?_
        exact ih r2 r3 r4 g9 h hk
      · replace h := gmI_pos c8 h
        refine gm_iload hG 3 d_k_firstGap_50 rfl ?_
        exact gm_iret' hF h r5 d_k_firstGap_52
set_option maxRecDepth 100000 in
set_option maxHeartbeats 4000000 in
theorem Wk_firstGap {k1 : Nat} {a1 : Int} {σ : St} {rv : Int} {rs : St} (hk1 : gmKd k1 = 1) (ra1 : gmR a1) (h : Fk_firstGap k1 a1 σ = some (rv, rs)) : Ctr gmY0_firstGap prog_2_method_17_code 6 (some .int) 0 0 [.inr 54, .inr k1, .inl a1] σ (some rv) rs := by
  refine Ctr.ofI (own := "GarmentMarker$Marker") (by decide +kernel) rfl (Nat.le_of_ble_eq_true rfl) (fun φ hG hF => ?_)
  unfold Fk_firstGap at h
  refine gm_lv (l2 := [(0, .inr 54), (1, .inr k1), (2, .inl a1)]) rfl ?_
  refine gm_ok (fun hO => ?_)
  refine gm_iconst hG d_k_firstGap_0 ?_
  refine gm_aload_n hG 1 d_k_firstGap_1 rfl rfl ?_
  refine gm_getI hG gmF_0_80 hk1 (gmFrN 4 (Or.inl hk1)) d_k_firstGap_2 (fun _ => ?_)
  obtain ⟨g1, h⟩ := gmG_of h
  refine gm_ishl hG d_k_firstGap_5 g1 (fun _ => ?_)
  refine gm_iconst hG d_k_firstGap_6 ?_
  refine gm_isub hG d_k_firstGap_7 ?_
  obtain ⟨x2, ex2, h⟩ := gmL_of h
  refine gm_top ex2 ?_
  refine gm_istore_n (lv' := [(3, .inl x2), (0, .inr 54), (1, .inr k1), (2, .inl a1)]) hG d_k_firstGap_8 rfl (by decide) rfl ?_
  refine gm_aload_n hG 2 d_k_firstGap_9 rfl rfl ?_
  refine gm_getI hG gmF_0_77 hk1 (gmFrN 2 (Or.inl hk1)) d_k_firstGap_10 (fun _ => ?_)
  suffices hj : J φ σ 29 [(3, .inl x2), (0, .inr 54), (1, .inr k1), (2, .inl a1)] [.inl (if (σ k1 2) = 0 then ((σ 54 2) - (σ k1 4)) else 0)] by
    refine gm_if_eq (tgt := 20) hG d_k_firstGap_13 (by decide) (hO k1 2) (fun c3 => ?_) (fun c3 => ?_)
    · replace hj := gmJ_pos c3 hj
      refine gm_aload_n hG 1 d_k_firstGap_20 rfl rfl ?_
      refine gm_getI hG gmF_0_41 gmKc_54 rfl d_k_firstGap_21 (fun _ => ?_)
      refine gm_aload_n hG 2 d_k_firstGap_24 rfl rfl ?_
      refine gm_getI hG gmF_0_80 hk1 (gmFrN 4 (Or.inl hk1)) d_k_firstGap_25 (fun _ => ?_)
      refine gm_isub hG d_k_firstGap_28 ?_
      exact hj
    · replace hj := gmJ_neg c3 hj
      refine gm_iconst hG d_k_firstGap_16 ?_
      refine gm_goto (tgt := 29) hG d_k_firstGap_17 (by decide) ?_
      exact hj
  obtain ⟨x4, ex4, h⟩ := gmL_of h
  refine gm_top ex4 ?_
  refine gm_istore (lv' := [(4, .inl x4), (3, .inl x2), (0, .inr 54), (1, .inr k1), (2, .inl a1)]) hG d_k_firstGap_29 (by decide) rfl ?_
  refine gm_iconst hG d_k_firstGap_31 ?_
  refine gm_istore (lv' := [(5, .inl 0), (4, .inl x4), (3, .inl x2), (0, .inr 54), (1, .inr k1), (2, .inl a1)]) hG d_k_firstGap_32 (by decide) rfl ?_
  obtain ⟨g10, h⟩ := gmG_of h
  obtain ⟨g11, h⟩ := gmG_of h
  refine gm_sub [5, 2, 1, 0] rfl ?_
  refine Wk_firstGap_34 hG hF gmN ra1 g10 g11 (by decide) h (fun  {s12}  h => ?_)
  refine gm_ok (fun hOs12 => ?_)
  refine gm_iconst hG d_k_firstGap_59 ?_
  exact gm_iret' hF h (by decide) d_k_firstGap_60
def Fp_placeAt (k0 : Nat) (a0 : Int) (a1 : Int) (σ : St) : Option St := gmL (gmUp σ k0 5 a0) (fun s1 => gmL (gmUp s1 k0 6 a1) (fun s2 => gmG (gmR (a0 + (s2 k0 3))) (gmL (gmUp s2 k0 7 (a0 + (s2 k0 3))) (fun s4 => gmG (((0 : Int) ≤ 1 ∧ 0 ≤ (s4 k0 4) ∧ (s4 k0 4) < 32) ∧ (1 : Int) * 2 ^ ((s4 k0 4)).toNat < 2147483648) (gmG (((0 : Int) ≤ ((1 * 2 ^ ((s4 k0 4)).toNat) - 1) ∧ 0 ≤ a1 ∧ a1 < 32) ∧ (((1 * 2 ^ ((s4 k0 4)).toNat) - 1) : Int) * 2 ^ (a1).toNat < 2147483648) (gmL (gmUp s4 k0 8 (((1 * 2 ^ ((s4 k0 4)).toNat) - 1) * 2 ^ (a1).toNat)) (fun s7 => some s7)))))))
set_option maxRecDepth 100000 in
set_option maxHeartbeats 4000000 in
theorem Wp_placeAt {k0 : Nat} {a0 : Int} {a1 : Int} {σ : St} {rs : St} (hk0 : gmKd k0 = 1) (ra0 : gmR a0) (ra1 : gmR a1) (h : Fp_placeAt k0 a0 a1 σ = some rs) : Ctr gmY1_placeAt prog_3_method_2_code 3 none 0 0 [.inr k0, .inl a0, .inl a1] σ none rs := by
  refine Ctr.ofV (own := "GarmentMarker$Part") (by decide +kernel) rfl (Nat.le_of_ble_eq_true rfl) (fun φ hG hF => ?_)
  unfold Fp_placeAt at h
  refine gm_lv (l2 := [(0, .inr k0), (1, .inl a0), (2, .inl a1)]) rfl ?_
  refine gm_ok (fun hO => ?_)
  refine gm_aload_n hG 0 d_p_placeAt_0 rfl rfl ?_
  refine gm_iload_n hG 1 d_p_placeAt_1 rfl rfl ?_
  obtain ⟨s1, es1, h⟩ := gmL_of h
  refine gm_putI hG gmF_1_9 hk0 (gmFrN 5 (Or.inl hk0)) rfl (by decide +kernel) ra0 es1 d_p_placeAt_2 ?_
  refine gm_ok (fun hOs1 => ?_)
  refine gm_aload_n hG 0 d_p_placeAt_5 rfl rfl ?_
  refine gm_iload_n hG 2 d_p_placeAt_6 rfl rfl ?_
  obtain ⟨s2, es2, h⟩ := gmL_of h
  refine gm_putI hG gmF_1_15 hk0 (gmFrN 6 (Or.inl hk0)) rfl (by decide +kernel) ra1 es2 d_p_placeAt_7 ?_
  refine gm_ok (fun hOs2 => ?_)
  refine gm_aload_n hG 0 d_p_placeAt_10 rfl rfl ?_
  refine gm_iload_n hG 1 d_p_placeAt_11 rfl rfl ?_
  refine gm_aload_n hG 0 d_p_placeAt_12 rfl rfl ?_
  refine gm_getI hG gmF_1_18 hk0 (gmFrN 3 (Or.inl hk0)) d_p_placeAt_13 (fun _ => ?_)
  refine gm_iadd hG d_p_placeAt_16 ?_
  obtain ⟨g3, h⟩ := gmG_of h
  obtain ⟨s4, es4, h⟩ := gmL_of h
  refine gm_putI hG gmF_1_21 hk0 (gmFrN 7 (Or.inl hk0)) rfl (by decide +kernel) g3 es4 d_p_placeAt_17 ?_
  refine gm_ok (fun hOs4 => ?_)
  refine gm_aload_n hG 0 d_p_placeAt_20 rfl rfl ?_
  refine gm_iconst hG d_p_placeAt_21 ?_
  refine gm_aload_n hG 0 d_p_placeAt_22 rfl rfl ?_
  refine gm_getI hG gmF_1_24 hk0 (gmFrN 4 (Or.inl hk0)) d_p_placeAt_23 (fun _ => ?_)
  obtain ⟨g5, h⟩ := gmG_of h
  refine gm_ishl hG d_p_placeAt_26 g5 (fun _ => ?_)
  refine gm_iconst hG d_p_placeAt_27 ?_
  refine gm_isub hG d_p_placeAt_28 ?_
  refine gm_iload_n hG 2 d_p_placeAt_29 rfl rfl ?_
  obtain ⟨g6, h⟩ := gmG_of h
  refine gm_ishl hG d_p_placeAt_30 g6 (fun _ => ?_)
  obtain ⟨s7, es7, h⟩ := gmL_of h
  refine gm_putI hG gmF_1_27 hk0 (gmFrN 8 (Or.inl hk0)) rfl (by decide +kernel) (gm_kshl g6) es7 d_p_placeAt_31 ?_
  refine gm_ok (fun hOs7 => ?_)
  exact gm_vret' hF h d_p_placeAt_34
def Fk_placeFirstFree_19 : Nat → Nat → Int → Int → Int → Int → St → (Int → Int → St → Option St) → Option St
  | 0, _, _, _, _, _, _, _ => none
  | n + 1, y1, y2, y3, y4, y5, σ, k => if y2 ≤ y5 then k y3 y4 σ else gmG (0 ≤ y5 ∧ y5 < 72) (gmG (0 ≤ (σ 128 (y5).toNat) ∧ (σ 128 (y5).toNat) < 72) (gmL ((σ (gmTg 55 ((σ 128 (y5).toNat)).toNat) 7) : Int) (fun x8 => if y4 = (-1) then gmB (Fk_takenBits y1 x8 y2 σ) (fun r11 s10 => gmB (Fk_firstGap y1 r11 s10) (fun r13 s12 => if r13 = (-1) then gmG (gmR (y5 + 1)) (Fk_placeFirstFree_19 n y1 y2 y3 y4 (y5 + 1) s12 k) else gmG (gmR (y5 + 1)) (Fk_placeFirstFree_19 n y1 y2 x8 r13 (y5 + 1) s12 k))) else if y3 ≤ x8 then gmG (gmR (y5 + 1)) (Fk_placeFirstFree_19 n y1 y2 y3 y4 (y5 + 1) σ k) else gmB (Fk_takenBits y1 x8 y2 σ) (fun r20 s19 => gmB (Fk_firstGap y1 r20 s19) (fun r22 s21 => if r22 = (-1) then gmG (gmR (y5 + 1)) (Fk_placeFirstFree_19 n y1 y2 y3 y4 (y5 + 1) s21 k) else gmG (gmR (y5 + 1)) (Fk_placeFirstFree_19 n y1 y2 x8 r22 (y5 + 1) s21 k))))))
def Fk_placeFirstFree (k1 : Nat) (a1 : Int) (σ : St) : Option St := gmB (Fk_takenBits k1 0 a1 σ) (fun r2 s1 => gmB (Fk_firstGap k1 r2 s1) (fun r4 s3 => Fk_placeFirstFree_19 gmN k1 a1 0 r4 0 s3 (fun x26 x27 s28 => gmBv (Fp_placeAt k1 x26 x27 s28) (fun s29 => some s29))))
set_option maxRecDepth 100000 in
set_option maxHeartbeats 4000000 in
theorem Wk_placeFirstFree_19 {φ : Fx} {rs : St} (hG : Good φ "GarmentMarker$Marker" prog_2_method_15_code 8 1 27) (hF : FinV φ prog_2_method_15_code rs) : ∀ (n : Nat) {y1 : Nat} {y2 : Int} {y3 : Int} {y4 : Int} {y5 : Int} {σ : St} {k : Int → Int → St → Option St}, gmKd y1 = 1 → gmR y2 → gmR y3 → gmR y4 → gmR y5 → Fk_placeFirstFree_19 n y1 y2 y3 y4 y5 σ k = some rs → (∀ {z3 : Int} {z4 : Int} {τ : St}, gmR z3 → gmR z4 → k z3 z4 τ = some rs → J φ τ 88 [(1, .inr y1), (3, .inl z3), (4, .inl z4)] []) → J φ σ 19 [(0, .inr 54), (1, .inr y1), (2, .inl y2), (3, .inl y3), (4, .inl y4), (5, .inl y5)] [] := by
  intro n
  induction n with
  | zero =>
    intro _ _ _ _ _ _ _ _ _ _ _ _ h
    exact absurd h (by rw [Fk_placeFirstFree_19.eq_1]; exact fun q => by cases q)
  | succ n ih =>
    intro y1 y2 y3 y4 y5 σ k r1 r2 r3 r4 r5 h hk
    rw [Fk_placeFirstFree_19.eq_2] at h
    refine gm_ok (fun hO => ?_)
    refine gm_iload hG 5 d_k_placeFirstFree_19 rfl ?_
    refine gm_iload_n hG 2 d_k_placeFirstFree_21 rfl rfl ?_
    refine gm_icmp_ge (tgt := 88) hG d_k_placeFirstFree_22 (by decide) r5 r2 (fun c5 => ?_) (fun c5 => ?_)
    · replace h := gmI_pos c5 h
      refine gm_sub [1, 3, 4] rfl ?_
      exact hk r3 r4 h
    · replace h := gmI_neg c5 h
      refine gm_aload_n hG 0 d_k_placeFirstFree_25 rfl rfl ?_
      refine gm_getR (t := 55) hG gmF_0_11 gmKc_54 rfl d_k_placeFirstFree_26 ?_
      refine gm_aload_n hG 0 d_k_placeFirstFree_29 rfl rfl ?_
      refine gm_getR (t := 128) hG gmF_0_18 gmKc_54 rfl d_k_placeFirstFree_30 ?_
      refine gm_iload hG 5 d_k_placeFirstFree_33 rfl ?_
      obtain ⟨g6, h⟩ := gmG_of h
      refine gm_iald (t := (y5).toNat) hG gmKc_128 gmLc_128 g6 rfl d_k_placeFirstFree_35 (fun _ => ?_)
      obtain ⟨g7, h⟩ := gmG_of h
      refine gm_aald (t := ((σ 128 (y5).toNat)).toNat) hG 5 gmKc_55 (by decide) (by decide) rfl gmLc_55 g7 rfl d_k_placeFirstFree_36 ?_
      refine gm_getI hG gmF_0_111 (gmKtA (k := 55) (i := (σ 128 (y5).toNat)) gmKc_55 (by rw [gmLc_55]; exact g7)) (gmFrN 7 (Or.inl (gmKtA (k := 55) (i := (σ 128 (y5).toNat)) gmKc_55 (by rw [gmLc_55]; exact g7)))) d_k_placeFirstFree_37 (fun _ => ?_)
      obtain ⟨x8, ex8, h⟩ := gmL_of h
      refine gm_top ex8 ?_
      refine gm_istore (lv' := [(6, .inl x8), (0, .inr 54), (1, .inr y1), (2, .inl y2), (3, .inl y3), (4, .inl y4), (5, .inl y5)]) hG d_k_placeFirstFree_40 (by decide) rfl ?_
      refine gm_iload hG 5 d_k_placeFirstFree_42 rfl ?_
      refine gm_iconst hG d_k_placeFirstFree_44 ?_
      refine gm_icmp_eq (tgt := 54) hG d_k_placeFirstFree_45 (by decide) r4 (by decide) (fun c9 => ?_) (fun c9 => ?_)
      · replace h := gmI_pos c9 h
        refine gm_aload_n hG 1 d_k_placeFirstFree_54 rfl rfl ?_
        refine gm_aload_n hG 2 d_k_placeFirstFree_55 rfl rfl ?_
        refine gm_aload_n hG 1 d_k_placeFirstFree_56 rfl rfl ?_
        refine gm_aload_n hG 2 d_k_placeFirstFree_57 rfl rfl ?_
        refine gm_iload hG 0 d_k_placeFirstFree_58 rfl ?_
        refine gm_iload_n hG 3 d_k_placeFirstFree_60 rfl rfl ?_
        obtain ⟨r11, s10, es10, h⟩ := gmB_of h
        refine gm_callVi hG [.inr y1, .inl x8, .inl y2] [.inr y1, .inr 54] gmM_0_135 (Wk_takenBits r1 (gm_kr ex8 (hO (gmTg 55 ((σ 128 (y5).toNat)).toNat) 7)) r2 es10) gmKc_54 rfl (by decide) (Nat.le_of_ble_eq_true rfl) rfl d_k_placeFirstFree_61 (fun qr11 => ?_)
        refine gm_ok (fun hOs10 => ?_)
        obtain ⟨r13, s12, es12, h⟩ := gmB_of h
        refine gm_callVi hG [.inr y1, .inl r11] [] gmM_0_139 (Wk_firstGap r1 qr11 es12) gmKc_54 rfl (by decide) (Nat.le_of_ble_eq_true rfl) rfl d_k_placeFirstFree_64 (fun qr13 => ?_)
        refine gm_ok (fun hOs12 => ?_)
        refine gm_istore (lv' := [(7, .inl r13), (6, .inl x8), (0, .inr 54), (1, .inr y1), (2, .inl y2), (3, .inl y3), (4, .inl y4), (5, .inl y5)]) hG d_k_placeFirstFree_67 (by decide) rfl ?_
        refine gm_iload hG 0 d_k_placeFirstFree_69 rfl ?_
        refine gm_iconst hG d_k_placeFirstFree_71 ?_
        refine gm_icmp_eq (tgt := 82) hG d_k_placeFirstFree_72 (by decide) qr13 (by decide) (fun c14 => ?_) (fun c14 => ?_)
        · replace h := gmI_pos c14 h
          refine gm_iinc (lv' := [(5, .inl (y5 + 1)), (7, .inl r13), (6, .inl x8), (0, .inr 54), (1, .inr y1), (2, .inl y2), (3, .inl y3), (4, .inl y4)]) hG 7 d_k_placeFirstFree_82 rfl (by decide) rfl ?_
          refine gm_goto (tgt := 19) hG d_k_placeFirstFree_85 (by decide) ?_
          obtain ⟨g15, h⟩ := gmG_of h
          refine gm_sub [3, 4, 5, 6, 7, 0] rfl ?_
          exact ih r1 r2 r3 r4 g15 h hk
        · replace h := gmI_neg c14 h
          refine gm_iload hG 1 d_k_placeFirstFree_75 rfl ?_
          refine gm_istore_n (lv' := [(3, .inl x8), (7, .inl r13), (6, .inl x8), (0, .inr 54), (1, .inr y1), (2, .inl y2), (4, .inl y4), (5, .inl y5)]) hG d_k_placeFirstFree_77 rfl (by decide) rfl ?_
          refine gm_iload hG 1 d_k_placeFirstFree_78 rfl ?_
          refine gm_istore (lv' := [(4, .inl r13), (3, .inl x8), (7, .inl r13), (6, .inl x8), (0, .inr 54), (1, .inr y1), (2, .inl y2), (5, .inl y5)]) hG d_k_placeFirstFree_80 (by decide) rfl ?_
          refine gm_iinc (lv' := [(5, .inl (y5 + 1)), (4, .inl r13), (3, .inl x8), (7, .inl r13), (6, .inl x8), (0, .inr 54), (1, .inr y1), (2, .inl y2)]) hG 7 d_k_placeFirstFree_82 rfl (by decide) rfl ?_
          refine gm_goto (tgt := 19) hG d_k_placeFirstFree_85 (by decide) ?_
          obtain ⟨g16, h⟩ := gmG_of h
          refine gm_sub [5, 6, 7, 2, 1, 0] rfl ?_
          exact ih r1 r2 (gm_kr ex8 (hO (gmTg 55 ((σ 128 (y5).toNat)).toNat) 7)) qr13 g16 h hk
      · replace h := gmI_neg c9 h
        refine gm_iload hG 0 d_k_placeFirstFree_48 rfl ?_
        refine gm_iload_n hG 4 d_k_placeFirstFree_50 rfl rfl ?_
        refine gm_icmp_ge (tgt := 82) hG d_k_placeFirstFree_51 (by decide) (gm_kr ex8 (hO (gmTg 55 ((σ 128 (y5).toNat)).toNat) 7)) r3 (fun c17 => ?_) (fun c17 => ?_)
        · replace h := gmI_pos c17 h
          refine gm_iinc (lv' := [(5, .inl (y5 + 1)), (6, .inl x8), (0, .inr 54), (1, .inr y1), (2, .inl y2), (3, .inl y3), (4, .inl y4)]) hG 6 d_k_placeFirstFree_82 rfl (by decide) rfl ?_
          refine gm_goto (tgt := 19) hG d_k_placeFirstFree_85 (by decide) ?_
          obtain ⟨g18, h⟩ := gmG_of h
          refine gm_sub [2, 3, 4, 5, 6, 0] rfl ?_
          exact ih r1 r2 r3 r4 g18 h hk
        · replace h := gmI_neg c17 h
          refine gm_aload_n hG 1 d_k_placeFirstFree_54 rfl rfl ?_
          refine gm_aload_n hG 2 d_k_placeFirstFree_55 rfl rfl ?_
          refine gm_aload_n hG 1 d_k_placeFirstFree_56 rfl rfl ?_
          refine gm_aload_n hG 2 d_k_placeFirstFree_57 rfl rfl ?_
          refine gm_iload hG 0 d_k_placeFirstFree_58 rfl ?_
          refine gm_iload_n hG 3 d_k_placeFirstFree_60 rfl rfl ?_
          obtain ⟨r20, s19, es19, h⟩ := gmB_of h
          refine gm_callVi hG [.inr y1, .inl x8, .inl y2] [.inr y1, .inr 54] gmM_0_135 (Wk_takenBits r1 (gm_kr ex8 (hO (gmTg 55 ((σ 128 (y5).toNat)).toNat) 7)) r2 es19) gmKc_54 rfl (by decide) (Nat.le_of_ble_eq_true rfl) rfl d_k_placeFirstFree_61 (fun qr20 => ?_)
          refine gm_ok (fun hOs19 => ?_)
          obtain ⟨r22, s21, es21, h⟩ := gmB_of h
          refine gm_callVi hG [.inr y1, .inl r20] [] gmM_0_139 (Wk_firstGap r1 qr20 es21) gmKc_54 rfl (by decide) (Nat.le_of_ble_eq_true rfl) rfl d_k_placeFirstFree_64 (fun qr22 => ?_)
          refine gm_ok (fun hOs21 => ?_)
          refine gm_istore (lv' := [(7, .inl r22), (6, .inl x8), (0, .inr 54), (1, .inr y1), (2, .inl y2), (3, .inl y3), (4, .inl y4), (5, .inl y5)]) hG d_k_placeFirstFree_67 (by decide) rfl ?_
          refine gm_iload hG 0 d_k_placeFirstFree_69 rfl ?_
          refine gm_iconst hG d_k_placeFirstFree_71 ?_
          refine gm_icmp_eq (tgt := 82) hG d_k_placeFirstFree_72 (by decide) qr22 (by decide) (fun c23 => ?_) (fun c23 => ?_)
          · replace h := gmI_pos c23 h
            refine gm_iinc (lv' := [(5, .inl (y5 + 1)), (7, .inl r22), (6, .inl x8), (0, .inr 54), (1, .inr y1), (2, .inl y2), (3, .inl y3), (4, .inl y4)]) hG 7 d_k_placeFirstFree_82 rfl (by decide) rfl ?_
            refine gm_goto (tgt := 19) hG d_k_placeFirstFree_85 (by decide) ?_
            obtain ⟨g24, h⟩ := gmG_of h
            refine gm_sub [3, 4, 5, 6, 7, 0] rfl ?_
            exact ih r1 r2 r3 r4 g24 h hk
          · replace h := gmI_neg c23 h
            refine gm_iload hG 1 d_k_placeFirstFree_75 rfl ?_
            refine gm_istore_n (lv' := [(3, .inl x8), (7, .inl r22), (6, .inl x8), (0, .inr 54), (1, .inr y1), (2, .inl y2), (4, .inl y4), (5, .inl y5)]) hG d_k_placeFirstFree_77 rfl (by decide) rfl ?_
            refine gm_iload hG 1 d_k_placeFirstFree_78 rfl ?_
            refine gm_istore (lv' := [(4, .inl r22), (3, .inl x8), (7, .inl r22), (6, .inl x8), (0, .inr 54), (1, .inr y1), (2, .inl y2), (5, .inl y5)]) hG d_k_placeFirstFree_80 (by decide) rfl ?_
            refine gm_iinc (lv' := [(5, .inl (y5 + 1)), (4, .inl r22), (3, .inl x8), (7, .inl r22), (6, .inl x8), (0, .inr 54), (1, .inr y1), (2, .inl y2)]) hG 7 d_k_placeFirstFree_82 rfl (by decide) rfl ?_
            refine gm_goto (tgt := 19) hG d_k_placeFirstFree_85 (by decide) ?_
            obtain ⟨g25, h⟩ := gmG_of h
            refine gm_sub [5, 6, 7, 2, 1, 0] rfl ?_
            exact ih r1 r2 (gm_kr ex8 (hO (gmTg 55 ((σ 128 (y5).toNat)).toNat) 7)) qr22 g25 h hk
set_option maxRecDepth 100000 in
set_option maxHeartbeats 4000000 in
theorem Wk_placeFirstFree {k1 : Nat} {a1 : Int} {σ : St} {rs : St} (hk1 : gmKd k1 = 1) (ra1 : gmR a1) (h : Fk_placeFirstFree k1 a1 σ = some rs) : Ctr gmY0_placeFirstFree prog_2_method_15_code 8 none 1 27 [.inr 54, .inr k1, .inl a1] σ none rs := by
  refine Ctr.ofV (own := "GarmentMarker$Marker") (by decide +kernel) rfl (Nat.le_of_ble_eq_true rfl) (fun φ hG hF => ?_)
  unfold Fk_placeFirstFree at h
  refine gm_lv (l2 := [(0, .inr 54), (1, .inr k1), (2, .inl a1)]) rfl ?_
  refine gm_ok (fun hO => ?_)
  refine gm_iconst hG d_k_placeFirstFree_0 ?_
  refine gm_istore_n (lv' := [(3, .inl 0), (0, .inr 54), (1, .inr k1), (2, .inl a1)]) hG d_k_placeFirstFree_1 rfl (by decide) rfl ?_
  refine gm_aload_n hG 1 d_k_placeFirstFree_2 rfl rfl ?_
  refine gm_aload_n hG 2 d_k_placeFirstFree_3 rfl rfl ?_
  refine gm_aload_n hG 1 d_k_placeFirstFree_4 rfl rfl ?_
  refine gm_aload_n hG 2 d_k_placeFirstFree_5 rfl rfl ?_
  refine gm_iconst hG d_k_placeFirstFree_6 ?_
  refine gm_iload_n hG 3 d_k_placeFirstFree_7 rfl rfl ?_
  obtain ⟨r2, s1, es1, h⟩ := gmB_of h
  refine gm_callVi hG [.inr k1, .inl 0, .inl a1] [.inr k1, .inr 54] gmM_0_135 (Wk_takenBits hk1 (by decide) ra1 es1) gmKc_54 rfl (by decide) (Nat.le_of_ble_eq_true rfl) rfl d_k_placeFirstFree_8 (fun qr2 => ?_)
  refine gm_ok (fun hOs1 => ?_)
  obtain ⟨r4, s3, es3, h⟩ := gmB_of h
  refine gm_callVi hG [.inr k1, .inl r2] [] gmM_0_139 (Wk_firstGap hk1 qr2 es3) gmKc_54 rfl (by decide) (Nat.le_of_ble_eq_true rfl) rfl d_k_placeFirstFree_11 (fun qr4 => ?_)
  refine gm_ok (fun hOs3 => ?_)
  refine gm_istore (lv' := [(4, .inl r4), (3, .inl 0), (0, .inr 54), (1, .inr k1), (2, .inl a1)]) hG d_k_placeFirstFree_14 (by decide) rfl ?_
  refine gm_iconst hG d_k_placeFirstFree_16 ?_
  refine gm_istore (lv' := [(5, .inl 0), (4, .inl r4), (3, .inl 0), (0, .inr 54), (1, .inr k1), (2, .inl a1)]) hG d_k_placeFirstFree_17 (by decide) rfl ?_
  refine gm_sub [3, 4, 5, 2, 1, 0] rfl ?_
  refine Wk_placeFirstFree_19 hG hF gmN hk1 ra1 (by decide) qr4 (by decide) h (fun {x26} {x27} {s28} qx26 qx27 h => ?_)
  refine gm_ok (fun hOs28 => ?_)
  refine gm_aload_n hG 0 d_k_placeFirstFree_88 rfl rfl ?_
  refine gm_iload_n hG 1 d_k_placeFirstFree_89 rfl rfl ?_
  refine gm_iload hG 2 d_k_placeFirstFree_90 rfl ?_
  obtain ⟨s29, es29, h⟩ := gmBv_of h
  refine gm_callVv hG [.inl x26, .inl x27] [] gmM_0_127 (Wp_placeAt hk1 qx26 qx27 es29) hk1 rfl (by decide) (Nat.le_of_ble_eq_true rfl) rfl d_k_placeFirstFree_92 ?_
  refine gm_ok (fun hOs29 => ?_)
  exact gm_vret' hF h d_k_placeFirstFree_95
def Fk_packFirstFree_2 : Nat → Int → St → (St → Option St) → Option St
  | 0, _, _, _ => none
  | n + 1, y1, σ, k => if (σ 54 1) ≤ y1 then k σ else gmG (0 ≤ y1 ∧ y1 < 72) (gmG (0 ≤ (σ 128 (y1).toNat) ∧ (σ 128 (y1).toNat) < 72) (gmBv (Fk_placeFirstFree (gmTg 55 ((σ 128 (y1).toNat)).toNat) y1 σ) (fun s4 => gmG (gmR (y1 + 1)) (Fk_packFirstFree_2 n (y1 + 1) s4 k))))
def Fk_packFirstFree (σ : St) : Option St := Fk_packFirstFree_2 gmN 0 σ (fun s6 => some s6)
set_option maxRecDepth 100000 in
set_option maxHeartbeats 4000000 in
theorem Wk_packFirstFree_2 {φ : Fx} {rs : St} (hG : Good φ "GarmentMarker$Marker" prog_2_method_14_code 2 2 54) (hF : FinV φ prog_2_method_14_code rs) : ∀ (n : Nat) {y1 : Int} {σ : St} {k : St → Option St}, gmR y1 → Fk_packFirstFree_2 n y1 σ k = some rs → (∀ {τ : St}, k τ = some rs → J φ τ 32 [] []) → J φ σ 2 [(0, .inr 54), (1, .inl y1)] [] := by
  intro n
  induction n with
  | zero =>
    intro _ _ _ _ h
    exact absurd h (by rw [Fk_packFirstFree_2.eq_1]; exact fun q => by cases q)
  | succ n ih =>
    intro y1 σ k r1 h hk
    rw [Fk_packFirstFree_2.eq_2] at h
    refine gm_ok (fun hO => ?_)
    refine gm_iload_n hG 1 d_k_packFirstFree_2 rfl rfl ?_
    refine gm_aload_n hG 0 d_k_packFirstFree_3 rfl rfl ?_
    refine gm_getI hG gmF_0_44 gmKc_54 rfl d_k_packFirstFree_4 (fun _ => ?_)
    refine gm_icmp_ge (tgt := 32) hG d_k_packFirstFree_7 (by decide) r1 (hO 54 1) (fun c1 => ?_) (fun c1 => ?_)
    · replace h := gmI_pos c1 h
      refine gm_sub [] rfl ?_
      exact hk h
    · replace h := gmI_neg c1 h
      refine gm_aload_n hG 0 d_k_packFirstFree_10 rfl rfl ?_
      refine gm_aload_n hG 0 d_k_packFirstFree_11 rfl rfl ?_
      refine gm_getR (t := 55) hG gmF_0_11 gmKc_54 rfl d_k_packFirstFree_12 ?_
      refine gm_aload_n hG 0 d_k_packFirstFree_15 rfl rfl ?_
      refine gm_getR (t := 128) hG gmF_0_18 gmKc_54 rfl d_k_packFirstFree_16 ?_
      refine gm_iload_n hG 1 d_k_packFirstFree_19 rfl rfl ?_
      obtain ⟨g2, h⟩ := gmG_of h
      refine gm_iald (t := (y1).toNat) hG gmKc_128 gmLc_128 g2 rfl d_k_packFirstFree_20 (fun _ => ?_)
      obtain ⟨g3, h⟩ := gmG_of h
      refine gm_aald (t := ((σ 128 (y1).toNat)).toNat) hG 5 gmKc_55 (by decide) (by decide) rfl gmLc_55 g3 rfl d_k_packFirstFree_21 ?_
      refine gm_iload_n hG 1 d_k_packFirstFree_22 rfl rfl ?_
      obtain ⟨s4, es4, h⟩ := gmBv_of h
      refine gm_callVv hG [.inr (gmTg 55 ((σ 128 (y1).toNat)).toNat), .inl y1] [] gmM_0_131 (Wk_placeFirstFree (gmKtA (k := 55) (i := (σ 128 (y1).toNat)) gmKc_55 (by rw [gmLc_55]; exact g3)) r1 es4) gmKc_54 rfl (by decide) (Nat.le_of_ble_eq_true rfl) rfl d_k_packFirstFree_23 ?_
      refine gm_ok (fun hOs4 => ?_)
      refine gm_iinc (lv' := [(1, .inl (y1 + 1)), (0, .inr 54)]) hG 1 d_k_packFirstFree_26 rfl (by decide) rfl ?_
      refine gm_goto (tgt := 2) hG d_k_packFirstFree_29 (by decide) ?_
      obtain ⟨g5, h⟩ := gmG_of h
      refine gm_sub [1, 0] rfl ?_
      exact ih g5 h hk
set_option maxRecDepth 100000 in
set_option maxHeartbeats 4000000 in
theorem Wk_packFirstFree {σ : St} {rs : St} (h : Fk_packFirstFree σ = some rs) : Ctr gmY0_packFirstFree prog_2_method_14_code 2 none 2 54 [.inr 54] σ none rs := by
  refine Ctr.ofV (own := "GarmentMarker$Marker") (by decide +kernel) rfl (Nat.le_of_ble_eq_true rfl) (fun φ hG hF => ?_)
  unfold Fk_packFirstFree at h
  refine gm_lv (l2 := [(0, .inr 54)]) rfl ?_
  refine gm_ok (fun hO => ?_)
  refine gm_iconst hG d_k_packFirstFree_0 ?_
  refine gm_istore_n (lv' := [(1, .inl 0), (0, .inr 54)]) hG d_k_packFirstFree_1 rfl (by decide) rfl ?_
  refine gm_sub [1, 0] rfl ?_
  refine Wk_packFirstFree_2 hG hF gmN (by decide) h (fun  {s6}  h => ?_)
  refine gm_ok (fun hOs6 => ?_)
  exact gm_vret' hF h d_k_packFirstFree_32
def Fk_firstShelfFor_2 : Nat → Nat → Int → Int → St → (St → Option (Int × St)) → Option (Int × St)
  | 0, _, _, _, _, _ => none
  | n + 1, y1, y2, y3, σ, k => if y2 ≤ y3 then k σ else gmG (0 ≤ y3 ∧ y3 < 72) (if (σ 130 (y3).toNat) < (σ y1 3) then gmG (gmR (y3 + 1)) (Fk_firstShelfFor_2 n y1 y2 (y3 + 1) σ k) else gmG (gmR ((σ 131 (y3).toNat) + (σ y1 4))) (if (σ 54 2) < ((σ 131 (y3).toNat) + (σ y1 4)) then gmG (gmR (y3 + 1)) (Fk_firstShelfFor_2 n y1 y2 (y3 + 1) σ k) else some (y3, σ)))
def Fk_firstShelfFor (k1 : Nat) (a1 : Int) (σ : St) : Option (Int × St) := Fk_firstShelfFor_2 gmN k1 a1 0 σ (fun s8 => some (a1, s8))
set_option maxRecDepth 100000 in
set_option maxHeartbeats 4000000 in
theorem Wk_firstShelfFor_2 {φ : Fx} {rv : Int} {rs : St} (hG : Good φ "GarmentMarker$Marker" prog_2_method_13_code 4 0 0) (hF : FinI φ prog_2_method_13_code rv rs) : ∀ (n : Nat) {y1 : Nat} {y2 : Int} {y3 : Int} {σ : St} {k : St → Option (Int × St)}, gmKd y1 = 1 → gmR y2 → gmR y3 → Fk_firstShelfFor_2 n y1 y2 y3 σ k = some (rv, rs) → (∀ {τ : St}, k τ = some (rv, rs) → J φ τ 46 [(2, .inl y2)] []) → J φ σ 2 [(0, .inr 54), (1, .inr y1), (2, .inl y2), (3, .inl y3)] [] := by
  intro n
  induction n with
  | zero =>
    intro _ _ _ _ _ _ _ _ h
    exact absurd h (by rw [Fk_firstShelfFor_2.eq_1]; exact fun q => by cases q)
  | succ n ih =>
    intro y1 y2 y3 σ k r1 r2 r3 h hk
    rw [Fk_firstShelfFor_2.eq_2] at h
    refine gm_ok (fun hO => ?_)
    refine gm_iload_n hG 3 d_k_firstShelfFor_2 rfl rfl ?_
    refine gm_iload_n hG 2 d_k_firstShelfFor_3 rfl rfl ?_
    refine gm_icmp_ge (tgt := 46) hG d_k_firstShelfFor_4 (by decide) r3 r2 (fun c1 => ?_) (fun c1 => ?_)
    · replace h := gmI_pos c1 h
      refine gm_sub [2] rfl ?_
      exact hk h
    · replace h := gmI_neg c1 h
      refine gm_aload_n hG 1 d_k_firstShelfFor_7 rfl rfl ?_
      refine gm_getI hG gmF_0_83 r1 (gmFrN 3 (Or.inl r1)) d_k_firstShelfFor_8 (fun _ => ?_)
      refine gm_aload_n hG 0 d_k_firstShelfFor_11 rfl rfl ?_
      refine gm_getR (t := 130) hG gmF_0_25 gmKc_54 rfl d_k_firstShelfFor_12 ?_
      refine gm_iload_n hG 3 d_k_firstShelfFor_15 rfl rfl ?_
      obtain ⟨g2, h⟩ := gmG_of h
      refine gm_iald (t := (y3).toNat) hG gmKc_130 gmLc_130 g2 rfl d_k_firstShelfFor_16 (fun _ => ?_)
      refine gm_icmp_gt (tgt := 40) hG d_k_firstShelfFor_17 (by decide) (hO y1 3) (hO 130 (y3).toNat) (fun c3 => ?_) (fun c3 => ?_)
      · replace h := gmI_pos c3 h
        refine gm_iinc (lv' := [(3, .inl (y3 + 1)), (0, .inr 54), (1, .inr y1), (2, .inl y2)]) hG 3 d_k_firstShelfFor_40 rfl (by decide) rfl ?_
        refine gm_goto (tgt := 2) hG d_k_firstShelfFor_43 (by decide) ?_
        obtain ⟨g4, h⟩ := gmG_of h
        refine gm_sub [1, 2, 3, 0] rfl ?_
        exact ih r1 r2 g4 h hk
      · replace h := gmI_neg c3 h
        refine gm_aload_n hG 0 d_k_firstShelfFor_20 rfl rfl ?_
        refine gm_getR (t := 131) hG gmF_0_28 gmKc_54 rfl d_k_firstShelfFor_21 ?_
        refine gm_iload_n hG 3 d_k_firstShelfFor_24 rfl rfl ?_
        refine gm_iald (t := (y3).toNat) hG gmKc_131 gmLc_131 g2 rfl d_k_firstShelfFor_25 (fun _ => ?_)
        refine gm_aload_n hG 1 d_k_firstShelfFor_26 rfl rfl ?_
        refine gm_getI hG gmF_0_80 r1 (gmFrN 4 (Or.inl r1)) d_k_firstShelfFor_27 (fun _ => ?_)
        refine gm_iadd hG d_k_firstShelfFor_30 ?_
        refine gm_aload_n hG 0 d_k_firstShelfFor_31 rfl rfl ?_
        refine gm_getI hG gmF_0_41 gmKc_54 rfl d_k_firstShelfFor_32 (fun _ => ?_)
        obtain ⟨g5, h⟩ := gmG_of h
        refine gm_icmp_gt (tgt := 40) hG d_k_firstShelfFor_35 (by decide) g5 (hO 54 2) (fun c6 => ?_) (fun c6 => ?_)
        · replace h := gmI_pos c6 h
          refine gm_iinc (lv' := [(3, .inl (y3 + 1)), (0, .inr 54), (1, .inr y1), (2, .inl y2)]) hG 3 d_k_firstShelfFor_40 rfl (by decide) rfl ?_
          refine gm_goto (tgt := 2) hG d_k_firstShelfFor_43 (by decide) ?_
          obtain ⟨g7, h⟩ := gmG_of h
          refine gm_sub [1, 2, 3, 0] rfl ?_
          exact ih r1 r2 g7 h hk
        · replace h := gmI_neg c6 h
          refine gm_iload_n hG 3 d_k_firstShelfFor_38 rfl rfl ?_
          exact gm_iret' hF h r3 d_k_firstShelfFor_39
set_option maxRecDepth 100000 in
set_option maxHeartbeats 4000000 in
theorem Wk_firstShelfFor {k1 : Nat} {a1 : Int} {σ : St} {rv : Int} {rs : St} (hk1 : gmKd k1 = 1) (ra1 : gmR a1) (h : Fk_firstShelfFor k1 a1 σ = some (rv, rs)) : Ctr gmY0_firstShelfFor prog_2_method_13_code 4 (some .int) 0 0 [.inr 54, .inr k1, .inl a1] σ (some rv) rs := by
  refine Ctr.ofI (own := "GarmentMarker$Marker") (by decide +kernel) rfl (Nat.le_of_ble_eq_true rfl) (fun φ hG hF => ?_)
  unfold Fk_firstShelfFor at h
  refine gm_lv (l2 := [(0, .inr 54), (1, .inr k1), (2, .inl a1)]) rfl ?_
  refine gm_ok (fun hO => ?_)
  refine gm_iconst hG d_k_firstShelfFor_0 ?_
  refine gm_istore_n (lv' := [(3, .inl 0), (0, .inr 54), (1, .inr k1), (2, .inl a1)]) hG d_k_firstShelfFor_1 rfl (by decide) rfl ?_
  refine gm_sub [1, 2, 3, 0] rfl ?_
  refine Wk_firstShelfFor_2 hG hF gmN hk1 ra1 (by decide) h (fun  {s8}  h => ?_)
  refine gm_ok (fun hOs8 => ?_)
  refine gm_iload_n hG 0 d_k_firstShelfFor_46 rfl rfl ?_
  exact gm_iret' hF h ra1 d_k_firstShelfFor_47
