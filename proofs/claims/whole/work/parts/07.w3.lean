def Fx_findBestMix_9 : Nat → Int → Int → Int → Int → St → (Int → St → Option (Int × St)) → Option (Int × St)
  | 0, _, _, _, _, _, _ => none
  | n + 1, y1, y2, y3, y4, σ, k => if 27 ≤ y4 then k y1 σ else gmBv (Fx_lookAtMix y4 σ) (fun s2 => gmBv (Fk_makeParts 132 s2) (fun s3 => gmB (Ft_pliesFor 132 s3) (fun r5 s4 => if r5 = (-1008) then gmG (gmR (y4 + 1)) (Fx_findBestMix_9 n y1 y2 y3 (y4 + 1) s4 k) else gmB (Fk_hasLayout s4) (fun r9 s8 => if r9 = 0 then gmG (gmR (y4 + 1)) (Fx_findBestMix_9 n y1 y2 y3 (y4 + 1) s8 k) else gmB (Fk_lengthPacked (s8 1 8) (s8 1 9) s8) (fun r13 s12 => gmL ((r5 * r13) : Int) (fun x14 => gmB (Ft_surplusFor 132 r5 s12) (fun r16 s15 => if y1 = 0 then gmG (gmR x14) (gmG (gmR (y4 + 1)) (Fx_findBestMix_9 n y4 x14 r16 (y4 + 1) s15 k)) else gmG (gmR x14) (if x14 < y2 then gmG (gmR (y4 + 1)) (Fx_findBestMix_9 n y4 x14 r16 (y4 + 1) s15 k) else if x14 = y2 then if y3 ≤ r16 then gmG (gmR (y4 + 1)) (Fx_findBestMix_9 n y1 y2 y3 (y4 + 1) s15 k) else gmG (gmR (y4 + 1)) (Fx_findBestMix_9 n y4 x14 r16 (y4 + 1) s15 k) else gmG (gmR (y4 + 1)) (Fx_findBestMix_9 n y1 y2 y3 (y4 + 1) s15 k)))))))))
def Fx_findBestMix (σ : St) : Option (Int × St) := Fx_findBestMix_9 gmN 0 0 0 1 σ (fun x28 s29 => some (x28, s29))
set_option maxRecDepth 100000 in
set_option maxHeartbeats 4000000 in
theorem Wx_findBestMix_9 {φ : Fx} {rv : Int} {rs : St} (hG : Good φ "GarmentMarker" prog_1_method_49_code 8 4 99) (hF : FinI φ prog_1_method_49_code rv rs) : ∀ (n : Nat) {y1 : Int} {y2 : Int} {y3 : Int} {y4 : Int} {σ : St} {k : Int → St → Option (Int × St)}, gmR y1 → gmR y2 → gmR y3 → gmR y4 → Fx_findBestMix_9 n y1 y2 y3 y4 σ k = some (rv, rs) → (∀ {z1 : Int} {τ : St}, gmR z1 → k z1 τ = some (rv, rs) → J φ τ 146 [(1, .inl z1)] []) → J φ σ 9 [(0, .inr 0), (1, .inl y1), (2, .inl y2), (3, .inl y3), (4, .inl y4)] [] := by
  intro n
  induction n with
  | zero =>
    intro _ _ _ _ _ _ _ _ _ _ h
    exact absurd h (by rw [Fx_findBestMix_9.eq_1]; exact fun q => by cases q)
  | succ n ih =>
    intro y1 y2 y3 y4 σ k r1 r2 r3 r4 h hk
    rw [Fx_findBestMix_9.eq_2] at h
    refine gm_ok (fun hO => ?_)
    refine gm_iload hG 4 d_x_findBestMix_9 rfl ?_
    refine gm_bipush hG d_x_findBestMix_11 (by decide) ?_
    refine gm_icmp_ge (tgt := 146) hG d_x_findBestMix_13 (by decide) r4 (by decide) (fun c1 => ?_) (fun c1 => ?_)
    · replace h := gmI_pos c1 h
      refine gm_sub [1] rfl ?_
      exact hk r1 h
    · replace h := gmI_neg c1 h
      refine gm_aload_n hG 0 d_x_findBestMix_16 rfl rfl ?_
      refine gm_iload hG 4 d_x_findBestMix_17 rfl ?_
      obtain ⟨s2, es2, h⟩ := gmBv_of h
      refine gm_callVv hG [.inl y4] [] gmM_5_209 (Wx_lookAtMix r4 es2) gmKc_0 rfl (by decide) (Nat.le_of_ble_eq_true rfl) rfl d_x_findBestMix_19 ?_
      refine gm_ok (fun hOs2 => ?_)
      refine gm_aload_n hG 0 d_x_findBestMix_22 rfl rfl ?_
      refine gm_getR (t := 54) hG gmF_5_27 gmKc_0 rfl d_x_findBestMix_23 ?_
      refine gm_aload_n hG 0 d_x_findBestMix_26 rfl rfl ?_
      refine gm_getR (t := 1) hG gmF_5_12 gmKc_0 rfl d_x_findBestMix_27 ?_
      refine gm_aload_n hG 0 d_x_findBestMix_30 rfl rfl ?_
      refine gm_getR (t := 132) hG gmF_5_31 gmKc_0 rfl d_x_findBestMix_31 ?_
      obtain ⟨s3, es3, h⟩ := gmBv_of h
      refine gm_callVv hG [.inr 1, .inr 132] [] gmM_5_142 (Wk_makeParts gmKc_132 es3) gmKc_54 rfl (by decide) (Nat.le_of_ble_eq_true rfl) rfl d_x_findBestMix_34 ?_
      refine gm_ok (fun hOs3 => ?_)
      refine gm_aload_n hG 0 d_x_findBestMix_37 rfl rfl ?_
      refine gm_getR (t := 1) hG gmF_5_12 gmKc_0 rfl d_x_findBestMix_38 ?_
      refine gm_aload_n hG 0 d_x_findBestMix_41 rfl rfl ?_
      refine gm_getR (t := 132) hG gmF_5_31 gmKc_0 rfl d_x_findBestMix_42 ?_
      obtain ⟨r5, s4, es4, h⟩ := gmB_of h
      refine gm_callVi hG [.inr 132] [] gmM_5_202 (Wt_pliesFor gmKc_132 es4) gmKc_1 rfl (by decide) (Nat.le_of_ble_eq_true rfl) rfl d_x_findBestMix_45 (fun qr5 => ?_)
      refine gm_ok (fun hOs4 => ?_)
      refine gm_istore (lv' := [(5, .inl r5), (0, .inr 0), (1, .inl y1), (2, .inl y2), (3, .inl y3), (4, .inl y4)]) hG d_x_findBestMix_48 (by decide) rfl ?_
      refine gm_iload hG 0 d_x_findBestMix_50 rfl ?_
      refine gm_sipush hG d_x_findBestMix_52 (by decide) ?_
      refine gm_icmp_eq (tgt := 140) hG d_x_findBestMix_55 (by decide) qr5 (by decide) (fun c6 => ?_) (fun c6 => ?_)
      · replace h := gmI_pos c6 h
        refine gm_iinc (lv' := [(4, .inl (y4 + 1)), (5, .inl r5), (0, .inr 0), (1, .inl y1), (2, .inl y2), (3, .inl y3)]) hG 5 d_x_findBestMix_140 rfl (by decide) rfl ?_
        refine gm_goto (tgt := 9) hG d_x_findBestMix_143 (by decide) ?_
        obtain ⟨g7, h⟩ := gmG_of h
        refine gm_sub [2, 3, 4, 5, 0] rfl ?_
        exact ih r1 r2 r3 g7 h hk
      · replace h := gmI_neg c6 h
        refine gm_aload_n hG 1 d_x_findBestMix_58 rfl rfl ?_
        refine gm_getR (t := 54) hG gmF_5_27 gmKc_0 rfl d_x_findBestMix_59 ?_
        obtain ⟨r9, s8, es8, h⟩ := gmB_of h
        refine gm_callVi hG [] [] gmM_5_212 (Wk_hasLayout es8) gmKc_54 rfl (by decide) (Nat.le_of_ble_eq_true rfl) rfl d_x_findBestMix_62 (fun qr9 => ?_)
        refine gm_ok (fun hOs8 => ?_)
        refine gm_if_eq (tgt := 140) hG d_x_findBestMix_65 (by decide) qr9 (fun c10 => ?_) (fun c10 => ?_)
        · replace h := gmI_pos c10 h
          refine gm_iinc (lv' := [(4, .inl (y4 + 1)), (5, .inl r5), (0, .inr 0), (1, .inl y1), (2, .inl y2), (3, .inl y3)]) hG 5 d_x_findBestMix_140 rfl (by decide) rfl ?_
          refine gm_goto (tgt := 9) hG d_x_findBestMix_143 (by decide) ?_
          obtain ⟨g11, h⟩ := gmG_of h
          refine gm_sub [2, 3, 4, 5, 0] rfl ?_
          exact ih r1 r2 r3 g11 h hk
        · replace h := gmI_neg c10 h
          refine gm_iload hG 0 d_x_findBestMix_68 rfl ?_
          refine gm_aload_n hG 1 d_x_findBestMix_70 rfl rfl ?_
          refine gm_getR (t := 54) hG gmF_5_27 gmKc_0 rfl d_x_findBestMix_71 ?_
          refine gm_aload_n hG 1 d_x_findBestMix_74 rfl rfl ?_
          refine gm_getR (t := 1) hG gmF_5_12 gmKc_0 rfl d_x_findBestMix_75 ?_
          refine gm_getI hG gmF_5_132 gmKc_1 rfl d_x_findBestMix_78 (fun _ => ?_)
          refine gm_aload_n hG 1 d_x_findBestMix_81 rfl rfl ?_
          refine gm_getR (t := 1) hG gmF_5_12 gmKc_0 rfl d_x_findBestMix_82 ?_
          refine gm_getI hG gmF_5_135 gmKc_1 rfl d_x_findBestMix_85 (fun _ => ?_)
          obtain ⟨r13, s12, es12, h⟩ := gmB_of h
          refine gm_callVi hG [.inl (s8 1 8), .inl (s8 1 9)] [.inl r5] gmM_5_193 (Wk_lengthPacked (hOs8 1 8) (hOs8 1 9) es12) gmKc_54 rfl (by decide) (Nat.le_of_ble_eq_true rfl) rfl d_x_findBestMix_88 (fun qr13 => ?_)
          refine gm_ok (fun hOs12 => ?_)
          refine gm_imul hG d_x_findBestMix_91 ?_
          obtain ⟨x14, ex14, h⟩ := gmL_of h
          refine gm_top ex14 ?_
          refine gm_istore (lv' := [(6, .inl x14), (5, .inl r5), (0, .inr 0), (1, .inl y1), (2, .inl y2), (3, .inl y3), (4, .inl y4)]) hG d_x_findBestMix_92 (by decide) rfl ?_
          refine gm_aload_n hG 2 d_x_findBestMix_94 rfl rfl ?_
          refine gm_getR (t := 1) hG gmF_5_12 gmKc_0 rfl d_x_findBestMix_95 ?_
          refine gm_aload_n hG 2 d_x_findBestMix_98 rfl rfl ?_
          refine gm_getR (t := 132) hG gmF_5_31 gmKc_0 rfl d_x_findBestMix_99 ?_
          refine gm_iload hG 1 d_x_findBestMix_102 rfl ?_
          obtain ⟨r16, s15, es15, h⟩ := gmB_of h
          refine gm_callVi hG [.inr 132, .inl r5] [] gmM_5_205 (Wt_surplusFor gmKc_132 qr5 es15) gmKc_1 rfl (by decide) (Nat.le_of_ble_eq_true rfl) rfl d_x_findBestMix_104 (fun qr16 => ?_)
          refine gm_ok (fun hOs15 => ?_)
          refine gm_istore (lv' := [(7, .inl r16), (6, .inl x14), (5, .inl r5), (0, .inr 0), (1, .inl y1), (2, .inl y2), (3, .inl y3), (4, .inl y4)]) hG d_x_findBestMix_107 (by decide) rfl ?_
          refine gm_iload_n hG 4 d_x_findBestMix_109 rfl rfl ?_
          refine gm_if_eq (tgt := 131) hG d_x_findBestMix_110 (by decide) r1 (fun c17 => ?_) (fun c17 => ?_)
          · replace h := gmI_pos c17 h
            refine gm_iload hG 7 d_x_findBestMix_131 rfl ?_
            refine gm_istore_n (lv' := [(1, .inl y4), (7, .inl r16), (6, .inl x14), (5, .inl r5), (0, .inr 0), (2, .inl y2), (3, .inl y3), (4, .inl y4)]) hG d_x_findBestMix_133 rfl (by decide) rfl ?_
            refine gm_iload hG 2 d_x_findBestMix_134 rfl ?_
            refine gm_istore_n (lv' := [(2, .inl x14), (1, .inl y4), (7, .inl r16), (6, .inl x14), (5, .inl r5), (0, .inr 0), (3, .inl y3), (4, .inl y4)]) hG d_x_findBestMix_136 rfl (by decide) rfl ?_
            refine gm_iload hG 2 d_x_findBestMix_137 rfl ?_
            refine gm_istore_n (lv' := [(3, .inl r16), (2, .inl x14), (1, .inl y4), (7, .inl r16), (6, .inl x14), (5, .inl r5), (0, .inr 0), (4, .inl y4)]) hG d_x_findBestMix_139 rfl (by decide) rfl ?_
            refine gm_iinc (lv' := [(4, .inl (y4 + 1)), (3, .inl r16), (2, .inl x14), (1, .inl y4), (7, .inl r16), (6, .inl x14), (5, .inl r5), (0, .inr 0)]) hG 7 d_x_findBestMix_140 rfl (by decide) rfl ?_
            refine gm_goto (tgt := 9) hG d_x_findBestMix_143 (by decide) ?_
            obtain ⟨g18, h⟩ := gmG_of h
            obtain ⟨g19, h⟩ := gmG_of h
            refine gm_sub [7, 3, 2, 1, 0] rfl ?_
            exact ih r4 g18 qr16 g19 h hk
          · replace h := gmI_neg c17 h
            refine gm_iload hG 1 d_x_findBestMix_113 rfl ?_
            refine gm_iload_n hG 5 d_x_findBestMix_115 rfl rfl ?_
            obtain ⟨g20, h⟩ := gmG_of h
            refine gm_icmp_lt (tgt := 131) hG d_x_findBestMix_116 (by decide) g20 r2 (fun c21 => ?_) (fun c21 => ?_)
            · replace h := gmI_pos c21 h
              refine gm_iload hG 7 d_x_findBestMix_131 rfl ?_
              refine gm_istore_n (lv' := [(1, .inl y4), (7, .inl r16), (6, .inl x14), (5, .inl r5), (0, .inr 0), (2, .inl y2), (3, .inl y3), (4, .inl y4)]) hG d_x_findBestMix_133 rfl (by decide) rfl ?_
              refine gm_iload hG 2 d_x_findBestMix_134 rfl ?_
              refine gm_istore_n (lv' := [(2, .inl x14), (1, .inl y4), (7, .inl r16), (6, .inl x14), (5, .inl r5), (0, .inr 0), (3, .inl y3), (4, .inl y4)]) hG d_x_findBestMix_136 rfl (by decide) rfl ?_
              refine gm_iload hG 2 d_x_findBestMix_137 rfl ?_
              refine gm_istore_n (lv' := [(3, .inl r16), (2, .inl x14), (1, .inl y4), (7, .inl r16), (6, .inl x14), (5, .inl r5), (0, .inr 0), (4, .inl y4)]) hG d_x_findBestMix_139 rfl (by decide) rfl ?_
              refine gm_iinc (lv' := [(4, .inl (y4 + 1)), (3, .inl r16), (2, .inl x14), (1, .inl y4), (7, .inl r16), (6, .inl x14), (5, .inl r5), (0, .inr 0)]) hG 7 d_x_findBestMix_140 rfl (by decide) rfl ?_
              refine gm_goto (tgt := 9) hG d_x_findBestMix_143 (by decide) ?_
              obtain ⟨g22, h⟩ := gmG_of h
              refine gm_sub [7, 3, 2, 1, 0] rfl ?_
              exact ih r4 g20 qr16 g22 h hk
            · replace h := gmI_neg c21 h
              refine gm_iload hG 1 d_x_findBestMix_119 rfl ?_
              refine gm_iload_n hG 5 d_x_findBestMix_121 rfl rfl ?_
              refine gm_icmp_ne (tgt := 140) hG d_x_findBestMix_122 (by decide) g20 r2 (fun c23 => ?_) (fun c23 => ?_)
              · replace h := gmI_neg c23 h
                refine gm_iinc (lv' := [(4, .inl (y4 + 1)), (7, .inl r16), (6, .inl x14), (5, .inl r5), (0, .inr 0), (1, .inl y1), (2, .inl y2), (3, .inl y3)]) hG 7 d_x_findBestMix_140 rfl (by decide) rfl ?_
                refine gm_goto (tgt := 9) hG d_x_findBestMix_143 (by decide) ?_
                obtain ⟨g24, h⟩ := gmG_of h
                refine gm_sub [4, 5, 6, 7, 0] rfl ?_
                exact ih r1 r2 r3 g24 h hk
              · replace h := gmI_pos c23 h
                refine gm_iload hG 0 d_x_findBestMix_125 rfl ?_
                refine gm_iload_n hG 6 d_x_findBestMix_127 rfl rfl ?_
                refine gm_icmp_ge (tgt := 140) hG d_x_findBestMix_128 (by decide) qr16 r3 (fun c25 => ?_) (fun c25 => ?_)
                · replace h := gmI_pos c25 h
                  refine gm_iinc (lv' := [(4, .inl (y4 + 1)), (7, .inl r16), (6, .inl x14), (5, .inl r5), (0, .inr 0), (1, .inl y1), (2, .inl y2), (3, .inl y3)]) hG 7 d_x_findBestMix_140 rfl (by decide) rfl ?_
                  refine gm_goto (tgt := 9) hG d_x_findBestMix_143 (by decide) ?_
                  obtain ⟨g26, h⟩ := gmG_of h
                  refine gm_sub [4, 5, 6, 7, 0] rfl ?_
                  exact ih r1 r2 r3 g26 h hk
                · replace h := gmI_neg c25 h
                  refine gm_iload hG 7 d_x_findBestMix_131 rfl ?_
                  refine gm_istore_n (lv' := [(1, .inl y4), (7, .inl r16), (6, .inl x14), (5, .inl r5), (0, .inr 0), (2, .inl y2), (3, .inl y3), (4, .inl y4)]) hG d_x_findBestMix_133 rfl (by decide) rfl ?_
                  refine gm_iload hG 2 d_x_findBestMix_134 rfl ?_
                  refine gm_istore_n (lv' := [(2, .inl x14), (1, .inl y4), (7, .inl r16), (6, .inl x14), (5, .inl r5), (0, .inr 0), (3, .inl y3), (4, .inl y4)]) hG d_x_findBestMix_136 rfl (by decide) rfl ?_
                  refine gm_iload hG 2 d_x_findBestMix_137 rfl ?_
                  refine gm_istore_n (lv' := [(3, .inl r16), (2, .inl x14), (1, .inl y4), (7, .inl r16), (6, .inl x14), (5, .inl r5), (0, .inr 0), (4, .inl y4)]) hG d_x_findBestMix_139 rfl (by decide) rfl ?_
                  refine gm_iinc (lv' := [(4, .inl (y4 + 1)), (3, .inl r16), (2, .inl x14), (1, .inl y4), (7, .inl r16), (6, .inl x14), (5, .inl r5), (0, .inr 0)]) hG 7 d_x_findBestMix_140 rfl (by decide) rfl ?_
                  refine gm_goto (tgt := 9) hG d_x_findBestMix_143 (by decide) ?_
                  obtain ⟨g27, h⟩ := gmG_of h
                  refine gm_sub [7, 3, 2, 1, 0] rfl ?_
                  exact ih r4 g20 qr16 g27 h hk
set_option maxRecDepth 100000 in
set_option maxHeartbeats 4000000 in
theorem Wx_findBestMix {σ : St} {rv : Int} {rs : St} (h : Fx_findBestMix σ = some (rv, rs)) : Ctr gmY5_findBestMix prog_1_method_49_code 8 (some .int) 4 99 [.inr 0] σ (some rv) rs := by
  refine Ctr.ofI (own := "GarmentMarker") (by decide +kernel) rfl (Nat.le_of_ble_eq_true rfl) (fun φ hG hF => ?_)
  unfold Fx_findBestMix at h
  refine gm_lv (l2 := [(0, .inr 0)]) rfl ?_
  refine gm_ok (fun hO => ?_)
  refine gm_iconst hG d_x_findBestMix_0 ?_
  refine gm_istore_n (lv' := [(1, .inl 0), (0, .inr 0)]) hG d_x_findBestMix_1 rfl (by decide) rfl ?_
  refine gm_iconst hG d_x_findBestMix_2 ?_
  refine gm_istore_n (lv' := [(2, .inl 0), (1, .inl 0), (0, .inr 0)]) hG d_x_findBestMix_3 rfl (by decide) rfl ?_
  refine gm_iconst hG d_x_findBestMix_4 ?_
  refine gm_istore_n (lv' := [(3, .inl 0), (2, .inl 0), (1, .inl 0), (0, .inr 0)]) hG d_x_findBestMix_5 rfl (by decide) rfl ?_
  refine gm_iconst hG d_x_findBestMix_6 ?_
  refine gm_istore (lv' := [(4, .inl 1), (3, .inl 0), (2, .inl 0), (1, .inl 0), (0, .inr 0)]) hG d_x_findBestMix_7 (by decide) rfl ?_
  refine gm_sub [4, 3, 2, 1, 0] rfl ?_
  refine Wx_findBestMix_9 hG hF gmN (by decide) (by decide) (by decide) (by decide) h (fun {x28} {s29} qx28 h => ?_)
  refine gm_ok (fun hOs29 => ?_)
  refine gm_iload_n hG 0 d_x_findBestMix_146 rfl rfl ?_
  exact gm_iret' hF h qx28 d_x_findBestMix_147
def Fx_bestMix (σ : St) : Option (Int × St) := gmB (Fx_findBestMix σ) (fun r2 s1 => if r2 = 0 then some ((-1009), s1) else gmBv (Fx_lookAtMix r2 s1) (fun s4 => gmG (gmR (((100 * (s4 132 0)) + (10 * (s4 132 1))) + (s4 132 2))) (some ((((100 * (s4 132 0)) + (10 * (s4 132 1))) + (s4 132 2)), s4))))
set_option maxRecDepth 100000 in
set_option maxHeartbeats 4000000 in
theorem Wx_bestMix {σ : St} {rv : Int} {rs : St} (h : Fx_bestMix σ = some (rv, rs)) : Ctr gmY5_bestMix prog_1_method_35_code 2 (some .int) 5 126 [.inr 0] σ (some rv) rs := by
  refine Ctr.ofI (own := "GarmentMarker") (by decide +kernel) rfl (Nat.le_of_ble_eq_true rfl) (fun φ hG hF => ?_)
  unfold Fx_bestMix at h
  refine gm_lv (l2 := [(0, .inr 0)]) rfl ?_
  refine gm_ok (fun hO => ?_)
  refine gm_aload_n hG 0 d_x_bestMix_0 rfl rfl ?_
  obtain ⟨r2, s1, es1, h⟩ := gmB_of h
  refine gm_callVi hG [] [] gmM_5_216 (Wx_findBestMix es1) gmKc_0 rfl (by decide) (Nat.le_of_ble_eq_true rfl) rfl d_x_bestMix_1 (fun qr2 => ?_)
  refine gm_ok (fun hOs1 => ?_)
  refine gm_istore_n (lv' := [(1, .inl r2), (0, .inr 0)]) hG d_x_bestMix_4 rfl (by decide) rfl ?_
  refine gm_iload_n hG 0 d_x_bestMix_5 rfl rfl ?_
  refine gm_if_ne (tgt := 13) hG d_x_bestMix_6 (by decide) qr2 (fun c3 => ?_) (fun c3 => ?_)
  · replace h := gmI_neg c3 h
    refine gm_aload_n hG 1 d_x_bestMix_13 rfl rfl ?_
    refine gm_iload_n hG 0 d_x_bestMix_14 rfl rfl ?_
    obtain ⟨s4, es4, h⟩ := gmBv_of h
    refine gm_callVv hG [.inl r2] [] gmM_5_209 (Wx_lookAtMix qr2 es4) gmKc_0 rfl (by decide) (Nat.le_of_ble_eq_true rfl) rfl d_x_bestMix_15 ?_
    refine gm_ok (fun hOs4 => ?_)
    refine gm_bipush hG d_x_bestMix_18 (by decide) ?_
    refine gm_aload_n hG 1 d_x_bestMix_20 rfl rfl ?_
    refine gm_getR (t := 132) hG gmF_5_31 gmKc_0 rfl d_x_bestMix_21 ?_
    refine gm_iconst hG d_x_bestMix_24 ?_
    refine gm_iald (t := 0) hG gmKc_132 gmLc_132 (by decide) rfl d_x_bestMix_25 (fun _ => ?_)
    refine gm_imul hG d_x_bestMix_26 ?_
    refine gm_bipush hG d_x_bestMix_27 (by decide) ?_
    refine gm_aload_n hG 1 d_x_bestMix_29 rfl rfl ?_
    refine gm_getR (t := 132) hG gmF_5_31 gmKc_0 rfl d_x_bestMix_30 ?_
    refine gm_iconst hG d_x_bestMix_33 ?_
    refine gm_iald (t := 1) hG gmKc_132 gmLc_132 (by decide) rfl d_x_bestMix_34 (fun _ => ?_)
    refine gm_imul hG d_x_bestMix_35 ?_
    refine gm_iadd hG d_x_bestMix_36 ?_
    refine gm_aload_n hG 1 d_x_bestMix_37 rfl rfl ?_
    refine gm_getR (t := 132) hG gmF_5_31 gmKc_0 rfl d_x_bestMix_38 ?_
    refine gm_iconst hG d_x_bestMix_41 ?_
    refine gm_iald (t := 2) hG gmKc_132 gmLc_132 (by decide) rfl d_x_bestMix_42 (fun _ => ?_)
    refine gm_iadd hG d_x_bestMix_43 ?_
    obtain ⟨g5, h⟩ := gmG_of h
    exact gm_iret' hF h g5 d_x_bestMix_44
  · replace h := gmI_pos c3 h
    refine gm_sipush hG d_x_bestMix_9 (by decide) ?_
    exact gm_iret' hF h (by decide) d_x_bestMix_12
def Fx_bestMixCloth (σ : St) : Option (Int × St) := gmB (Fx_findBestMix σ) (fun r2 s1 => if r2 = 0 then some ((-1009), s1) else gmBv (Fx_lookAtMix r2 s1) (fun s4 => gmB (Ft_pliesFor 132 s4) (fun r6 s5 => gmB (Fx_lengthFor 132 s5) (fun r8 s7 => gmG (gmR (r6 * r8)) (some ((r6 * r8), s7))))))
set_option maxRecDepth 100000 in
set_option maxHeartbeats 4000000 in
theorem Wx_bestMixCloth {σ : St} {rv : Int} {rs : St} (h : Fx_bestMixCloth σ = some (rv, rs)) : Ctr gmY5_bestMixCloth prog_1_method_36_code 2 (some .int) 5 126 [.inr 0] σ (some rv) rs := by
  refine Ctr.ofI (own := "GarmentMarker") (by decide +kernel) rfl (Nat.le_of_ble_eq_true rfl) (fun φ hG hF => ?_)
  unfold Fx_bestMixCloth at h
  refine gm_lv (l2 := [(0, .inr 0)]) rfl ?_
  refine gm_ok (fun hO => ?_)
  refine gm_aload_n hG 0 d_x_bestMixCloth_0 rfl rfl ?_
  obtain ⟨r2, s1, es1, h⟩ := gmB_of h
  refine gm_callVi hG [] [] gmM_5_216 (Wx_findBestMix es1) gmKc_0 rfl (by decide) (Nat.le_of_ble_eq_true rfl) rfl d_x_bestMixCloth_1 (fun qr2 => ?_)
  refine gm_ok (fun hOs1 => ?_)
  refine gm_istore_n (lv' := [(1, .inl r2), (0, .inr 0)]) hG d_x_bestMixCloth_4 rfl (by decide) rfl ?_
  refine gm_iload_n hG 0 d_x_bestMixCloth_5 rfl rfl ?_
  refine gm_if_ne (tgt := 13) hG d_x_bestMixCloth_6 (by decide) qr2 (fun c3 => ?_) (fun c3 => ?_)
  · replace h := gmI_neg c3 h
    refine gm_aload_n hG 1 d_x_bestMixCloth_13 rfl rfl ?_
    refine gm_iload_n hG 0 d_x_bestMixCloth_14 rfl rfl ?_
    obtain ⟨s4, es4, h⟩ := gmBv_of h
    refine gm_callVv hG [.inl r2] [] gmM_5_209 (Wx_lookAtMix qr2 es4) gmKc_0 rfl (by decide) (Nat.le_of_ble_eq_true rfl) rfl d_x_bestMixCloth_15 ?_
    refine gm_ok (fun hOs4 => ?_)
    refine gm_aload_n hG 1 d_x_bestMixCloth_18 rfl rfl ?_
    refine gm_getR (t := 1) hG gmF_5_12 gmKc_0 rfl d_x_bestMixCloth_19 ?_
    refine gm_aload_n hG 1 d_x_bestMixCloth_22 rfl rfl ?_
    refine gm_getR (t := 132) hG gmF_5_31 gmKc_0 rfl d_x_bestMixCloth_23 ?_
    obtain ⟨r6, s5, es5, h⟩ := gmB_of h
    refine gm_callVi hG [.inr 132] [] gmM_5_202 (Wt_pliesFor gmKc_132 es5) gmKc_1 rfl (by decide) (Nat.le_of_ble_eq_true rfl) rfl d_x_bestMixCloth_26 (fun qr6 => ?_)
    refine gm_ok (fun hOs5 => ?_)
    refine gm_aload_n hG 1 d_x_bestMixCloth_29 rfl rfl ?_
    refine gm_aload_n hG 1 d_x_bestMixCloth_30 rfl rfl ?_
    refine gm_getR (t := 132) hG gmF_5_31 gmKc_0 rfl d_x_bestMixCloth_31 ?_
    obtain ⟨r8, s7, es7, h⟩ := gmB_of h
    refine gm_callVi hG [.inr 132] [.inl r6] gmM_5_183 (Wx_lengthFor gmKc_132 es7) gmKc_0 rfl (by decide) (Nat.le_of_ble_eq_true rfl) rfl d_x_bestMixCloth_34 (fun qr8 => ?_)
    refine gm_ok (fun hOs7 => ?_)
    refine gm_imul hG d_x_bestMixCloth_37 ?_
    obtain ⟨g9, h⟩ := gmG_of h
    exact gm_iret' hF h g9 d_x_bestMixCloth_38
  · replace h := gmI_pos c3 h
    refine gm_sipush hG d_x_bestMixCloth_9 (by decide) ?_
    exact gm_iret' hF h (by decide) d_x_bestMixCloth_12
def Fx_applyBestMix (σ : St) : Option (Int × St) := gmB (Fx_findBestMix σ) (fun r2 s1 => if r2 = 0 then some ((-1009), s1) else gmBv (Fx_lookAtMix r2 s1) (fun s4 => gmL (gmCp s4 132 16 0 0 3) (fun s5 => gmB (Fx_lengthFor 16 s5) (fun r7 s6 => some (r7, s6)))))
set_option maxRecDepth 100000 in
set_option maxHeartbeats 4000000 in
theorem Wx_applyBestMix {σ : St} {rv : Int} {rs : St} (h : Fx_applyBestMix σ = some (rv, rs)) : Ctr gmY5_applyBestMix prog_1_method_37_code 2 (some .int) 5 126 [.inr 0] σ (some rv) rs := by
  refine Ctr.ofI (own := "GarmentMarker") (by decide +kernel) rfl (Nat.le_of_ble_eq_true rfl) (fun φ hG hF => ?_)
  unfold Fx_applyBestMix at h
  refine gm_lv (l2 := [(0, .inr 0)]) rfl ?_
  refine gm_ok (fun hO => ?_)
  refine gm_aload_n hG 0 d_x_applyBestMix_0 rfl rfl ?_
  obtain ⟨r2, s1, es1, h⟩ := gmB_of h
  refine gm_callVi hG [] [] gmM_5_216 (Wx_findBestMix es1) gmKc_0 rfl (by decide) (Nat.le_of_ble_eq_true rfl) rfl d_x_applyBestMix_1 (fun qr2 => ?_)
  refine gm_ok (fun hOs1 => ?_)
  refine gm_istore_n (lv' := [(1, .inl r2), (0, .inr 0)]) hG d_x_applyBestMix_4 rfl (by decide) rfl ?_
  refine gm_iload_n hG 0 d_x_applyBestMix_5 rfl rfl ?_
  refine gm_if_ne (tgt := 13) hG d_x_applyBestMix_6 (by decide) qr2 (fun c3 => ?_) (fun c3 => ?_)
  · replace h := gmI_neg c3 h
    refine gm_aload_n hG 1 d_x_applyBestMix_13 rfl rfl ?_
    refine gm_iload_n hG 0 d_x_applyBestMix_14 rfl rfl ?_
    obtain ⟨s4, es4, h⟩ := gmBv_of h
    refine gm_callVv hG [.inl r2] [] gmM_5_209 (Wx_lookAtMix qr2 es4) gmKc_0 rfl (by decide) (Nat.le_of_ble_eq_true rfl) rfl d_x_applyBestMix_15 ?_
    refine gm_ok (fun hOs4 => ?_)
    refine gm_aload_n hG 1 d_x_applyBestMix_18 rfl rfl ?_
    refine gm_getR (t := 132) hG gmF_5_31 gmKc_0 rfl d_x_applyBestMix_19 ?_
    refine gm_iconst hG d_x_applyBestMix_22 ?_
    refine gm_aload_n hG 1 d_x_applyBestMix_23 rfl rfl ?_
    refine gm_getR (t := 1) hG gmF_5_12 gmKc_0 rfl d_x_applyBestMix_24 ?_
    refine gm_getR (t := 16) hG gmF_5_116 gmKc_1 rfl d_x_applyBestMix_27 ?_
    refine gm_iconst hG d_x_applyBestMix_30 ?_
    refine gm_iconst hG d_x_applyBestMix_31 ?_
    obtain ⟨s5, es5, h⟩ := gmL_of h
    refine gm_copy hG gm_acX gm_ac1 gm_ac2 gm_ac3 (by decide) gmKc_132 gmKc_16 (by rw [gmLc_132]; decide) (by rw [gmLc_16]; decide) es5 d_x_applyBestMix_32 ?_
    refine gm_ok (fun hOs5 => ?_)
    refine gm_aload_n hG 1 d_x_applyBestMix_35 rfl rfl ?_
    refine gm_aload_n hG 1 d_x_applyBestMix_36 rfl rfl ?_
    refine gm_getR (t := 1) hG gmF_5_12 gmKc_0 rfl d_x_applyBestMix_37 ?_
    refine gm_getR (t := 16) hG gmF_5_116 gmKc_1 rfl d_x_applyBestMix_40 ?_
    obtain ⟨r7, s6, es6, h⟩ := gmB_of h
    refine gm_callVi hG [.inr 16] [] gmM_5_183 (Wx_lengthFor gmKc_16 es6) gmKc_0 rfl (by decide) (Nat.le_of_ble_eq_true rfl) rfl d_x_applyBestMix_43 (fun qr7 => ?_)
    refine gm_ok (fun hOs6 => ?_)
    exact gm_iret' hF h qr7 d_x_applyBestMix_46
  · replace h := gmI_pos c3 h
    refine gm_sipush hG d_x_applyBestMix_9 (by decide) ?_
    exact gm_iret' hF h (by decide) d_x_applyBestMix_12
def Fx_save (a0 : Int) (σ : St) : Option (Int × St) := gmB (Fx_isWithin a0 0 1 σ) (fun r2 s1 => if r2 = 0 then some ((-1005), s1) else gmG (0 ≤ a0 ∧ a0 < 2) (gmBv (Ft_copyFrom (gmTg 52 (a0).toNat) 1 s1) (fun s5 => gmL (gmUp s5 53 (a0).toNat 1) (fun s6 => some (1, s6)))))
set_option maxRecDepth 100000 in
set_option maxHeartbeats 4000000 in
theorem Wx_save {a0 : Int} {σ : St} {rv : Int} {rs : St} (ra0 : gmR a0) (h : Fx_save a0 σ = some (rv, rs)) : Ctr gmY5_save prog_1_method_38_code 2 (some .int) 2 48 [.inr 0, .inl a0] σ (some rv) rs := by
  refine Ctr.ofI (own := "GarmentMarker") (by decide +kernel) rfl (Nat.le_of_ble_eq_true rfl) (fun φ hG hF => ?_)
  unfold Fx_save at h
  refine gm_lv (l2 := [(0, .inr 0), (1, .inl a0)]) rfl ?_
  refine gm_ok (fun hO => ?_)
  refine gm_iload_n hG 1 d_x_save_0 rfl rfl ?_
  refine gm_iconst hG d_x_save_1 ?_
  refine gm_iconst hG d_x_save_2 ?_
  obtain ⟨r2, s1, es1, h⟩ := gmB_of h
  refine gm_callSi hG [.inl a0, .inl 0, .inl 1] [] gmM_5_35 (Wx_isWithin ra0 (by decide) (by decide) es1) rfl (by decide) (Nat.le_of_ble_eq_true rfl) rfl d_x_save_3 (fun qr2 => ?_)
  refine gm_ok (fun hOs1 => ?_)
  refine gm_if_ne (tgt := 13) hG d_x_save_6 (by decide) qr2 (fun c3 => ?_) (fun c3 => ?_)
  · replace h := gmI_neg c3 h
    refine gm_aload_n hG 0 d_x_save_13 rfl rfl ?_
    refine gm_getR (t := 52) hG gmF_5_16 gmKc_0 rfl d_x_save_14 ?_
    refine gm_iload_n hG 1 d_x_save_17 rfl rfl ?_
    obtain ⟨g4, h⟩ := gmG_of h
    refine gm_aald (t := (a0).toNat) hG 4 gmKc_52 (by decide) (by decide) rfl gmLc_52 g4 rfl d_x_save_18 ?_
    refine gm_aload_n hG 0 d_x_save_19 rfl rfl ?_
    refine gm_getR (t := 1) hG gmF_5_12 gmKc_0 rfl d_x_save_20 ?_
    obtain ⟨s5, es5, h⟩ := gmBv_of h
    refine gm_callVv hG [.inr 1] [] gmM_5_225 (Wt_copyFrom (gmKtT (k := 52) (i := a0) gmKc_52 (by rw [gmLc_52]; exact g4)) gmKc_1 es5) (gmKtT (k := 52) (i := a0) gmKc_52 (by rw [gmLc_52]; exact g4)) rfl (by decide) (Nat.le_of_ble_eq_true rfl) rfl d_x_save_23 ?_
    refine gm_ok (fun hOs5 => ?_)
    refine gm_aload_n hG 0 d_x_save_26 rfl rfl ?_
    refine gm_getR (t := 53) hG gmF_5_20 gmKc_0 rfl d_x_save_27 ?_
    refine gm_iload_n hG 1 d_x_save_30 rfl rfl ?_
    refine gm_iconst hG d_x_save_31 ?_
    obtain ⟨s6, es6, h⟩ := gmL_of h
    refine gm_bast (t := (a0).toNat) hG gmKc_53 gmLc_53 g4 rfl (Or.inr rfl) es6 d_x_save_32 ?_
    refine gm_ok (fun hOs6 => ?_)
    refine gm_iconst hG d_x_save_33 ?_
    exact gm_iret' hF h (by decide) d_x_save_34
  · replace h := gmI_pos c3 h
    refine gm_sipush hG d_x_save_9 (by decide) ?_
    exact gm_iret' hF h (by decide) d_x_save_12
def Fx_restore (a0 : Int) (σ : St) : Option (Int × St) := gmB (Fx_isWithin a0 0 1 σ) (fun r2 s1 => if r2 = 0 then some ((-1005), s1) else gmG (0 ≤ a0 ∧ a0 < 2) (if (s1 53 (a0).toNat) = 0 then some ((-1011), s1) else gmBv (Ft_copyFrom 1 (gmTg 52 (a0).toNat) s1) (fun s6 => some (1, s6))))
set_option maxRecDepth 100000 in
set_option maxHeartbeats 4000000 in
theorem Wx_restore {a0 : Int} {σ : St} {rv : Int} {rs : St} (ra0 : gmR a0) (h : Fx_restore a0 σ = some (rv, rs)) : Ctr gmY5_restore prog_1_method_39_code 2 (some .int) 2 48 [.inr 0, .inl a0] σ (some rv) rs := by
  refine Ctr.ofI (own := "GarmentMarker") (by decide +kernel) rfl (Nat.le_of_ble_eq_true rfl) (fun φ hG hF => ?_)
  unfold Fx_restore at h
  refine gm_lv (l2 := [(0, .inr 0), (1, .inl a0)]) rfl ?_
  refine gm_ok (fun hO => ?_)
  refine gm_iload_n hG 1 d_x_restore_0 rfl rfl ?_
  refine gm_iconst hG d_x_restore_1 ?_
  refine gm_iconst hG d_x_restore_2 ?_
  obtain ⟨r2, s1, es1, h⟩ := gmB_of h
  refine gm_callSi hG [.inl a0, .inl 0, .inl 1] [] gmM_5_35 (Wx_isWithin ra0 (by decide) (by decide) es1) rfl (by decide) (Nat.le_of_ble_eq_true rfl) rfl d_x_restore_3 (fun qr2 => ?_)
  refine gm_ok (fun hOs1 => ?_)
  refine gm_if_ne (tgt := 13) hG d_x_restore_6 (by decide) qr2 (fun c3 => ?_) (fun c3 => ?_)
  · replace h := gmI_neg c3 h
    refine gm_aload_n hG 0 d_x_restore_13 rfl rfl ?_
    refine gm_getR (t := 53) hG gmF_5_20 gmKc_0 rfl d_x_restore_14 ?_
    refine gm_iload_n hG 1 d_x_restore_17 rfl rfl ?_
    obtain ⟨g4, h⟩ := gmG_of h
    refine gm_bald (t := (a0).toNat) hG gmKc_53 gmLc_53 g4 rfl d_x_restore_18 (fun _ => ?_)
    refine gm_if_ne (tgt := 26) hG d_x_restore_19 (by decide) (hOs1 53 (a0).toNat) (fun c5 => ?_) (fun c5 => ?_)
    · replace h := gmI_neg c5 h
      refine gm_aload_n hG 0 d_x_restore_26 rfl rfl ?_
      refine gm_getR (t := 1) hG gmF_5_12 gmKc_0 rfl d_x_restore_27 ?_
      refine gm_aload_n hG 0 d_x_restore_30 rfl rfl ?_
      refine gm_getR (t := 52) hG gmF_5_16 gmKc_0 rfl d_x_restore_31 ?_
      refine gm_iload_n hG 1 d_x_restore_34 rfl rfl ?_
      refine gm_aald (t := (a0).toNat) hG 4 gmKc_52 (by decide) (by decide) rfl gmLc_52 g4 rfl d_x_restore_35 ?_
      obtain ⟨s6, es6, h⟩ := gmBv_of h
      refine gm_callVv hG [.inr (gmTg 52 (a0).toNat)] [] gmM_5_225 (Wt_copyFrom gmKc_1 (gmKtT (k := 52) (i := a0) gmKc_52 (by rw [gmLc_52]; exact g4)) es6) gmKc_1 rfl (by decide) (Nat.le_of_ble_eq_true rfl) rfl d_x_restore_36 ?_
      refine gm_ok (fun hOs6 => ?_)
      refine gm_iconst hG d_x_restore_39 ?_
      exact gm_iret' hF h (by decide) d_x_restore_40
    · replace h := gmI_pos c5 h
      refine gm_sipush hG d_x_restore_22 (by decide) ?_
      exact gm_iret' hF h (by decide) d_x_restore_25
  · replace h := gmI_pos c3 h
    refine gm_sipush hG d_x_restore_9 (by decide) ?_
    exact gm_iret' hF h (by decide) d_x_restore_12
def Fm_in (a0 : Int) (a1 : Int) (a2 : Int) (σ : St) : Option (Int × St) := some ((if a0 < a1 then 0 else (if a2 < a0 then 0 else 1)), σ)
set_option maxRecDepth 100000 in
set_option maxHeartbeats 4000000 in
theorem Wm_in {a0 : Int} {a1 : Int} {a2 : Int} {σ : St} {rv : Int} {rs : St} (ra0 : gmR a0) (ra1 : gmR a1) (ra2 : gmR a2) (h : Fm_in a0 a1 a2 σ = some (rv, rs)) : Ctr gmY6_in prog_8_method_2_code 3 (some .boolean) 0 0 [.inl a0, .inl a1, .inl a2] σ (some rv) rs := by
  refine Ctr.ofZ (own := "GarmentMarkerModel") (by decide +kernel) rfl (Nat.le_of_ble_eq_true rfl) (fun φ hG hF => ?_)
  unfold Fm_in at h
  refine gm_lv (l2 := [(0, .inl a0), (1, .inl a1), (2, .inl a2)]) rfl ?_
  refine gm_ok (fun hO => ?_)
  refine gm_iload_n hG 0 d_m_in_0 rfl rfl ?_
  refine gm_iload_n hG 1 d_m_in_1 rfl rfl ?_
  suffices hj : J φ σ 15 [(0, .inl a0), (1, .inl a1), (2, .inl a2)] [.inl (if a0 < a1 then 0 else (if a2 < a0 then 0 else 1))] by
    refine gm_icmp_lt (tgt := 14) hG d_m_in_2 (by decide) ra0 ra1 (fun c1 => ?_) (fun c1 => ?_)
    · replace hj := gmJ_pos c1 hj
      refine gm_iconst hG d_m_in_14 ?_
      exact hj
    · replace hj := gmJ_neg c1 hj
      refine gm_iload_n hG 0 d_m_in_5 rfl rfl ?_
      refine gm_iload_n hG 2 d_m_in_6 rfl rfl ?_
      refine gm_icmp_gt (tgt := 14) hG d_m_in_7 (by decide) ra0 ra2 (fun c2 => ?_) (fun c2 => ?_)
      · replace hj := gmJ_pos c2 hj
        refine gm_iconst hG d_m_in_14 ?_
        exact hj
      · replace hj := gmJ_neg c2 hj
        refine gm_iconst hG d_m_in_10 ?_
        refine gm_goto (tgt := 15) hG d_m_in_11 (by decide) ?_
        exact hj
  exact gm_zret' hF h (gmZ_ite (fun c1 => (Or.inl rfl)) (fun c1 => (gmZ_ite (fun c2 => (Or.inl rfl)) (fun c2 => (Or.inr rfl))))) d_m_in_15
def Fm_isPiece (a0 : Int) (σ : St) : Option (Int × St) := gmB (Fm_in a0 0 5 σ) (fun r2 s1 => gmG ((¬ r2 = 0) → 0 ≤ (0 + (6 * a0)) ∧ (0 + (6 * a0)) < 78) (some ((if r2 = 0 then 0 else (if (s1 134 ((0 + (6 * a0))).toNat) = 1 then 1 else 0)), s1)))
set_option maxRecDepth 100000 in
set_option maxHeartbeats 4000000 in
theorem Wm_isPiece {a0 : Int} {σ : St} {rv : Int} {rs : St} (ra0 : gmR a0) (h : Fm_isPiece a0 σ = some (rv, rs)) : Ctr gmY6_isPiece prog_8_method_3_code 2 (some .boolean) 1 22 [.inr 133, .inl a0] σ (some rv) rs := by
  refine Ctr.ofZ (own := "GarmentMarkerModel") (by decide +kernel) rfl (Nat.le_of_ble_eq_true rfl) (fun φ hG hF => ?_)
  unfold Fm_isPiece at h
  refine gm_lv (l2 := [(0, .inr 133), (1, .inl a0)]) rfl ?_
  refine gm_ok (fun hO => ?_)
  refine gm_iload_n hG 1 d_m_isPiece_0 rfl rfl ?_
  refine gm_iconst hG d_m_isPiece_1 ?_
  refine gm_iconst hG d_m_isPiece_2 ?_
  obtain ⟨r2, s1, es1, h⟩ := gmB_of h
  refine gm_callSi hG [.inl a0, .inl 0, .inl 5] [] gmM_6_59 (Wm_in ra0 (by decide) (by decide) es1) rfl (by decide) (Nat.le_of_ble_eq_true rfl) rfl d_m_isPiece_3 (fun qr2 => ?_)
  refine gm_ok (fun hOs1 => ?_)
  obtain ⟨g4, h⟩ := gmG_of h
  suffices hj : J φ s1 29 [(0, .inr 133), (1, .inl a0)] [.inl (if r2 = 0 then 0 else (if (s1 134 ((0 + (6 * a0))).toNat) = 1 then 1 else 0))] by
    refine gm_if_eq (tgt := 28) hG d_m_isPiece_6 (by decide) qr2 (fun c3 => ?_) (fun c3 => ?_)
    · replace hj := gmJ_pos c3 hj
      refine gm_iconst hG d_m_isPiece_28 ?_
      exact hj
    · replace hj := gmJ_neg c3 hj
      refine gm_aload_n hG 0 d_m_isPiece_9 rfl rfl ?_
      refine gm_getR (t := 134) hG gmF_6_7 gmKc_133 rfl d_m_isPiece_10 ?_
      refine gm_iconst hG d_m_isPiece_13 ?_
      refine gm_bipush hG d_m_isPiece_14 (by decide) ?_
      refine gm_iload_n hG 1 d_m_isPiece_16 rfl rfl ?_
      refine gm_imul hG d_m_isPiece_17 ?_
      refine gm_iadd hG d_m_isPiece_18 ?_
      refine gm_iald (t := ((0 + (6 * a0))).toNat) hG gmKc_134 gmLc_134 (g4 c3) rfl d_m_isPiece_19 (fun _ => ?_)
      refine gm_iconst hG d_m_isPiece_20 ?_
      refine gm_icmp_ne (tgt := 28) hG d_m_isPiece_21 (by decide) (hOs1 134 ((0 + (6 * a0))).toNat) (by decide) (fun c5 => ?_) (fun c5 => ?_)
      · replace hj := gmJ_neg c5 hj
        refine gm_iconst hG d_m_isPiece_28 ?_
        exact hj
      · replace hj := gmJ_pos c5 hj
        refine gm_iconst hG d_m_isPiece_24 ?_
        refine gm_goto (tgt := 29) hG d_m_isPiece_25 (by decide) ?_
        exact hj
  exact gm_zret' hF h (gmZ_ite (fun c3 => (Or.inl rfl)) (fun c3 => (gmZ_ite (fun c5 => (Or.inr rfl)) (fun c5 => (Or.inl rfl))))) d_m_isPiece_29
def Fm_isSize (a0 : Int) (σ : St) : Option (Int × St) := gmB (Fm_in a0 0 2 σ) (fun r2 s1 => gmG (r2 = 0 ∨ r2 = 1) (some (r2, s1)))
set_option maxRecDepth 100000 in
set_option maxHeartbeats 4000000 in
theorem Wm_isSize {a0 : Int} {σ : St} {rv : Int} {rs : St} (ra0 : gmR a0) (h : Fm_isSize a0 σ = some (rv, rs)) : Ctr gmY6_isSize prog_8_method_4_code 1 (some .boolean) 1 22 [.inl a0] σ (some rv) rs := by
  refine Ctr.ofZ (own := "GarmentMarkerModel") (by decide +kernel) rfl (Nat.le_of_ble_eq_true rfl) (fun φ hG hF => ?_)
  unfold Fm_isSize at h
  refine gm_lv (l2 := [(0, .inl a0)]) rfl ?_
  refine gm_ok (fun hO => ?_)
  refine gm_iload_n hG 0 d_m_isSize_0 rfl rfl ?_
  refine gm_iconst hG d_m_isSize_1 ?_
  refine gm_iconst hG d_m_isSize_2 ?_
  obtain ⟨r2, s1, es1, h⟩ := gmB_of h
  refine gm_callSi hG [.inl a0, .inl 0, .inl 2] [] gmM_6_59 (Wm_in ra0 (by decide) (by decide) es1) rfl (by decide) (Nat.le_of_ble_eq_true rfl) rfl d_m_isSize_3 (fun qr2 => ?_)
  refine gm_ok (fun hOs1 => ?_)
  obtain ⟨g3, h⟩ := gmG_of h
  exact gm_zret' hF h g3 d_m_isSize_6
def Fm_widthOf (a0 : Int) (a1 : Int) (σ : St) : Option (Int × St) := gmG (0 ≤ ((0 + (6 * a0)) + 1) ∧ ((0 + (6 * a0)) + 1) < 78) (gmG (0 ≤ ((0 + (6 * a0)) + 3) ∧ ((0 + (6 * a0)) + 3) < 78) (gmG (gmR ((σ 134 (((0 + (6 * a0)) + 1)).toNat) + (a1 * (σ 134 (((0 + (6 * a0)) + 3)).toNat)))) (some (((σ 134 (((0 + (6 * a0)) + 1)).toNat) + (a1 * (σ 134 (((0 + (6 * a0)) + 3)).toNat))), σ))))
set_option maxRecDepth 100000 in
set_option maxHeartbeats 4000000 in
theorem Wm_widthOf {a0 : Int} {a1 : Int} {σ : St} {rv : Int} {rs : St} (ra0 : gmR a0) (ra1 : gmR a1) (h : Fm_widthOf a0 a1 σ = some (rv, rs)) : Ctr gmY6_widthOf prog_8_method_5_code 3 (some .int) 0 0 [.inr 133, .inl a0, .inl a1] σ (some rv) rs := by
  refine Ctr.ofI (own := "GarmentMarkerModel") (by decide +kernel) rfl (Nat.le_of_ble_eq_true rfl) (fun φ hG hF => ?_)
  unfold Fm_widthOf at h
  refine gm_lv (l2 := [(0, .inr 133), (1, .inl a0), (2, .inl a1)]) rfl ?_
  refine gm_ok (fun hO => ?_)
  refine gm_aload_n hG 0 d_m_widthOf_0 rfl rfl ?_
  refine gm_getR (t := 134) hG gmF_6_7 gmKc_133 rfl d_m_widthOf_1 ?_
  refine gm_iconst hG d_m_widthOf_4 ?_
  refine gm_bipush hG d_m_widthOf_5 (by decide) ?_
  refine gm_iload_n hG 1 d_m_widthOf_7 rfl rfl ?_
  refine gm_imul hG d_m_widthOf_8 ?_
  refine gm_iadd hG d_m_widthOf_9 ?_
  refine gm_iconst hG d_m_widthOf_10 ?_
  refine gm_iadd hG d_m_widthOf_11 ?_
  obtain ⟨g1, h⟩ := gmG_of h
  refine gm_iald (t := (((0 + (6 * a0)) + 1)).toNat) hG gmKc_134 gmLc_134 g1 rfl d_m_widthOf_12 (fun _ => ?_)
  refine gm_iload_n hG 2 d_m_widthOf_13 rfl rfl ?_
  refine gm_aload_n hG 0 d_m_widthOf_14 rfl rfl ?_
  refine gm_getR (t := 134) hG gmF_6_7 gmKc_133 rfl d_m_widthOf_15 ?_
  refine gm_iconst hG d_m_widthOf_18 ?_
  refine gm_bipush hG d_m_widthOf_19 (by decide) ?_
  refine gm_iload_n hG 1 d_m_widthOf_21 rfl rfl ?_
  refine gm_imul hG d_m_widthOf_22 ?_
  refine gm_iadd hG d_m_widthOf_23 ?_
  refine gm_iconst hG d_m_widthOf_24 ?_
  refine gm_iadd hG d_m_widthOf_25 ?_
  obtain ⟨g2, h⟩ := gmG_of h
  refine gm_iald (t := (((0 + (6 * a0)) + 3)).toNat) hG gmKc_134 gmLc_134 g2 rfl d_m_widthOf_26 (fun _ => ?_)
  refine gm_imul hG d_m_widthOf_27 ?_
  refine gm_iadd hG d_m_widthOf_28 ?_
  obtain ⟨g3, h⟩ := gmG_of h
  exact gm_iret' hF h g3 d_m_widthOf_29
def Fm_lengthOf (a0 : Int) (a1 : Int) (σ : St) : Option (Int × St) := gmG (0 ≤ ((0 + (6 * a0)) + 2) ∧ ((0 + (6 * a0)) + 2) < 78) (gmG (0 ≤ ((0 + (6 * a0)) + 4) ∧ ((0 + (6 * a0)) + 4) < 78) (gmG (gmR ((σ 134 (((0 + (6 * a0)) + 2)).toNat) + (a1 * (σ 134 (((0 + (6 * a0)) + 4)).toNat)))) (some (((σ 134 (((0 + (6 * a0)) + 2)).toNat) + (a1 * (σ 134 (((0 + (6 * a0)) + 4)).toNat))), σ))))
set_option maxRecDepth 100000 in
set_option maxHeartbeats 4000000 in
theorem Wm_lengthOf {a0 : Int} {a1 : Int} {σ : St} {rv : Int} {rs : St} (ra0 : gmR a0) (ra1 : gmR a1) (h : Fm_lengthOf a0 a1 σ = some (rv, rs)) : Ctr gmY6_lengthOf prog_8_method_6_code 3 (some .int) 0 0 [.inr 133, .inl a0, .inl a1] σ (some rv) rs := by
  refine Ctr.ofI (own := "GarmentMarkerModel") (by decide +kernel) rfl (Nat.le_of_ble_eq_true rfl) (fun φ hG hF => ?_)
  unfold Fm_lengthOf at h
  refine gm_lv (l2 := [(0, .inr 133), (1, .inl a0), (2, .inl a1)]) rfl ?_
  refine gm_ok (fun hO => ?_)
  refine gm_aload_n hG 0 d_m_lengthOf_0 rfl rfl ?_
  refine gm_getR (t := 134) hG gmF_6_7 gmKc_133 rfl d_m_lengthOf_1 ?_
  refine gm_iconst hG d_m_lengthOf_4 ?_
  refine gm_bipush hG d_m_lengthOf_5 (by decide) ?_
  refine gm_iload_n hG 1 d_m_lengthOf_7 rfl rfl ?_
  refine gm_imul hG d_m_lengthOf_8 ?_
  refine gm_iadd hG d_m_lengthOf_9 ?_
  refine gm_iconst hG d_m_lengthOf_10 ?_
  refine gm_iadd hG d_m_lengthOf_11 ?_
  obtain ⟨g1, h⟩ := gmG_of h
  refine gm_iald (t := (((0 + (6 * a0)) + 2)).toNat) hG gmKc_134 gmLc_134 g1 rfl d_m_lengthOf_12 (fun _ => ?_)
  refine gm_iload_n hG 2 d_m_lengthOf_13 rfl rfl ?_
  refine gm_aload_n hG 0 d_m_lengthOf_14 rfl rfl ?_
  refine gm_getR (t := 134) hG gmF_6_7 gmKc_133 rfl d_m_lengthOf_15 ?_
  refine gm_iconst hG d_m_lengthOf_18 ?_
  refine gm_bipush hG d_m_lengthOf_19 (by decide) ?_
  refine gm_iload_n hG 1 d_m_lengthOf_21 rfl rfl ?_
  refine gm_imul hG d_m_lengthOf_22 ?_
  refine gm_iadd hG d_m_lengthOf_23 ?_
  refine gm_iconst hG d_m_lengthOf_24 ?_
  refine gm_iadd hG d_m_lengthOf_25 ?_
  obtain ⟨g2, h⟩ := gmG_of h
  refine gm_iald (t := (((0 + (6 * a0)) + 4)).toNat) hG gmKc_134 gmLc_134 g2 rfl d_m_lengthOf_26 (fun _ => ?_)
  refine gm_imul hG d_m_lengthOf_27 ?_
  refine gm_iadd hG d_m_lengthOf_28 ?_
  obtain ⟨g3, h⟩ := gmG_of h
  exact gm_iret' hF h g3 d_m_lengthOf_29
def Fm_definePiece_142 : Nat → Int → Int → St → (Int → St → Option (Int × St)) → Option (Int × St)
  | 0, _, _, _, _ => none
  | n + 1, y8, y9, σ, k => if 6 ≤ y9 then k y8 σ else gmG (0 ≤ (0 + (6 * y9)) ∧ (0 + (6 * y9)) < 78) (gmL ((y8 + (σ 134 ((0 + (6 * y9))).toNat)) : Int) (fun x34 => gmG (gmR x34) (gmG (gmR (y9 + 1)) (Fm_definePiece_142 n x34 (y9 + 1) σ k))))
def Fm_definePiece (a0 : Int) (a1 : Int) (a2 : Int) (a3 : Int) (a4 : Int) (a5 : Int) (σ : St) : Option (Int × St) := gmB (Fm_in a0 0 5 σ) (fun r2 s1 => if r2 = 0 then some ((-1001), s1) else gmB (Fm_in a1 1 12 s1) (fun r5 s4 => if r5 = 0 then some ((-1005), s4) else gmB (Fm_in a2 1 12 s4) (fun r8 s7 => if r8 = 0 then some ((-1005), s7) else gmB (Fm_in a3 0 3 s7) (fun r11 s10 => if r11 = 0 then some ((-1005), s10) else gmB (Fm_in a4 0 3 s10) (fun r14 s13 => if r14 = 0 then some ((-1005), s13) else gmB (Fm_in a5 1 2 s13) (fun r17 s16 => if r17 = 0 then some ((-1005), s16) else gmL ((0 + (6 * a0)) : Int) (fun x19 => gmG (0 ≤ x19 ∧ x19 < 78) (gmL (gmUp s16 134 (x19).toNat 1) (fun s21 => gmG (0 ≤ (x19 + 1) ∧ (x19 + 1) < 78) (gmL (gmUp s21 134 ((x19 + 1)).toNat a1) (fun s23 => gmG (0 ≤ (x19 + 2) ∧ (x19 + 2) < 78) (gmL (gmUp s23 134 ((x19 + 2)).toNat a2) (fun s25 => gmG (0 ≤ (x19 + 3) ∧ (x19 + 3) < 78) (gmL (gmUp s25 134 ((x19 + 3)).toNat a3) (fun s27 => gmG (0 ≤ (x19 + 4) ∧ (x19 + 4) < 78) (gmL (gmUp s27 134 ((x19 + 4)).toNat a4) (fun s29 => gmG (0 ≤ (x19 + 5) ∧ (x19 + 5) < 78) (gmL (gmUp s29 134 ((x19 + 5)).toNat a5) (fun s31 => Fm_definePiece_142 gmN 0 0 s31 (fun x37 s38 => some (x37, s38)))))))))))))))))))))
set_option maxRecDepth 100000 in
set_option maxHeartbeats 4000000 in
theorem Wm_definePiece_142 {φ : Fx} {rv : Int} {rs : St} (hG : Good φ "GarmentMarkerModel" prog_8_method_7_code 10 1 22) (hF : FinI φ prog_8_method_7_code rv rs) : ∀ (n : Nat) {y8 : Int} {y9 : Int} {σ : St} {k : Int → St → Option (Int × St)}, gmR y8 → gmR y9 → Fm_definePiece_142 n y8 y9 σ k = some (rv, rs) → (∀ {z8 : Int} {τ : St}, gmR z8 → k z8 τ = some (rv, rs) → J φ τ 172 [(8, .inl z8)] []) → J φ σ 142 [(0, .inr 133), (8, .inl y8), (9, .inl y9)] [] := by
  intro n
  induction n with
  | zero =>
    intro _ _ _ _ _ _ h
    exact absurd h (by rw [Fm_definePiece_142.eq_1]; exact fun q => by cases q)
  | succ n ih =>
    intro y8 y9 σ k r8 r9 h hk
    rw [Fm_definePiece_142.eq_2] at h
    refine gm_ok (fun hO => ?_)
    refine gm_iload hG 2 d_m_definePiece_142 rfl ?_
    refine gm_bipush hG d_m_definePiece_144 (by decide) ?_
    refine gm_icmp_ge (tgt := 172) hG d_m_definePiece_146 (by decide) r9 (by decide) (fun c32 => ?_) (fun c32 => ?_)
    · replace h := gmI_pos c32 h
      refine gm_sub [1] rfl ?_
      exact hk r8 h
    · replace h := gmI_neg c32 h
      refine gm_iload hG 1 d_m_definePiece_149 rfl ?_
      refine gm_aload_n hG 0 d_m_definePiece_151 rfl rfl ?_
      refine gm_getR (t := 134) hG gmF_6_7 gmKc_133 rfl d_m_definePiece_152 ?_
      refine gm_iconst hG d_m_definePiece_155 ?_
      refine gm_bipush hG d_m_definePiece_156 (by decide) ?_
      refine gm_iload hG 2 d_m_definePiece_158 rfl ?_
      refine gm_imul hG d_m_definePiece_160 ?_
      refine gm_iadd hG d_m_definePiece_161 ?_
      obtain ⟨g33, h⟩ := gmG_of h
      refine gm_iald (t := ((0 + (6 * y9))).toNat) hG gmKc_134 gmLc_134 g33 rfl d_m_definePiece_162 (fun _ => ?_)
      refine gm_iadd hG d_m_definePiece_163 ?_
      obtain ⟨x34, ex34, h⟩ := gmL_of h
      refine gm_top ex34 ?_
      refine gm_istore (lv' := [(8, .inl x34), (0, .inr 133), (9, .inl y9)]) hG d_m_definePiece_164 (by decide) rfl ?_
      refine gm_iinc (lv' := [(9, .inl (y9 + 1)), (8, .inl x34), (0, .inr 133)]) hG 2 d_m_definePiece_166 rfl (by decide) rfl ?_
      refine gm_goto (tgt := 142) hG d_m_definePiece_169 (by decide) ?_
      obtain ⟨g35, h⟩ := gmG_of h
      obtain ⟨g36, h⟩ := gmG_of h
      refine gm_sub [2, 1, 0] rfl ?_
      exact ih g35 g36 h hk
set_option maxRecDepth 100000 in
set_option maxHeartbeats 4000000 in
theorem Wm_definePiece {a0 : Int} {a1 : Int} {a2 : Int} {a3 : Int} {a4 : Int} {a5 : Int} {σ : St} {rv : Int} {rs : St} (ra0 : gmR a0) (ra1 : gmR a1) (ra2 : gmR a2) (ra3 : gmR a3) (ra4 : gmR a4) (ra5 : gmR a5) (h : Fm_definePiece a0 a1 a2 a3 a4 a5 σ = some (rv, rs)) : Ctr gmY6_definePiece prog_8_method_7_code 10 (some .int) 1 22 [.inr 133, .inl a0, .inl a1, .inl a2, .inl a3, .inl a4, .inl a5] σ (some rv) rs := by
  refine Ctr.ofI (own := "GarmentMarkerModel") (by decide +kernel) rfl (Nat.le_of_ble_eq_true rfl) (fun φ hG hF => ?_)
  unfold Fm_definePiece at h
  refine gm_lv (l2 := [(0, .inr 133), (1, .inl a0), (2, .inl a1), (3, .inl a2), (4, .inl a3), (5, .inl a4), (6, .inl a5)]) rfl ?_
  refine gm_ok (fun hO => ?_)
  refine gm_iload_n hG 1 d_m_definePiece_0 rfl rfl ?_
  refine gm_iconst hG d_m_definePiece_1 ?_
  refine gm_iconst hG d_m_definePiece_2 ?_
  obtain ⟨r2, s1, es1, h⟩ := gmB_of h
  refine gm_callSi hG [.inl a0, .inl 0, .inl 5] [] gmM_6_59 (Wm_in ra0 (by decide) (by decide) es1) rfl (by decide) (Nat.le_of_ble_eq_true rfl) rfl d_m_definePiece_3 (fun qr2 => ?_)
  refine gm_ok (fun hOs1 => ?_)
  refine gm_if_ne (tgt := 13) hG d_m_definePiece_6 (by decide) qr2 (fun c3 => ?_) (fun c3 => ?_)
  · replace h := gmI_neg c3 h
    refine gm_iload_n hG 2 d_m_definePiece_13 rfl rfl ?_
    refine gm_iconst hG d_m_definePiece_14 ?_
    refine gm_bipush hG d_m_definePiece_15 (by decide) ?_
    obtain ⟨r5, s4, es4, h⟩ := gmB_of h
    refine gm_callSi hG [.inl a1, .inl 1, .inl 12] [] gmM_6_59 (Wm_in ra1 (by decide) (by decide) es4) rfl (by decide) (Nat.le_of_ble_eq_true rfl) rfl d_m_definePiece_17 (fun qr5 => ?_)
    refine gm_ok (fun hOs4 => ?_)
    refine gm_if_eq (tgt := 63) hG d_m_definePiece_20 (by decide) qr5 (fun c6 => ?_) (fun c6 => ?_)
    · replace h := gmI_pos c6 h
      refine gm_sipush hG d_m_definePiece_63 (by decide) ?_
      exact gm_iret' hF h (by decide) d_m_definePiece_66
    · replace h := gmI_neg c6 h
      refine gm_iload_n hG 3 d_m_definePiece_23 rfl rfl ?_
      refine gm_iconst hG d_m_definePiece_24 ?_
      refine gm_bipush hG d_m_definePiece_25 (by decide) ?_
      obtain ⟨r8, s7, es7, h⟩ := gmB_of h
      refine gm_callSi hG [.inl a2, .inl 1, .inl 12] [] gmM_6_59 (Wm_in ra2 (by decide) (by decide) es7) rfl (by decide) (Nat.le_of_ble_eq_true rfl) rfl d_m_definePiece_27 (fun qr8 => ?_)
      refine gm_ok (fun hOs7 => ?_)
      refine gm_if_eq (tgt := 63) hG d_m_definePiece_30 (by decide) qr8 (fun c9 => ?_) (fun c9 => ?_)
      · replace h := gmI_pos c9 h
        refine gm_sipush hG d_m_definePiece_63 (by decide) ?_
        exact gm_iret' hF h (by decide) d_m_definePiece_66
      · replace h := gmI_neg c9 h
        refine gm_iload hG 4 d_m_definePiece_33 rfl ?_
        refine gm_iconst hG d_m_definePiece_35 ?_
        refine gm_iconst hG d_m_definePiece_36 ?_
        obtain ⟨r11, s10, es10, h⟩ := gmB_of h
        refine gm_callSi hG [.inl a3, .inl 0, .inl 3] [] gmM_6_59 (Wm_in ra3 (by decide) (by decide) es10) rfl (by decide) (Nat.le_of_ble_eq_true rfl) rfl d_m_definePiece_37 (fun qr11 => ?_)
        refine gm_ok (fun hOs10 => ?_)
        refine gm_if_eq (tgt := 63) hG d_m_definePiece_40 (by decide) qr11 (fun c12 => ?_) (fun c12 => ?_)
        · replace h := gmI_pos c12 h
          refine gm_sipush hG d_m_definePiece_63 (by decide) ?_
          exact gm_iret' hF h (by decide) d_m_definePiece_66
        · replace h := gmI_neg c12 h
          refine gm_iload hG 5 d_m_definePiece_43 rfl ?_
          refine gm_iconst hG d_m_definePiece_45 ?_
          refine gm_iconst hG d_m_definePiece_46 ?_
          obtain ⟨r14, s13, es13, h⟩ := gmB_of h
          refine gm_callSi hG [.inl a4, .inl 0, .inl 3] [] gmM_6_59 (Wm_in ra4 (by decide) (by decide) es13) rfl (by decide) (Nat.le_of_ble_eq_true rfl) rfl d_m_definePiece_47 (fun qr14 => ?_)
          refine gm_ok (fun hOs13 => ?_)
          refine gm_if_eq (tgt := 63) hG d_m_definePiece_50 (by decide) qr14 (fun c15 => ?_) (fun c15 => ?_)
          · replace h := gmI_pos c15 h
            refine gm_sipush hG d_m_definePiece_63 (by decide) ?_
            exact gm_iret' hF h (by decide) d_m_definePiece_66
          · replace h := gmI_neg c15 h
            refine gm_iload hG 6 d_m_definePiece_53 rfl ?_
            refine gm_iconst hG d_m_definePiece_55 ?_
            refine gm_iconst hG d_m_definePiece_56 ?_
            obtain ⟨r17, s16, es16, h⟩ := gmB_of h
            refine gm_callSi hG [.inl a5, .inl 1, .inl 2] [] gmM_6_59 (Wm_in ra5 (by decide) (by decide) es16) rfl (by decide) (Nat.le_of_ble_eq_true rfl) rfl d_m_definePiece_57 (fun qr17 => ?_)
            refine gm_ok (fun hOs16 => ?_)
            refine gm_if_ne (tgt := 67) hG d_m_definePiece_60 (by decide) qr17 (fun c18 => ?_) (fun c18 => ?_)
            · replace h := gmI_neg c18 h
              refine gm_iconst hG d_m_definePiece_67 ?_
              refine gm_bipush hG d_m_definePiece_68 (by decide) ?_
              refine gm_iload_n hG 1 d_m_definePiece_70 rfl rfl ?_
              refine gm_imul hG d_m_definePiece_71 ?_
              refine gm_iadd hG d_m_definePiece_72 ?_
              obtain ⟨x19, ex19, h⟩ := gmL_of h
              refine gm_top ex19 ?_
              refine gm_istore (lv' := [(7, .inl x19), (0, .inr 133), (1, .inl a0), (2, .inl a1), (3, .inl a2), (4, .inl a3), (5, .inl a4), (6, .inl a5)]) hG d_m_definePiece_73 (by decide) rfl ?_
              refine gm_aload_n hG 1 d_m_definePiece_75 rfl rfl ?_
              refine gm_getR (t := 134) hG gmF_6_7 gmKc_133 rfl d_m_definePiece_76 ?_
              refine gm_iload hG 0 d_m_definePiece_79 rfl ?_
              refine gm_iconst hG d_m_definePiece_81 ?_
              obtain ⟨g20, h⟩ := gmG_of h
              obtain ⟨s21, es21, h⟩ := gmL_of h
              refine gm_iast (t := (x19).toNat) hG gmKc_134 gmLc_134 g20 rfl (by decide) es21 d_m_definePiece_82 ?_
              refine gm_ok (fun hOs21 => ?_)
              refine gm_aload_n hG 1 d_m_definePiece_83 rfl rfl ?_
              refine gm_getR (t := 134) hG gmF_6_7 gmKc_133 rfl d_m_definePiece_84 ?_
              refine gm_iload hG 0 d_m_definePiece_87 rfl ?_
              refine gm_iconst hG d_m_definePiece_89 ?_
              refine gm_iadd hG d_m_definePiece_90 ?_
              refine gm_iload_n hG 3 d_m_definePiece_91 rfl rfl ?_
              obtain ⟨g22, h⟩ := gmG_of h
              obtain ⟨s23, es23, h⟩ := gmL_of h
              refine gm_iast (t := ((x19 + 1)).toNat) hG gmKc_134 gmLc_134 g22 rfl ra1 es23 d_m_definePiece_92 ?_
              refine gm_ok (fun hOs23 => ?_)
              refine gm_aload_n hG 1 d_m_definePiece_93 rfl rfl ?_
              refine gm_getR (t := 134) hG gmF_6_7 gmKc_133 rfl d_m_definePiece_94 ?_
              refine gm_iload hG 0 d_m_definePiece_97 rfl ?_
              refine gm_iconst hG d_m_definePiece_99 ?_
              refine gm_iadd hG d_m_definePiece_100 ?_
              refine gm_iload_n hG 4 d_m_definePiece_101 rfl rfl ?_
              obtain ⟨g24, h⟩ := gmG_of h
              obtain ⟨s25, es25, h⟩ := gmL_of h
              refine gm_iast (t := ((x19 + 2)).toNat) hG gmKc_134 gmLc_134 g24 rfl ra2 es25 d_m_definePiece_102 ?_
              refine gm_ok (fun hOs25 => ?_)
              refine gm_aload_n hG 1 d_m_definePiece_103 rfl rfl ?_
              refine gm_getR (t := 134) hG gmF_6_7 gmKc_133 rfl d_m_definePiece_104 ?_
              refine gm_iload hG 0 d_m_definePiece_107 rfl ?_
              refine gm_iconst hG d_m_definePiece_109 ?_
              refine gm_iadd hG d_m_definePiece_110 ?_
              refine gm_iload hG 5 d_m_definePiece_111 rfl ?_
              obtain ⟨g26, h⟩ := gmG_of h
              obtain ⟨s27, es27, h⟩ := gmL_of h
              refine gm_iast (t := ((x19 + 3)).toNat) hG gmKc_134 gmLc_134 g26 rfl ra3 es27 d_m_definePiece_113 ?_
              refine gm_ok (fun hOs27 => ?_)
              refine gm_aload_n hG 1 d_m_definePiece_114 rfl rfl ?_
              refine gm_getR (t := 134) hG gmF_6_7 gmKc_133 rfl d_m_definePiece_115 ?_
              refine gm_iload hG 0 d_m_definePiece_118 rfl ?_
              refine gm_iconst hG d_m_definePiece_120 ?_
              refine gm_iadd hG d_m_definePiece_121 ?_
              refine gm_iload hG 6 d_m_definePiece_122 rfl ?_
              obtain ⟨g28, h⟩ := gmG_of h
              obtain ⟨s29, es29, h⟩ := gmL_of h
              refine gm_iast (t := ((x19 + 4)).toNat) hG gmKc_134 gmLc_134 g28 rfl ra4 es29 d_m_definePiece_124 ?_
              refine gm_ok (fun hOs29 => ?_)
              refine gm_aload_n hG 1 d_m_definePiece_125 rfl rfl ?_
              refine gm_getR (t := 134) hG gmF_6_7 gmKc_133 rfl d_m_definePiece_126 ?_
              refine gm_iload hG 0 d_m_definePiece_129 rfl ?_
              refine gm_iconst hG d_m_definePiece_131 ?_
              refine gm_iadd hG d_m_definePiece_132 ?_
              refine gm_iload hG 7 d_m_definePiece_133 rfl ?_
              obtain ⟨g30, h⟩ := gmG_of h
              obtain ⟨s31, es31, h⟩ := gmL_of h
              refine gm_iast (t := ((x19 + 5)).toNat) hG gmKc_134 gmLc_134 g30 rfl ra5 es31 d_m_definePiece_135 ?_
              refine gm_ok (fun hOs31 => ?_)
              refine gm_iconst hG d_m_definePiece_136 ?_
              refine gm_istore (lv' := [(8, .inl 0), (7, .inl x19), (0, .inr 133), (1, .inl a0), (2, .inl a1), (3, .inl a2), (4, .inl a3), (5, .inl a4), (6, .inl a5)]) hG d_m_definePiece_137 (by decide) rfl ?_
              refine gm_iconst hG d_m_definePiece_139 ?_
              refine gm_istore (lv' := [(9, .inl 0), (8, .inl 0), (7, .inl x19), (0, .inr 133), (1, .inl a0), (2, .inl a1), (3, .inl a2), (4, .inl a3), (5, .inl a4), (6, .inl a5)]) hG d_m_definePiece_140 (by decide) rfl ?_
              refine gm_sub [3, 1, 0] rfl ?_
              refine Wm_definePiece_142 hG hF gmN (by decide) (by decide) h (fun {x37} {s38} qx37 h => ?_)
              refine gm_ok (fun hOs38 => ?_)
              refine gm_iload hG 0 d_m_definePiece_172 rfl ?_
              exact gm_iret' hF h qx37 d_m_definePiece_174
            · replace h := gmI_pos c18 h
              refine gm_sipush hG d_m_definePiece_63 (by decide) ?_
              exact gm_iret' hF h (by decide) d_m_definePiece_66
  · replace h := gmI_pos c3 h
    refine gm_sipush hG d_m_definePiece_9 (by decide) ?_
    exact gm_iret' hF h (by decide) d_m_definePiece_12
def Fm_dropSeam_7 : Nat → Int → St → (St → Option St) → Option St
  | 0, _, _, _ => none
  | n + 1, y2, σ, k => gmG (gmR (y2 + 5)) (if 67 ≤ (y2 + 5) then k σ else gmG (0 ≤ (y2 + 5) ∧ (y2 + 5) < 78) (gmG (0 ≤ y2 ∧ y2 < 78) (gmL (gmUp σ 134 (y2).toNat (σ 134 ((y2 + 5)).toNat)) (fun s6 => gmG (gmR (y2 + 1)) (Fm_dropSeam_7 n (y2 + 1) s6 k)))))
def Fm_dropSeam (a0 : Int) (σ : St) : Option St := gmL ((37 + (5 * a0)) : Int) (fun x1 => gmG (gmR x1) (Fm_dropSeam_7 gmN x1 σ (fun s9 => gmG (gmR ((s9 134 36) - 1)) (gmL (gmUp s9 134 36 ((s9 134 36) - 1)) (fun s11 => some s11)))))
set_option maxRecDepth 100000 in
set_option maxHeartbeats 4000000 in
theorem Wm_dropSeam_7 {φ : Fx} {rs : St} (hG : Good φ "GarmentMarkerModel" prog_8_method_8_code 3 0 0) (hF : FinV φ prog_8_method_8_code rs) : ∀ (n : Nat) {y2 : Int} {σ : St} {k : St → Option St}, gmR y2 → Fm_dropSeam_7 n y2 σ k = some rs → (∀ {τ : St}, k τ = some rs → J φ τ 35 [(0, .inr 133)] []) → J φ σ 7 [(0, .inr 133), (2, .inl y2)] [] := by
  intro n
  induction n with
  | zero =>
    intro _ _ _ _ h
    exact absurd h (by rw [Fm_dropSeam_7.eq_1]; exact fun q => by cases q)
  | succ n ih =>
    intro y2 σ k r2 h hk
    rw [Fm_dropSeam_7.eq_2] at h
    refine gm_ok (fun hO => ?_)
    refine gm_iload_n hG 1 d_m_dropSeam_7 rfl rfl ?_
    refine gm_iconst hG d_m_dropSeam_8 ?_
    refine gm_iadd hG d_m_dropSeam_9 ?_
    refine gm_bipush hG d_m_dropSeam_10 (by decide) ?_
    obtain ⟨g2, h⟩ := gmG_of h
    refine gm_icmp_ge (tgt := 35) hG d_m_dropSeam_12 (by decide) g2 (by decide) (fun c3 => ?_) (fun c3 => ?_)
    · replace h := gmI_pos c3 h
      refine gm_sub [0] rfl ?_
      exact hk h
    · replace h := gmI_neg c3 h
      refine gm_aload_n hG 0 d_m_dropSeam_15 rfl rfl ?_
      refine gm_getR (t := 134) hG gmF_6_7 gmKc_133 rfl d_m_dropSeam_16 ?_
      refine gm_iload_n hG 1 d_m_dropSeam_19 rfl rfl ?_
      refine gm_aload_n hG 0 d_m_dropSeam_20 rfl rfl ?_
      refine gm_getR (t := 134) hG gmF_6_7 gmKc_133 rfl d_m_dropSeam_21 ?_
      refine gm_iload_n hG 1 d_m_dropSeam_24 rfl rfl ?_
      refine gm_iconst hG d_m_dropSeam_25 ?_
      refine gm_iadd hG d_m_dropSeam_26 ?_
      obtain ⟨g4, h⟩ := gmG_of h
      refine gm_iald (t := ((y2 + 5)).toNat) hG gmKc_134 gmLc_134 g4 rfl d_m_dropSeam_27 (fun _ => ?_)
      obtain ⟨g5, h⟩ := gmG_of h
      obtain ⟨s6, es6, h⟩ := gmL_of h
      refine gm_iast (t := (y2).toNat) hG gmKc_134 gmLc_134 g5 rfl (hO 134 ((y2 + 5)).toNat) es6 d_m_dropSeam_28 ?_
      refine gm_ok (fun hOs6 => ?_)
      refine gm_iinc (lv' := [(2, .inl (y2 + 1)), (0, .inr 133)]) hG 1 d_m_dropSeam_29 rfl (by decide) rfl ?_
      refine gm_goto (tgt := 7) hG d_m_dropSeam_32 (by decide) ?_
      obtain ⟨g7, h⟩ := gmG_of h
      refine gm_sub [1, 0] rfl ?_
      exact ih g7 h hk
set_option maxRecDepth 100000 in
set_option maxHeartbeats 4000000 in
theorem Wm_dropSeam {a0 : Int} {σ : St} {rs : St} (ra0 : gmR a0) (h : Fm_dropSeam a0 σ = some rs) : Ctr gmY6_dropSeam prog_8_method_8_code 3 none 0 0 [.inr 133, .inl a0] σ none rs := by
  refine Ctr.ofV (own := "GarmentMarkerModel") (by decide +kernel) rfl (Nat.le_of_ble_eq_true rfl) (fun φ hG hF => ?_)
  unfold Fm_dropSeam at h
  refine gm_lv (l2 := [(0, .inr 133), (1, .inl a0)]) rfl ?_
  refine gm_ok (fun hO => ?_)
  refine gm_bipush hG d_m_dropSeam_0 (by decide) ?_
  refine gm_iconst hG d_m_dropSeam_2 ?_
  refine gm_iload_n hG 1 d_m_dropSeam_3 rfl rfl ?_
  refine gm_imul hG d_m_dropSeam_4 ?_
  refine gm_iadd hG d_m_dropSeam_5 ?_
  obtain ⟨x1, ex1, h⟩ := gmL_of h
  refine gm_top ex1 ?_
  refine gm_istore_n (lv' := [(2, .inl x1), (0, .inr 133), (1, .inl a0)]) hG d_m_dropSeam_6 rfl (by decide) rfl ?_
  obtain ⟨g8, h⟩ := gmG_of h
  refine gm_sub [1, 0] rfl ?_
  refine Wm_dropSeam_7 hG hF gmN g8 h (fun  {s9}  h => ?_)
  refine gm_ok (fun hOs9 => ?_)
  refine gm_aload_n hG 0 d_m_dropSeam_35 rfl rfl ?_
  refine gm_getR (t := 134) hG gmF_6_7 gmKc_133 rfl d_m_dropSeam_36 ?_
  refine gm_bipush hG d_m_dropSeam_39 (by decide) ?_
  refine gm_dup2 hG d_m_dropSeam_41 ?_
  refine gm_iald (t := 36) hG gmKc_134 gmLc_134 (by decide) rfl d_m_dropSeam_42 (fun _ => ?_)
  refine gm_iconst hG d_m_dropSeam_43 ?_
  refine gm_isub hG d_m_dropSeam_44 ?_
  obtain ⟨g10, h⟩ := gmG_of h
  obtain ⟨s11, es11, h⟩ := gmL_of h
  refine gm_iast (t := 36) hG gmKc_134 gmLc_134 (by decide) rfl g10 es11 d_m_dropSeam_45 ?_
  refine gm_ok (fun hOs11 => ?_)
  exact gm_vret' hF h d_m_dropSeam_46
def Fm_removePiece_14 : Nat → Int → Int → St → (St → Option (Int × St)) → Option (Int × St)
  | 0, _, _, _, _ => none
  | n + 1, y1, y2, σ, k => if 6 ≤ y2 then k σ else gmG (0 ≤ ((0 + (6 * y1)) + y2) ∧ ((0 + (6 * y1)) + y2) < 78) (gmL (gmUp σ 134 (((0 + (6 * y1)) + y2)).toNat 0) (fun s6 => gmG (gmR (y2 + 1)) (Fm_removePiece_14 n y1 (y2 + 1) s6 k)))
def Fm_removePiece_50 : Nat → Int → Int → St → (St → Option (Int × St)) → Option (Int × St)
  | 0, _, _, _, _ => none
  | n + 1, y1, y2, σ, k => if y2 < 0 then k σ else gmG (0 ≤ (37 + (5 * y2)) ∧ (37 + (5 * y2)) < 78) (if (σ 134 ((37 + (5 * y2))).toNat) = y1 then gmBv (Fm_dropSeam y2 σ) (fun s13 => gmG (gmR (y2 + (-1))) (Fm_removePiece_50 n y1 (y2 + (-1)) s13 k)) else gmG (0 ≤ ((37 + (5 * y2)) + 2) ∧ ((37 + (5 * y2)) + 2) < 78) (if (σ 134 (((37 + (5 * y2)) + 2)).toNat) = y1 then gmBv (Fm_dropSeam y2 σ) (fun s18 => gmG (gmR (y2 + (-1))) (Fm_removePiece_50 n y1 (y2 + (-1)) s18 k)) else gmG (gmR (y2 + (-1))) (Fm_removePiece_50 n y1 (y2 + (-1)) σ k)))
def Fm_removePiece (a0 : Int) (σ : St) : Option (Int × St) := gmB (Fm_isPiece a0 σ) (fun r2 s1 => if r2 = 0 then some ((-1001), s1) else Fm_removePiece_14 gmN a0 0 s1 (fun s8 => gmL (((s8 134 36) - 1) : Int) (fun x9 => gmG (gmR x9) (Fm_removePiece_50 gmN a0 x9 s8 (fun s21 => some ((s21 134 36), s21))))))
set_option maxRecDepth 100000 in
set_option maxHeartbeats 4000000 in
theorem Wm_removePiece_14 {φ : Fx} {rv : Int} {rs : St} (hG : Good φ "GarmentMarkerModel" prog_8_method_9_code 3 2 43) (hF : FinI φ prog_8_method_9_code rv rs) : ∀ (n : Nat) {y1 : Int} {y2 : Int} {σ : St} {k : St → Option (Int × St)}, gmR y1 → gmR y2 → Fm_removePiece_14 n y1 y2 σ k = some (rv, rs) → (∀ {τ : St}, k τ = some (rv, rs) → J φ τ 40 [(0, .inr 133), (1, .inl y1)] []) → J φ σ 14 [(0, .inr 133), (1, .inl y1), (2, .inl y2)] [] := by
  intro n
  induction n with
  | zero =>
    intro _ _ _ _ _ _ h
    exact absurd h (by rw [Fm_removePiece_14.eq_1]; exact fun q => by cases q)
  | succ n ih =>
    intro y1 y2 σ k r1 r2 h hk
    rw [Fm_removePiece_14.eq_2] at h
    refine gm_ok (fun hO => ?_)
    refine gm_iload_n hG 2 d_m_removePiece_14 rfl rfl ?_
    refine gm_bipush hG d_m_removePiece_15 (by decide) ?_
    refine gm_icmp_ge (tgt := 40) hG d_m_removePiece_17 (by decide) r2 (by decide) (fun c4 => ?_) (fun c4 => ?_)
    · replace h := gmI_pos c4 h
      refine gm_sub [0, 1] rfl ?_
      exact hk h
    · replace h := gmI_neg c4 h
      refine gm_aload_n hG 0 d_m_removePiece_20 rfl rfl ?_
      refine gm_getR (t := 134) hG gmF_6_7 gmKc_133 rfl d_m_removePiece_21 ?_
      refine gm_iconst hG d_m_removePiece_24 ?_
      refine gm_bipush hG d_m_removePiece_25 (by decide) ?_
      refine gm_iload_n hG 1 d_m_removePiece_27 rfl rfl ?_
      refine gm_imul hG d_m_removePiece_28 ?_
      refine gm_iadd hG d_m_removePiece_29 ?_
      refine gm_iload_n hG 2 d_m_removePiece_30 rfl rfl ?_
      refine gm_iadd hG d_m_removePiece_31 ?_
      refine gm_iconst hG d_m_removePiece_32 ?_
      obtain ⟨g5, h⟩ := gmG_of h
      obtain ⟨s6, es6, h⟩ := gmL_of h
      refine gm_iast (t := (((0 + (6 * y1)) + y2)).toNat) hG gmKc_134 gmLc_134 g5 rfl (by decide) es6 d_m_removePiece_33 ?_
      refine gm_ok (fun hOs6 => ?_)
      refine gm_iinc (lv' := [(2, .inl (y2 + 1)), (0, .inr 133), (1, .inl y1)]) hG 2 d_m_removePiece_34 rfl (by decide) rfl ?_
      refine gm_goto (tgt := 14) hG d_m_removePiece_37 (by decide) ?_
      obtain ⟨g7, h⟩ := gmG_of h
      refine gm_sub [1, 2, 0] rfl ?_
      exact ih r1 g7 h hk
set_option maxRecDepth 100000 in
set_option maxHeartbeats 4000000 in
theorem Wm_removePiece_50 {φ : Fx} {rv : Int} {rs : St} (hG : Good φ "GarmentMarkerModel" prog_8_method_9_code 3 2 43) (hF : FinI φ prog_8_method_9_code rv rs) : ∀ (n : Nat) {y1 : Int} {y2 : Int} {σ : St} {k : St → Option (Int × St)}, gmR y1 → gmR y2 → Fm_removePiece_50 n y1 y2 σ k = some (rv, rs) → (∀ {τ : St}, k τ = some (rv, rs) → J φ τ 97 [(0, .inr 133)] []) → J φ σ 50 [(0, .inr 133), (1, .inl y1), (2, .inl y2)] [] := by
  intro n
  induction n with
  | zero =>
    intro _ _ _ _ _ _ h
    exact absurd h (by rw [Fm_removePiece_50.eq_1]; exact fun q => by cases q)
  | succ n ih =>
    intro y1 y2 σ k r1 r2 h hk
    rw [Fm_removePiece_50.eq_2] at h
    refine gm_ok (fun hO => ?_)
    refine gm_iload_n hG 2 d_m_removePiece_50 rfl rfl ?_
    refine gm_if_lt (tgt := 97) hG d_m_removePiece_51 (by decide) r2 (fun c10 => ?_) (fun c10 => ?_)
    · replace h := gmI_pos c10 h
      refine gm_sub [0] rfl ?_
      exact hk h
    · replace h := gmI_neg c10 h
      refine gm_aload_n hG 0 d_m_removePiece_54 rfl rfl ?_
      refine gm_getR (t := 134) hG gmF_6_7 gmKc_133 rfl d_m_removePiece_55 ?_
      refine gm_bipush hG d_m_removePiece_58 (by decide) ?_
      refine gm_iconst hG d_m_removePiece_60 ?_
      refine gm_iload_n hG 2 d_m_removePiece_61 rfl rfl ?_
      refine gm_imul hG d_m_removePiece_62 ?_
      refine gm_iadd hG d_m_removePiece_63 ?_
      obtain ⟨g11, h⟩ := gmG_of h
      refine gm_iald (t := ((37 + (5 * y2))).toNat) hG gmKc_134 gmLc_134 g11 rfl d_m_removePiece_64 (fun _ => ?_)
      refine gm_iload_n hG 1 d_m_removePiece_65 rfl rfl ?_
      refine gm_icmp_eq (tgt := 86) hG d_m_removePiece_66 (by decide) (hO 134 ((37 + (5 * y2))).toNat) r1 (fun c12 => ?_) (fun c12 => ?_)
      · replace h := gmI_pos c12 h
        refine gm_aload_n hG 0 d_m_removePiece_86 rfl rfl ?_
        refine gm_iload_n hG 2 d_m_removePiece_87 rfl rfl ?_
        obtain ⟨s13, es13, h⟩ := gmBv_of h
        refine gm_callVv hG [.inl y2] [] gmM_6_67 (Wm_dropSeam r2 es13) gmKc_133 rfl (by decide) (Nat.le_of_ble_eq_true rfl) rfl d_m_removePiece_88 ?_
        refine gm_ok (fun hOs13 => ?_)
        refine gm_iinc (lv' := [(2, .inl (y2 + (-1))), (0, .inr 133), (1, .inl y1)]) hG 2 d_m_removePiece_91 rfl (by decide) rfl ?_
        refine gm_goto (tgt := 50) hG d_m_removePiece_94 (by decide) ?_
        obtain ⟨g14, h⟩ := gmG_of h
        refine gm_sub [1, 2, 0] rfl ?_
        exact ih r1 g14 h hk
      · replace h := gmI_neg c12 h
        refine gm_aload_n hG 0 d_m_removePiece_69 rfl rfl ?_
        refine gm_getR (t := 134) hG gmF_6_7 gmKc_133 rfl d_m_removePiece_70 ?_
        refine gm_bipush hG d_m_removePiece_73 (by decide) ?_
        refine gm_iconst hG d_m_removePiece_75 ?_
        refine gm_iload_n hG 2 d_m_removePiece_76 rfl rfl ?_
        refine gm_imul hG d_m_removePiece_77 ?_
        refine gm_iadd hG d_m_removePiece_78 ?_
        refine gm_iconst hG d_m_removePiece_79 ?_
        refine gm_iadd hG d_m_removePiece_80 ?_
        obtain ⟨g15, h⟩ := gmG_of h
        refine gm_iald (t := (((37 + (5 * y2)) + 2)).toNat) hG gmKc_134 gmLc_134 g15 rfl d_m_removePiece_81 (fun _ => ?_)
        refine gm_iload_n hG 1 d_m_removePiece_82 rfl rfl ?_
        refine gm_icmp_ne (tgt := 91) hG d_m_removePiece_83 (by decide) (hO 134 (((37 + (5 * y2)) + 2)).toNat) r1 (fun c16 => ?_) (fun c16 => ?_)
        · replace h := gmI_neg c16 h
          refine gm_iinc (lv' := [(2, .inl (y2 + (-1))), (0, .inr 133), (1, .inl y1)]) hG 2 d_m_removePiece_91 rfl (by decide) rfl ?_
          refine gm_goto (tgt := 50) hG d_m_removePiece_94 (by decide) ?_
          obtain ⟨g17, h⟩ := gmG_of h
          refine gm_sub [1, 2, 0] rfl ?_
          exact ih r1 g17 h hk
        · replace h := gmI_pos c16 h
          refine gm_aload_n hG 0 d_m_removePiece_86 rfl rfl ?_
          refine gm_iload_n hG 2 d_m_removePiece_87 rfl rfl ?_
          obtain ⟨s18, es18, h⟩ := gmBv_of h
          refine gm_callVv hG [.inl y2] [] gmM_6_67 (Wm_dropSeam r2 es18) gmKc_133 rfl (by decide) (Nat.le_of_ble_eq_true rfl) rfl d_m_removePiece_88 ?_
          refine gm_ok (fun hOs18 => ?_)
          refine gm_iinc (lv' := [(2, .inl (y2 + (-1))), (0, .inr 133), (1, .inl y1)]) hG 2 d_m_removePiece_91 rfl (by decide) rfl ?_
          refine gm_goto (tgt := 50) hG d_m_removePiece_94 (by decide) ?_
          obtain ⟨g19, h⟩ := gmG_of h
          refine gm_sub [1, 2, 0] rfl ?_
          exact ih r1 g19 h hk
set_option maxRecDepth 100000 in
set_option maxHeartbeats 4000000 in
theorem Wm_removePiece {a0 : Int} {σ : St} {rv : Int} {rs : St} (ra0 : gmR a0) (h : Fm_removePiece a0 σ = some (rv, rs)) : Ctr gmY6_removePiece prog_8_method_9_code 3 (some .int) 2 43 [.inr 133, .inl a0] σ (some rv) rs := by
  refine Ctr.ofI (own := "GarmentMarkerModel") (by decide +kernel) rfl (Nat.le_of_ble_eq_true rfl) (fun φ hG hF => ?_)
  unfold Fm_removePiece at h
  refine gm_lv (l2 := [(0, .inr 133), (1, .inl a0)]) rfl ?_
  refine gm_ok (fun hO => ?_)
  refine gm_aload_n hG 0 d_m_removePiece_0 rfl rfl ?_
  refine gm_iload_n hG 1 d_m_removePiece_1 rfl rfl ?_
  obtain ⟨r2, s1, es1, h⟩ := gmB_of h
  refine gm_callVi hG [.inl a0] [] gmM_6_63 (Wm_isPiece ra0 es1) gmKc_133 rfl (by decide) (Nat.le_of_ble_eq_true rfl) rfl d_m_removePiece_2 (fun qr2 => ?_)
  refine gm_ok (fun hOs1 => ?_)
  refine gm_if_ne (tgt := 12) hG d_m_removePiece_5 (by decide) qr2 (fun c3 => ?_) (fun c3 => ?_)
  · replace h := gmI_neg c3 h
    refine gm_iconst hG d_m_removePiece_12 ?_
    refine gm_istore_n (lv' := [(2, .inl 0), (0, .inr 133), (1, .inl a0)]) hG d_m_removePiece_13 rfl (by decide) rfl ?_
    refine gm_sub [1, 2, 0] rfl ?_
    refine Wm_removePiece_14 hG hF gmN ra0 (by decide) h (fun  {s8}  h => ?_)
    refine gm_ok (fun hOs8 => ?_)
    refine gm_aload_n hG 0 d_m_removePiece_40 rfl rfl ?_
    refine gm_getR (t := 134) hG gmF_6_7 gmKc_133 rfl d_m_removePiece_41 ?_
    refine gm_bipush hG d_m_removePiece_44 (by decide) ?_
    refine gm_iald (t := 36) hG gmKc_134 gmLc_134 (by decide) rfl d_m_removePiece_46 (fun _ => ?_)
    refine gm_iconst hG d_m_removePiece_47 ?_
    refine gm_isub hG d_m_removePiece_48 ?_
    obtain ⟨x9, ex9, h⟩ := gmL_of h
    refine gm_top ex9 ?_
    refine gm_istore_n (lv' := [(2, .inl x9), (0, .inr 133), (1, .inl a0)]) hG d_m_removePiece_49 rfl (by decide) rfl ?_
    obtain ⟨g20, h⟩ := gmG_of h
    refine gm_sub [1, 2, 0] rfl ?_
    refine Wm_removePiece_50 hG hF gmN ra0 g20 h (fun  {s21}  h => ?_)
    refine gm_ok (fun hOs21 => ?_)
    refine gm_aload_n hG 0 d_m_removePiece_97 rfl rfl ?_
    refine gm_getR (t := 134) hG gmF_6_7 gmKc_133 rfl d_m_removePiece_98 ?_
    refine gm_bipush hG d_m_removePiece_101 (by decide) ?_
    refine gm_iald (t := 36) hG gmKc_134 gmLc_134 (by decide) rfl d_m_removePiece_103 (fun _ => ?_)
    exact gm_iret' hF h (hOs21 134 36) d_m_removePiece_104
  · replace h := gmI_pos c3 h
    refine gm_sipush hG d_m_removePiece_8 (by decide) ?_
    exact gm_iret' hF h (by decide) d_m_removePiece_11
def Fm_pieceWidth (a0 : Int) (a1 : Int) (σ : St) : Option (Int × St) := gmB (Fm_isPiece a0 σ) (fun r2 s1 => if r2 = 0 then some ((-1001), s1) else gmB (Fm_isSize a1 s1) (fun r5 s4 => if r5 = 0 then some ((-1002), s4) else gmB (Fm_widthOf a0 a1 s4) (fun r8 s7 => some (r8, s7))))
set_option maxRecDepth 100000 in
set_option maxHeartbeats 4000000 in
theorem Wm_pieceWidth {a0 : Int} {a1 : Int} {σ : St} {rv : Int} {rs : St} (ra0 : gmR a0) (ra1 : gmR a1) (h : Fm_pieceWidth a0 a1 σ = some (rv, rs)) : Ctr gmY6_pieceWidth prog_8_method_10_code 3 (some .int) 2 43 [.inr 133, .inl a0, .inl a1] σ (some rv) rs := by
  refine Ctr.ofI (own := "GarmentMarkerModel") (by decide +kernel) rfl (Nat.le_of_ble_eq_true rfl) (fun φ hG hF => ?_)
  unfold Fm_pieceWidth at h
  refine gm_lv (l2 := [(0, .inr 133), (1, .inl a0), (2, .inl a1)]) rfl ?_
  refine gm_ok (fun hO => ?_)
  refine gm_aload_n hG 0 d_m_pieceWidth_0 rfl rfl ?_
  refine gm_iload_n hG 1 d_m_pieceWidth_1 rfl rfl ?_
  obtain ⟨r2, s1, es1, h⟩ := gmB_of h
  refine gm_callVi hG [.inl a0] [] gmM_6_63 (Wm_isPiece ra0 es1) gmKc_133 rfl (by decide) (Nat.le_of_ble_eq_true rfl) rfl d_m_pieceWidth_2 (fun qr2 => ?_)
  refine gm_ok (fun hOs1 => ?_)
  refine gm_if_ne (tgt := 12) hG d_m_pieceWidth_5 (by decide) qr2 (fun c3 => ?_) (fun c3 => ?_)
  · replace h := gmI_neg c3 h
    refine gm_iload_n hG 2 d_m_pieceWidth_12 rfl rfl ?_
    obtain ⟨r5, s4, es4, h⟩ := gmB_of h
    refine gm_callSi hG [.inl a1] [] gmM_6_71 (Wm_isSize ra1 es4) rfl (by decide) (Nat.le_of_ble_eq_true rfl) rfl d_m_pieceWidth_13 (fun qr5 => ?_)
    refine gm_ok (fun hOs4 => ?_)
    refine gm_if_eq (tgt := 28) hG d_m_pieceWidth_16 (by decide) qr5 (fun c6 => ?_) (fun c6 => ?_)
    · replace h := gmI_pos c6 h
      refine gm_sipush hG d_m_pieceWidth_28 (by decide) ?_
      exact gm_iret' hF h (by decide) d_m_pieceWidth_31
    · replace h := gmI_neg c6 h
      refine gm_aload_n hG 0 d_m_pieceWidth_19 rfl rfl ?_
      refine gm_iload_n hG 1 d_m_pieceWidth_20 rfl rfl ?_
      refine gm_iload_n hG 2 d_m_pieceWidth_21 rfl rfl ?_
      obtain ⟨r8, s7, es7, h⟩ := gmB_of h
      refine gm_callVi hG [.inl a0, .inl a1] [] gmM_6_74 (Wm_widthOf ra0 ra1 es7) gmKc_133 rfl (by decide) (Nat.le_of_ble_eq_true rfl) rfl d_m_pieceWidth_22 (fun qr8 => ?_)
      refine gm_ok (fun hOs7 => ?_)
      refine gm_goto (tgt := 31) hG d_m_pieceWidth_25 (by decide) ?_
      exact gm_iret' hF h qr8 d_m_pieceWidth_31
  · replace h := gmI_pos c3 h
    refine gm_sipush hG d_m_pieceWidth_8 (by decide) ?_
    exact gm_iret' hF h (by decide) d_m_pieceWidth_11
def Fm_pieceLength (a0 : Int) (a1 : Int) (σ : St) : Option (Int × St) := gmB (Fm_isPiece a0 σ) (fun r2 s1 => if r2 = 0 then some ((-1001), s1) else gmB (Fm_isSize a1 s1) (fun r5 s4 => if r5 = 0 then some ((-1002), s4) else gmB (Fm_lengthOf a0 a1 s4) (fun r8 s7 => some (r8, s7))))
set_option maxRecDepth 100000 in
set_option maxHeartbeats 4000000 in
theorem Wm_pieceLength {a0 : Int} {a1 : Int} {σ : St} {rv : Int} {rs : St} (ra0 : gmR a0) (ra1 : gmR a1) (h : Fm_pieceLength a0 a1 σ = some (rv, rs)) : Ctr gmY6_pieceLength prog_8_method_11_code 3 (some .int) 2 43 [.inr 133, .inl a0, .inl a1] σ (some rv) rs := by
  refine Ctr.ofI (own := "GarmentMarkerModel") (by decide +kernel) rfl (Nat.le_of_ble_eq_true rfl) (fun φ hG hF => ?_)
  unfold Fm_pieceLength at h
  refine gm_lv (l2 := [(0, .inr 133), (1, .inl a0), (2, .inl a1)]) rfl ?_
  refine gm_ok (fun hO => ?_)
  refine gm_aload_n hG 0 d_m_pieceLength_0 rfl rfl ?_
  refine gm_iload_n hG 1 d_m_pieceLength_1 rfl rfl ?_
  obtain ⟨r2, s1, es1, h⟩ := gmB_of h
  refine gm_callVi hG [.inl a0] [] gmM_6_63 (Wm_isPiece ra0 es1) gmKc_133 rfl (by decide) (Nat.le_of_ble_eq_true rfl) rfl d_m_pieceLength_2 (fun qr2 => ?_)
  refine gm_ok (fun hOs1 => ?_)
  refine gm_if_ne (tgt := 12) hG d_m_pieceLength_5 (by decide) qr2 (fun c3 => ?_) (fun c3 => ?_)
  · replace h := gmI_neg c3 h
    refine gm_iload_n hG 2 d_m_pieceLength_12 rfl rfl ?_
    obtain ⟨r5, s4, es4, h⟩ := gmB_of h
    refine gm_callSi hG [.inl a1] [] gmM_6_71 (Wm_isSize ra1 es4) rfl (by decide) (Nat.le_of_ble_eq_true rfl) rfl d_m_pieceLength_13 (fun qr5 => ?_)
    refine gm_ok (fun hOs4 => ?_)
    refine gm_if_eq (tgt := 28) hG d_m_pieceLength_16 (by decide) qr5 (fun c6 => ?_) (fun c6 => ?_)
    · replace h := gmI_pos c6 h
      refine gm_sipush hG d_m_pieceLength_28 (by decide) ?_
      exact gm_iret' hF h (by decide) d_m_pieceLength_31
    · replace h := gmI_neg c6 h
      refine gm_aload_n hG 0 d_m_pieceLength_19 rfl rfl ?_
      refine gm_iload_n hG 1 d_m_pieceLength_20 rfl rfl ?_
      refine gm_iload_n hG 2 d_m_pieceLength_21 rfl rfl ?_
      obtain ⟨r8, s7, es7, h⟩ := gmB_of h
      refine gm_callVi hG [.inl a0, .inl a1] [] gmM_6_78 (Wm_lengthOf ra0 ra1 es7) gmKc_133 rfl (by decide) (Nat.le_of_ble_eq_true rfl) rfl d_m_pieceLength_22 (fun qr8 => ?_)
      refine gm_ok (fun hOs7 => ?_)
      refine gm_goto (tgt := 31) hG d_m_pieceLength_25 (by decide) ?_
      exact gm_iret' hF h qr8 d_m_pieceLength_31
  · replace h := gmI_pos c3 h
    refine gm_sipush hG d_m_pieceLength_8 (by decide) ?_
    exact gm_iret' hF h (by decide) d_m_pieceLength_11
def Fm_addSeam (a0 : Int) (a1 : Int) (a2 : Int) (a3 : Int) (a4 : Int) (σ : St) : Option (Int × St) := gmB (Fm_isPiece a0 σ) (fun r2 s1 => if r2 = 0 then some ((-1001), s1) else gmB (Fm_isPiece a2 s1) (fun r5 s4 => if r5 = 0 then some ((-1001), s4) else gmB (Fm_in a1 0 1 s4) (fun r8 s7 => if r8 = 0 then some ((-1005), s7) else gmB (Fm_in a3 0 1 s7) (fun r11 s10 => if r11 = 0 then some ((-1005), s10) else gmB (Fm_in a4 (-3) 3 s10) (fun r14 s13 => if r14 = 0 then some ((-1005), s13) else if (s13 134 36) = 6 then some ((-1006), s13) else gmL ((37 + (5 * (s13 134 36))) : Int) (fun x17 => gmG (0 ≤ x17 ∧ x17 < 78) (gmL (gmUp s13 134 (x17).toNat a0) (fun s19 => gmG (0 ≤ (x17 + 1) ∧ (x17 + 1) < 78) (gmL (gmUp s19 134 ((x17 + 1)).toNat a1) (fun s21 => gmG (0 ≤ (x17 + 2) ∧ (x17 + 2) < 78) (gmL (gmUp s21 134 ((x17 + 2)).toNat a2) (fun s23 => gmG (0 ≤ (x17 + 3) ∧ (x17 + 3) < 78) (gmL (gmUp s23 134 ((x17 + 3)).toNat a3) (fun s25 => gmG (0 ≤ (x17 + 4) ∧ (x17 + 4) < 78) (gmL (gmUp s25 134 ((x17 + 4)).toNat a4) (fun s27 => gmG (gmR ((s27 134 36) + 1)) (gmL (gmUp s27 134 36 ((s27 134 36) + 1)) (fun s29 => gmG (gmR ((s29 134 36) - 1)) (some (((s29 134 36) - 1), s29))))))))))))))))))))
set_option maxRecDepth 100000 in
set_option maxHeartbeats 4000000 in
theorem Wm_addSeam {a0 : Int} {a1 : Int} {a2 : Int} {a3 : Int} {a4 : Int} {σ : St} {rv : Int} {rs : St} (ra0 : gmR a0) (ra1 : gmR a1) (ra2 : gmR a2) (ra3 : gmR a3) (ra4 : gmR a4) (h : Fm_addSeam a0 a1 a2 a3 a4 σ = some (rv, rs)) : Ctr gmY6_addSeam prog_8_method_12_code 7 (some .int) 2 43 [.inr 133, .inl a0, .inl a1, .inl a2, .inl a3, .inl a4] σ (some rv) rs := by
  refine Ctr.ofI (own := "GarmentMarkerModel") (by decide +kernel) rfl (Nat.le_of_ble_eq_true rfl) (fun φ hG hF => ?_)
  unfold Fm_addSeam at h
  refine gm_lv (l2 := [(0, .inr 133), (1, .inl a0), (2, .inl a1), (3, .inl a2), (4, .inl a3), (5, .inl a4)]) rfl ?_
  refine gm_ok (fun hO => ?_)
  refine gm_aload_n hG 0 d_m_addSeam_0 rfl rfl ?_
  refine gm_iload_n hG 1 d_m_addSeam_1 rfl rfl ?_
  obtain ⟨r2, s1, es1, h⟩ := gmB_of h
  refine gm_callVi hG [.inl a0] [] gmM_6_63 (Wm_isPiece ra0 es1) gmKc_133 rfl (by decide) (Nat.le_of_ble_eq_true rfl) rfl d_m_addSeam_2 (fun qr2 => ?_)
  refine gm_ok (fun hOs1 => ?_)
  refine gm_if_eq (tgt := 16) hG d_m_addSeam_5 (by decide) qr2 (fun c3 => ?_) (fun c3 => ?_)
  · replace h := gmI_pos c3 h
    refine gm_sipush hG d_m_addSeam_16 (by decide) ?_
    exact gm_iret' hF h (by decide) d_m_addSeam_19
  · replace h := gmI_neg c3 h
    refine gm_aload_n hG 0 d_m_addSeam_8 rfl rfl ?_
    refine gm_iload_n hG 3 d_m_addSeam_9 rfl rfl ?_
    obtain ⟨r5, s4, es4, h⟩ := gmB_of h
    refine gm_callVi hG [.inl a2] [] gmM_6_63 (Wm_isPiece ra2 es4) gmKc_133 rfl (by decide) (Nat.le_of_ble_eq_true rfl) rfl d_m_addSeam_10 (fun qr5 => ?_)
    refine gm_ok (fun hOs4 => ?_)
    refine gm_if_ne (tgt := 20) hG d_m_addSeam_13 (by decide) qr5 (fun c6 => ?_) (fun c6 => ?_)
    · replace h := gmI_neg c6 h
      refine gm_iload_n hG 2 d_m_addSeam_20 rfl rfl ?_
      refine gm_iconst hG d_m_addSeam_21 ?_
      refine gm_iconst hG d_m_addSeam_22 ?_
      obtain ⟨r8, s7, es7, h⟩ := gmB_of h
      refine gm_callSi hG [.inl a1, .inl 0, .inl 1] [] gmM_6_59 (Wm_in ra1 (by decide) (by decide) es7) rfl (by decide) (Nat.le_of_ble_eq_true rfl) rfl d_m_addSeam_23 (fun qr8 => ?_)
      refine gm_ok (fun hOs7 => ?_)
      refine gm_if_eq (tgt := 50) hG d_m_addSeam_26 (by decide) qr8 (fun c9 => ?_) (fun c9 => ?_)
      · replace h := gmI_pos c9 h
        refine gm_sipush hG d_m_addSeam_50 (by decide) ?_
        exact gm_iret' hF h (by decide) d_m_addSeam_53
      · replace h := gmI_neg c9 h
        refine gm_iload hG 4 d_m_addSeam_29 rfl ?_
        refine gm_iconst hG d_m_addSeam_31 ?_
        refine gm_iconst hG d_m_addSeam_32 ?_
        obtain ⟨r11, s10, es10, h⟩ := gmB_of h
        refine gm_callSi hG [.inl a3, .inl 0, .inl 1] [] gmM_6_59 (Wm_in ra3 (by decide) (by decide) es10) rfl (by decide) (Nat.le_of_ble_eq_true rfl) rfl d_m_addSeam_33 (fun qr11 => ?_)
        refine gm_ok (fun hOs10 => ?_)
        refine gm_if_eq (tgt := 50) hG d_m_addSeam_36 (by decide) qr11 (fun c12 => ?_) (fun c12 => ?_)
        · replace h := gmI_pos c12 h
          refine gm_sipush hG d_m_addSeam_50 (by decide) ?_
          exact gm_iret' hF h (by decide) d_m_addSeam_53
        · replace h := gmI_neg c12 h
          refine gm_iload hG 5 d_m_addSeam_39 rfl ?_
          refine gm_bipush hG d_m_addSeam_41 (by decide) ?_
          refine gm_iconst hG d_m_addSeam_43 ?_
          obtain ⟨r14, s13, es13, h⟩ := gmB_of h
          refine gm_callSi hG [.inl a4, .inl (-3), .inl 3] [] gmM_6_59 (Wm_in ra4 (by decide) (by decide) es13) rfl (by decide) (Nat.le_of_ble_eq_true rfl) rfl d_m_addSeam_44 (fun qr14 => ?_)
          refine gm_ok (fun hOs13 => ?_)
          refine gm_if_ne (tgt := 54) hG d_m_addSeam_47 (by decide) qr14 (fun c15 => ?_) (fun c15 => ?_)
          · replace h := gmI_neg c15 h
            refine gm_aload_n hG 0 d_m_addSeam_54 rfl rfl ?_
            refine gm_getR (t := 134) hG gmF_6_7 gmKc_133 rfl d_m_addSeam_55 ?_
            refine gm_bipush hG d_m_addSeam_58 (by decide) ?_
            refine gm_iald (t := 36) hG gmKc_134 gmLc_134 (by decide) rfl d_m_addSeam_60 (fun _ => ?_)
            refine gm_bipush hG d_m_addSeam_61 (by decide) ?_
            refine gm_icmp_ne (tgt := 70) hG d_m_addSeam_63 (by decide) (hOs13 134 36) (by decide) (fun c16 => ?_) (fun c16 => ?_)
            · replace h := gmI_neg c16 h
              refine gm_bipush hG d_m_addSeam_70 (by decide) ?_
              refine gm_iconst hG d_m_addSeam_72 ?_
              refine gm_aload_n hG 0 d_m_addSeam_73 rfl rfl ?_
              refine gm_getR (t := 134) hG gmF_6_7 gmKc_133 rfl d_m_addSeam_74 ?_
              refine gm_bipush hG d_m_addSeam_77 (by decide) ?_
              refine gm_iald (t := 36) hG gmKc_134 gmLc_134 (by decide) rfl d_m_addSeam_79 (fun _ => ?_)
              refine gm_imul hG d_m_addSeam_80 ?_
              refine gm_iadd hG d_m_addSeam_81 ?_
              obtain ⟨x17, ex17, h⟩ := gmL_of h
              refine gm_top ex17 ?_
              refine gm_istore (lv' := [(6, .inl x17), (0, .inr 133), (1, .inl a0), (2, .inl a1), (3, .inl a2), (4, .inl a3), (5, .inl a4)]) hG d_m_addSeam_82 (by decide) rfl ?_
              refine gm_aload_n hG 1 d_m_addSeam_84 rfl rfl ?_
              refine gm_getR (t := 134) hG gmF_6_7 gmKc_133 rfl d_m_addSeam_85 ?_
              refine gm_iload hG 0 d_m_addSeam_88 rfl ?_
              refine gm_iload_n hG 2 d_m_addSeam_90 rfl rfl ?_
              obtain ⟨g18, h⟩ := gmG_of h
              obtain ⟨s19, es19, h⟩ := gmL_of h
              refine gm_iast (t := (x17).toNat) hG gmKc_134 gmLc_134 g18 rfl ra0 es19 d_m_addSeam_91 ?_
              refine gm_ok (fun hOs19 => ?_)
              refine gm_aload_n hG 1 d_m_addSeam_92 rfl rfl ?_
              refine gm_getR (t := 134) hG gmF_6_7 gmKc_133 rfl d_m_addSeam_93 ?_
              refine gm_iload hG 0 d_m_addSeam_96 rfl ?_
              refine gm_iconst hG d_m_addSeam_98 ?_
              refine gm_iadd hG d_m_addSeam_99 ?_
              refine gm_iload_n hG 3 d_m_addSeam_100 rfl rfl ?_
              obtain ⟨g20, h⟩ := gmG_of h
              obtain ⟨s21, es21, h⟩ := gmL_of h
              refine gm_iast (t := ((x17 + 1)).toNat) hG gmKc_134 gmLc_134 g20 rfl ra1 es21 d_m_addSeam_101 ?_
              refine gm_ok (fun hOs21 => ?_)
              refine gm_aload_n hG 1 d_m_addSeam_102 rfl rfl ?_
              refine gm_getR (t := 134) hG gmF_6_7 gmKc_133 rfl d_m_addSeam_103 ?_
              refine gm_iload hG 0 d_m_addSeam_106 rfl ?_
              refine gm_iconst hG d_m_addSeam_108 ?_
              refine gm_iadd hG d_m_addSeam_109 ?_
              refine gm_iload_n hG 4 d_m_addSeam_110 rfl rfl ?_
              obtain ⟨g22, h⟩ := gmG_of h
              obtain ⟨s23, es23, h⟩ := gmL_of h
              refine gm_iast (t := ((x17 + 2)).toNat) hG gmKc_134 gmLc_134 g22 rfl ra2 es23 d_m_addSeam_111 ?_
              refine gm_ok (fun hOs23 => ?_)
              refine gm_aload_n hG 1 d_m_addSeam_112 rfl rfl ?_
              refine gm_getR (t := 134) hG gmF_6_7 gmKc_133 rfl d_m_addSeam_113 ?_
              refine gm_iload hG 0 d_m_addSeam_116 rfl ?_
              refine gm_iconst hG d_m_addSeam_118 ?_
              refine gm_iadd hG d_m_addSeam_119 ?_
              refine gm_iload hG 5 d_m_addSeam_120 rfl ?_
              obtain ⟨g24, h⟩ := gmG_of h
              obtain ⟨s25, es25, h⟩ := gmL_of h
              refine gm_iast (t := ((x17 + 3)).toNat) hG gmKc_134 gmLc_134 g24 rfl ra3 es25 d_m_addSeam_122 ?_
              refine gm_ok (fun hOs25 => ?_)
              refine gm_aload_n hG 1 d_m_addSeam_123 rfl rfl ?_
              refine gm_getR (t := 134) hG gmF_6_7 gmKc_133 rfl d_m_addSeam_124 ?_
              refine gm_iload hG 0 d_m_addSeam_127 rfl ?_
              refine gm_iconst hG d_m_addSeam_129 ?_
              refine gm_iadd hG d_m_addSeam_130 ?_
              refine gm_iload hG 6 d_m_addSeam_131 rfl ?_
              obtain ⟨g26, h⟩ := gmG_of h
              obtain ⟨s27, es27, h⟩ := gmL_of h
              refine gm_iast (t := ((x17 + 4)).toNat) hG gmKc_134 gmLc_134 g26 rfl ra4 es27 d_m_addSeam_133 ?_
              refine gm_ok (fun hOs27 => ?_)
              refine gm_aload_n hG 1 d_m_addSeam_134 rfl rfl ?_
              refine gm_getR (t := 134) hG gmF_6_7 gmKc_133 rfl d_m_addSeam_135 ?_
              refine gm_bipush hG d_m_addSeam_138 (by decide) ?_
              refine gm_dup2 hG d_m_addSeam_140 ?_
              refine gm_iald (t := 36) hG gmKc_134 gmLc_134 (by decide) rfl d_m_addSeam_141 (fun _ => ?_)
              refine gm_iconst hG d_m_addSeam_142 ?_
              refine gm_iadd hG d_m_addSeam_143 ?_
              obtain ⟨g28, h⟩ := gmG_of h
              obtain ⟨s29, es29, h⟩ := gmL_of h
              refine gm_iast (t := 36) hG gmKc_134 gmLc_134 (by decide) rfl g28 es29 d_m_addSeam_144 ?_
              refine gm_ok (fun hOs29 => ?_)
              refine gm_aload_n hG 1 d_m_addSeam_145 rfl rfl ?_
              refine gm_getR (t := 134) hG gmF_6_7 gmKc_133 rfl d_m_addSeam_146 ?_
              refine gm_bipush hG d_m_addSeam_149 (by decide) ?_
              refine gm_iald (t := 36) hG gmKc_134 gmLc_134 (by decide) rfl d_m_addSeam_151 (fun _ => ?_)
              refine gm_iconst hG d_m_addSeam_152 ?_
              refine gm_isub hG d_m_addSeam_153 ?_
              obtain ⟨g30, h⟩ := gmG_of h
              exact gm_iret' hF h g30 d_m_addSeam_154
            · replace h := gmI_pos c16 h
              refine gm_sipush hG d_m_addSeam_66 (by decide) ?_
              exact gm_iret' hF h (by decide) d_m_addSeam_69
          · replace h := gmI_pos c15 h
            refine gm_sipush hG d_m_addSeam_50 (by decide) ?_
            exact gm_iret' hF h (by decide) d_m_addSeam_53
    · replace h := gmI_pos c6 h
      refine gm_sipush hG d_m_addSeam_16 (by decide) ?_
      exact gm_iret' hF h (by decide) d_m_addSeam_19
def Fm_seamCount (σ : St) : Option (Int × St) := some ((σ 134 36), σ)
set_option maxRecDepth 100000 in
set_option maxHeartbeats 4000000 in
theorem Wm_seamCount {σ : St} {rv : Int} {rs : St} (h : Fm_seamCount σ = some (rv, rs)) : Ctr gmY6_seamCount prog_8_method_13_code 1 (some .int) 0 0 [.inr 133] σ (some rv) rs := by
  refine Ctr.ofI (own := "GarmentMarkerModel") (by decide +kernel) rfl (Nat.le_of_ble_eq_true rfl) (fun φ hG hF => ?_)
  unfold Fm_seamCount at h
  refine gm_lv (l2 := [(0, .inr 133)]) rfl ?_
  refine gm_ok (fun hO => ?_)
  refine gm_aload_n hG 0 d_m_seamCount_0 rfl rfl ?_
  refine gm_getR (t := 134) hG gmF_6_7 gmKc_133 rfl d_m_seamCount_1 ?_
  refine gm_bipush hG d_m_seamCount_4 (by decide) ?_
  refine gm_iald (t := 36) hG gmKc_134 gmLc_134 (by decide) rfl d_m_seamCount_6 (fun _ => ?_)
  exact gm_iret' hF h (hO 134 36) d_m_seamCount_7
def Fm_sideOf (a0 : Int) (a1 : Int) (a2 : Int) (σ : St) : Option (Int × St) := if a1 = 0 then gmB (Fm_widthOf a0 a2 σ) (fun r5 s4 => some (r5, s4)) else gmB (Fm_lengthOf a0 a2 σ) (fun r3 s2 => some (r3, s2))
set_option maxRecDepth 100000 in
set_option maxHeartbeats 4000000 in
theorem Wm_sideOf {a0 : Int} {a1 : Int} {a2 : Int} {σ : St} {rv : Int} {rs : St} (ra0 : gmR a0) (ra1 : gmR a1) (ra2 : gmR a2) (h : Fm_sideOf a0 a1 a2 σ = some (rv, rs)) : Ctr gmY6_sideOf prog_8_method_14_code 4 (some .int) 1 22 [.inr 133, .inl a0, .inl a1, .inl a2] σ (some rv) rs := by
  refine Ctr.ofI (own := "GarmentMarkerModel") (by decide +kernel) rfl (Nat.le_of_ble_eq_true rfl) (fun φ hG hF => ?_)
  unfold Fm_sideOf at h
  refine gm_lv (l2 := [(0, .inr 133), (1, .inl a0), (2, .inl a1), (3, .inl a2)]) rfl ?_
  refine gm_ok (fun hO => ?_)
  refine gm_iload_n hG 2 d_m_sideOf_0 rfl rfl ?_
  refine gm_if_ne (tgt := 13) hG d_m_sideOf_1 (by decide) ra1 (fun c1 => ?_) (fun c1 => ?_)
  · replace h := gmI_neg c1 h
    refine gm_aload_n hG 0 d_m_sideOf_13 rfl rfl ?_
    refine gm_iload_n hG 1 d_m_sideOf_14 rfl rfl ?_
    refine gm_iload_n hG 3 d_m_sideOf_15 rfl rfl ?_
    obtain ⟨r3, s2, es2, h⟩ := gmB_of h
    refine gm_callVi hG [.inl a0, .inl a2] [] gmM_6_78 (Wm_lengthOf ra0 ra2 es2) gmKc_133 rfl (by decide) (Nat.le_of_ble_eq_true rfl) rfl d_m_sideOf_16 (fun qr3 => ?_)
    refine gm_ok (fun hOs2 => ?_)
    exact gm_iret' hF h qr3 d_m_sideOf_19
  · replace h := gmI_pos c1 h
    refine gm_aload_n hG 0 d_m_sideOf_4 rfl rfl ?_
    refine gm_iload_n hG 1 d_m_sideOf_5 rfl rfl ?_
    refine gm_iload_n hG 3 d_m_sideOf_6 rfl rfl ?_
    obtain ⟨r5, s4, es4, h⟩ := gmB_of h
    refine gm_callVi hG [.inl a0, .inl a2] [] gmM_6_74 (Wm_widthOf ra0 ra2 es4) gmKc_133 rfl (by decide) (Nat.le_of_ble_eq_true rfl) rfl d_m_sideOf_7 (fun qr5 => ?_)
    refine gm_ok (fun hOs4 => ?_)
    refine gm_goto (tgt := 19) hG d_m_sideOf_10 (by decide) ?_
    exact gm_iret' hF h qr5 d_m_sideOf_19
def Fm_differenceOf (a0 : Int) (a1 : Int) (σ : St) : Option (Int × St) := gmL ((37 + (5 * a0)) : Int) (fun x1 => gmG (0 ≤ x1 ∧ x1 < 78) (gmG (0 ≤ (x1 + 1) ∧ (x1 + 1) < 78) (gmB (Fm_sideOf (σ 134 (x1).toNat) (σ 134 ((x1 + 1)).toNat) a1 σ) (fun r5 s4 => gmG (0 ≤ (x1 + 2) ∧ (x1 + 2) < 78) (gmG (0 ≤ (x1 + 3) ∧ (x1 + 3) < 78) (gmB (Fm_sideOf (s4 134 ((x1 + 2)).toNat) (s4 134 ((x1 + 3)).toNat) a1 s4) (fun r9 s8 => gmG (0 ≤ (x1 + 4) ∧ (x1 + 4) < 78) (gmG (gmR ((r5 - r9) - (s8 134 ((x1 + 4)).toNat))) (some (((r5 - r9) - (s8 134 ((x1 + 4)).toNat)), s8))))))))))
set_option maxRecDepth 100000 in
set_option maxHeartbeats 4000000 in
theorem Wm_differenceOf {a0 : Int} {a1 : Int} {σ : St} {rv : Int} {rs : St} (ra0 : gmR a0) (ra1 : gmR a1) (h : Fm_differenceOf a0 a1 σ = some (rv, rs)) : Ctr gmY6_differenceOf prog_8_method_15_code 4 (some .int) 2 45 [.inr 133, .inl a0, .inl a1] σ (some rv) rs := by
  refine Ctr.ofI (own := "GarmentMarkerModel") (by decide +kernel) rfl (Nat.le_of_ble_eq_true rfl) (fun φ hG hF => ?_)
  unfold Fm_differenceOf at h
  refine gm_lv (l2 := [(0, .inr 133), (1, .inl a0), (2, .inl a1)]) rfl ?_
  refine gm_ok (fun hO => ?_)
  refine gm_bipush hG d_m_differenceOf_0 (by decide) ?_
  refine gm_iconst hG d_m_differenceOf_2 ?_
  refine gm_iload_n hG 1 d_m_differenceOf_3 rfl rfl ?_
  refine gm_imul hG d_m_differenceOf_4 ?_
  refine gm_iadd hG d_m_differenceOf_5 ?_
  obtain ⟨x1, ex1, h⟩ := gmL_of h
  refine gm_top ex1 ?_
  refine gm_istore_n (lv' := [(3, .inl x1), (0, .inr 133), (1, .inl a0), (2, .inl a1)]) hG d_m_differenceOf_6 rfl (by decide) rfl ?_
  refine gm_aload_n hG 1 d_m_differenceOf_7 rfl rfl ?_
  refine gm_aload_n hG 1 d_m_differenceOf_8 rfl rfl ?_
  refine gm_getR (t := 134) hG gmF_6_7 gmKc_133 rfl d_m_differenceOf_9 ?_
  refine gm_iload_n hG 0 d_m_differenceOf_12 rfl rfl ?_
  obtain ⟨g2, h⟩ := gmG_of h
  refine gm_iald (t := (x1).toNat) hG gmKc_134 gmLc_134 g2 rfl d_m_differenceOf_13 (fun _ => ?_)
  refine gm_aload_n hG 1 d_m_differenceOf_14 rfl rfl ?_
  refine gm_getR (t := 134) hG gmF_6_7 gmKc_133 rfl d_m_differenceOf_15 ?_
  refine gm_iload_n hG 0 d_m_differenceOf_18 rfl rfl ?_
  refine gm_iconst hG d_m_differenceOf_19 ?_
  refine gm_iadd hG d_m_differenceOf_20 ?_
  obtain ⟨g3, h⟩ := gmG_of h
  refine gm_iald (t := ((x1 + 1)).toNat) hG gmKc_134 gmLc_134 g3 rfl d_m_differenceOf_21 (fun _ => ?_)
  refine gm_iload_n hG 3 d_m_differenceOf_22 rfl rfl ?_
  obtain ⟨r5, s4, es4, h⟩ := gmB_of h
  refine gm_callVi hG [.inl (σ 134 (x1).toNat), .inl (σ 134 ((x1 + 1)).toNat), .inl a1] [] gmM_6_81 (Wm_sideOf (hO 134 (x1).toNat) (hO 134 ((x1 + 1)).toNat) ra1 es4) gmKc_133 rfl (by decide) (Nat.le_of_ble_eq_true rfl) rfl d_m_differenceOf_23 (fun qr5 => ?_)
  refine gm_ok (fun hOs4 => ?_)
  refine gm_aload_n hG 1 d_m_differenceOf_26 rfl rfl ?_
  refine gm_aload_n hG 1 d_m_differenceOf_27 rfl rfl ?_
  refine gm_getR (t := 134) hG gmF_6_7 gmKc_133 rfl d_m_differenceOf_28 ?_
  refine gm_iload_n hG 0 d_m_differenceOf_31 rfl rfl ?_
  refine gm_iconst hG d_m_differenceOf_32 ?_
  refine gm_iadd hG d_m_differenceOf_33 ?_
  obtain ⟨g6, h⟩ := gmG_of h
  refine gm_iald (t := ((x1 + 2)).toNat) hG gmKc_134 gmLc_134 g6 rfl d_m_differenceOf_34 (fun _ => ?_)
  refine gm_aload_n hG 1 d_m_differenceOf_35 rfl rfl ?_
  refine gm_getR (t := 134) hG gmF_6_7 gmKc_133 rfl d_m_differenceOf_36 ?_
  refine gm_iload_n hG 0 d_m_differenceOf_39 rfl rfl ?_
  refine gm_iconst hG d_m_differenceOf_40 ?_
  refine gm_iadd hG d_m_differenceOf_41 ?_
  obtain ⟨g7, h⟩ := gmG_of h
  refine gm_iald (t := ((x1 + 3)).toNat) hG gmKc_134 gmLc_134 g7 rfl d_m_differenceOf_42 (fun _ => ?_)
  refine gm_iload_n hG 3 d_m_differenceOf_43 rfl rfl ?_
  obtain ⟨r9, s8, es8, h⟩ := gmB_of h
  refine gm_callVi hG [.inl (s4 134 ((x1 + 2)).toNat), .inl (s4 134 ((x1 + 3)).toNat), .inl a1] [.inl r5] gmM_6_81 (Wm_sideOf (hOs4 134 ((x1 + 2)).toNat) (hOs4 134 ((x1 + 3)).toNat) ra1 es8) gmKc_133 rfl (by decide) (Nat.le_of_ble_eq_true rfl) rfl d_m_differenceOf_44 (fun qr9 => ?_)
  refine gm_ok (fun hOs8 => ?_)
  refine gm_isub hG d_m_differenceOf_47 ?_
  refine gm_aload_n hG 1 d_m_differenceOf_48 rfl rfl ?_
  refine gm_getR (t := 134) hG gmF_6_7 gmKc_133 rfl d_m_differenceOf_49 ?_
  refine gm_iload_n hG 0 d_m_differenceOf_52 rfl rfl ?_
  refine gm_iconst hG d_m_differenceOf_53 ?_
  refine gm_iadd hG d_m_differenceOf_54 ?_
  obtain ⟨g10, h⟩ := gmG_of h
  refine gm_iald (t := ((x1 + 4)).toNat) hG gmKc_134 gmLc_134 g10 rfl d_m_differenceOf_55 (fun _ => ?_)
  refine gm_isub hG d_m_differenceOf_56 ?_
  obtain ⟨g11, h⟩ := gmG_of h
  exact gm_iret' hF h g11 d_m_differenceOf_57
def Fm_seamDifference (a0 : Int) (a1 : Int) (σ : St) : Option (Int × St) := gmG (gmR ((σ 134 36) - 1)) (gmB (Fm_in a0 0 ((σ 134 36) - 1) σ) (fun r3 s2 => if r3 = 0 then some ((-1003), s2) else gmB (Fm_isSize a1 s2) (fun r6 s5 => if r6 = 0 then some ((-1002), s5) else gmB (Fm_differenceOf a0 a1 s5) (fun r9 s8 => some (r9, s8)))))
set_option maxRecDepth 100000 in
set_option maxHeartbeats 4000000 in
theorem Wm_seamDifference {a0 : Int} {a1 : Int} {σ : St} {rv : Int} {rs : St} (ra0 : gmR a0) (ra1 : gmR a1) (h : Fm_seamDifference a0 a1 σ = some (rv, rs)) : Ctr gmY6_seamDifference prog_8_method_16_code 3 (some .int) 3 68 [.inr 133, .inl a0, .inl a1] σ (some rv) rs := by
  refine Ctr.ofI (own := "GarmentMarkerModel") (by decide +kernel) rfl (Nat.le_of_ble_eq_true rfl) (fun φ hG hF => ?_)
  unfold Fm_seamDifference at h
  refine gm_lv (l2 := [(0, .inr 133), (1, .inl a0), (2, .inl a1)]) rfl ?_
  refine gm_ok (fun hO => ?_)
  refine gm_iload_n hG 1 d_m_seamDifference_0 rfl rfl ?_
  refine gm_iconst hG d_m_seamDifference_1 ?_
  refine gm_aload_n hG 0 d_m_seamDifference_2 rfl rfl ?_
  refine gm_getR (t := 134) hG gmF_6_7 gmKc_133 rfl d_m_seamDifference_3 ?_
  refine gm_bipush hG d_m_seamDifference_6 (by decide) ?_
  refine gm_iald (t := 36) hG gmKc_134 gmLc_134 (by decide) rfl d_m_seamDifference_8 (fun _ => ?_)
  refine gm_iconst hG d_m_seamDifference_9 ?_
  refine gm_isub hG d_m_seamDifference_10 ?_
  obtain ⟨g1, h⟩ := gmG_of h
  obtain ⟨r3, s2, es2, h⟩ := gmB_of h
  refine gm_callSi hG [.inl a0, .inl 0, .inl ((σ 134 36) - 1)] [] gmM_6_59 (Wm_in ra0 (by decide) g1 es2) rfl (by decide) (Nat.le_of_ble_eq_true rfl) rfl d_m_seamDifference_11 (fun qr3 => ?_)
  refine gm_ok (fun hOs2 => ?_)
  refine gm_if_ne (tgt := 21) hG d_m_seamDifference_14 (by decide) qr3 (fun c4 => ?_) (fun c4 => ?_)
  · replace h := gmI_neg c4 h
    refine gm_iload_n hG 2 d_m_seamDifference_21 rfl rfl ?_
    obtain ⟨r6, s5, es5, h⟩ := gmB_of h
    refine gm_callSi hG [.inl a1] [] gmM_6_71 (Wm_isSize ra1 es5) rfl (by decide) (Nat.le_of_ble_eq_true rfl) rfl d_m_seamDifference_22 (fun qr6 => ?_)
    refine gm_ok (fun hOs5 => ?_)
    refine gm_if_eq (tgt := 37) hG d_m_seamDifference_25 (by decide) qr6 (fun c7 => ?_) (fun c7 => ?_)
    · replace h := gmI_pos c7 h
      refine gm_sipush hG d_m_seamDifference_37 (by decide) ?_
      exact gm_iret' hF h (by decide) d_m_seamDifference_40
    · replace h := gmI_neg c7 h
      refine gm_aload_n hG 0 d_m_seamDifference_28 rfl rfl ?_
      refine gm_iload_n hG 1 d_m_seamDifference_29 rfl rfl ?_
      refine gm_iload_n hG 2 d_m_seamDifference_30 rfl rfl ?_
      obtain ⟨r9, s8, es8, h⟩ := gmB_of h
      refine gm_callVi hG [.inl a0, .inl a1] [] gmM_6_85 (Wm_differenceOf ra0 ra1 es8) gmKc_133 rfl (by decide) (Nat.le_of_ble_eq_true rfl) rfl d_m_seamDifference_31 (fun qr9 => ?_)
      refine gm_ok (fun hOs8 => ?_)
      refine gm_goto (tgt := 40) hG d_m_seamDifference_34 (by decide) ?_
      exact gm_iret' hF h qr9 d_m_seamDifference_40
  · replace h := gmI_pos c4 h
    refine gm_sipush hG d_m_seamDifference_17 (by decide) ?_
    exact gm_iret' hF h (by decide) d_m_seamDifference_20
