def Fk_packShelves_6 : Nat → Int → Int → Int → St → (St → Option St) → Option St
  | 0, _, _, _, _, _ => none
  | n + 1, y1, y2, y3, σ, k => if (σ 54 1) ≤ y3 then k σ else gmG (0 ≤ y3 ∧ y3 < 72) (gmG (0 ≤ (σ 128 (y3).toNat) ∧ (σ 128 (y3).toNat) < 72) (gmL (gmTg 55 ((σ 128 (y3).toNat)).toNat) (fun p4 => if (σ p4 2) = 0 then gmB (Fk_firstShelfFor p4 y1 σ) (fun r7 s6 => if r7 = y1 then gmG (0 ≤ r7 ∧ r7 < 72) (gmL (gmUp s6 129 (r7).toNat y2) (fun s15 => gmL (gmUp s15 130 (r7).toNat (s15 p4 3)) (fun s16 => gmL (gmUp s16 131 (r7).toNat 0) (fun s17 => gmL ((y2 + (s17 p4 3)) : Int) (fun x18 => gmBv (Fp_placeAt p4 (s17 129 (r7).toNat) (s17 131 (r7).toNat) s17) (fun s19 => gmG (gmR ((s19 131 (r7).toNat) + (s19 p4 4))) (gmL (gmUp s19 131 (r7).toNat ((s19 131 (r7).toNat) + (s19 p4 4))) (fun s21 => gmG (gmR (y1 + 1)) (gmG (gmR x18) (gmG (gmR (y3 + 1)) (Fk_packShelves_6 n (y1 + 1) x18 (y3 + 1) s21 k))))))))))) else gmG (0 ≤ r7 ∧ r7 < 72) (gmBv (Fp_placeAt p4 (s6 129 (r7).toNat) (s6 131 (r7).toNat) s6) (fun s10 => gmG (gmR ((s10 131 (r7).toNat) + (s10 p4 4))) (gmL (gmUp s10 131 (r7).toNat ((s10 131 (r7).toNat) + (s10 p4 4))) (fun s12 => gmG (gmR (y3 + 1)) (Fk_packShelves_6 n y1 y2 (y3 + 1) s12 k)))))) else if y1 = y1 then gmG (0 ≤ y1 ∧ y1 < 72) (gmL (gmUp σ 129 (y1).toNat y2) (fun s32 => gmL (gmUp s32 130 (y1).toNat (s32 p4 3)) (fun s33 => gmL (gmUp s33 131 (y1).toNat 0) (fun s34 => gmL ((y2 + (s34 p4 3)) : Int) (fun x35 => gmBv (Fp_placeAt p4 (s34 129 (y1).toNat) (s34 131 (y1).toNat) s34) (fun s36 => gmG (gmR ((s36 131 (y1).toNat) + (s36 p4 4))) (gmL (gmUp s36 131 (y1).toNat ((s36 131 (y1).toNat) + (s36 p4 4))) (fun s38 => gmG (gmR (y1 + 1)) (gmG (gmR x35) (gmG (gmR (y3 + 1)) (Fk_packShelves_6 n (y1 + 1) x35 (y3 + 1) s38 k))))))))))) else gmG (0 ≤ y1 ∧ y1 < 72) (gmBv (Fp_placeAt p4 (σ 129 (y1).toNat) (σ 131 (y1).toNat) σ) (fun s27 => gmG (gmR ((s27 131 (y1).toNat) + (s27 p4 4))) (gmL (gmUp s27 131 (y1).toNat ((s27 131 (y1).toNat) + (s27 p4 4))) (fun s29 => gmG (gmR (y3 + 1)) (Fk_packShelves_6 n y1 y2 (y3 + 1) s29 k))))))))
def Fk_packShelves (σ : St) : Option St := Fk_packShelves_6 gmN 0 0 0 σ (fun s42 => some s42)
set_option maxRecDepth 100000 in
set_option maxHeartbeats 4000000 in
theorem Wk_packShelves_6 {φ : Fx} {rs : St} (hG : Good φ "GarmentMarker$Marker" prog_2_method_12_code 6 1 23) (hF : FinV φ prog_2_method_12_code rs) : ∀ (n : Nat) {y1 : Int} {y2 : Int} {y3 : Int} {σ : St} {k : St → Option St}, gmR y1 → gmR y2 → gmR y3 → Fk_packShelves_6 n y1 y2 y3 σ k = some rs → (∀ {τ : St}, k τ = some rs → J φ τ 133 [] []) → J φ σ 6 [(0, .inr 54), (1, .inl y1), (2, .inl y2), (3, .inl y3)] [] := by
  intro n
  induction n with
  | zero =>
    intro _ _ _ _ _ _ _ _ h
    exact absurd h (by rw [Fk_packShelves_6.eq_1]; exact fun q => by cases q)
  | succ n ih =>
    intro y1 y2 y3 σ k r1 r2 r3 h hk
    rw [Fk_packShelves_6.eq_2] at h
    refine gm_ok (fun hO => ?_)
    refine gm_iload_n hG 3 d_k_packShelves_6 rfl rfl ?_
    refine gm_aload_n hG 0 d_k_packShelves_7 rfl rfl ?_
    refine gm_getI hG gmF_0_44 gmKc_54 rfl d_k_packShelves_8 (fun _ => ?_)
    refine gm_icmp_ge (tgt := 133) hG d_k_packShelves_11 (by decide) r3 (hO 54 1) (fun c1 => ?_) (fun c1 => ?_)
    · replace h := gmI_pos c1 h
      refine gm_sub [] rfl ?_
      exact hk h
    · replace h := gmI_neg c1 h
      refine gm_aload_n hG 0 d_k_packShelves_14 rfl rfl ?_
      refine gm_getR (t := 55) hG gmF_0_11 gmKc_54 rfl d_k_packShelves_15 ?_
      refine gm_aload_n hG 0 d_k_packShelves_18 rfl rfl ?_
      refine gm_getR (t := 128) hG gmF_0_18 gmKc_54 rfl d_k_packShelves_19 ?_
      refine gm_iload_n hG 3 d_k_packShelves_22 rfl rfl ?_
      obtain ⟨g2, h⟩ := gmG_of h
      refine gm_iald (t := (y3).toNat) hG gmKc_128 gmLc_128 g2 rfl d_k_packShelves_23 (fun _ => ?_)
      obtain ⟨g3, h⟩ := gmG_of h
      refine gm_aald (t := ((σ 128 (y3).toNat)).toNat) hG 5 gmKc_55 (by decide) (by decide) rfl gmLc_55 g3 rfl d_k_packShelves_24 ?_
      obtain ⟨p4, ep4, h⟩ := gmL_of h
      refine gm_topR ep4 ?_
      refine gm_astore (lv' := [(4, .inr p4), (0, .inr 54), (1, .inl y1), (2, .inl y2), (3, .inl y3)]) hG d_k_packShelves_25 (by decide) rfl ?_
      refine gm_aload hG 0 d_k_packShelves_27 rfl ?_
      refine gm_getI hG gmF_0_77 (gm_kd ep4 (gmKtA (k := 55) (i := (σ 128 (y3).toNat)) gmKc_55 (by rw [gmLc_55]; exact g3))) (gmFrN 2 (Or.inl (gm_kd ep4 (gmKtA (k := 55) (i := (σ 128 (y3).toNat)) gmKc_55 (by rw [gmLc_55]; exact g3))))) d_k_packShelves_29 (fun _ => ?_)
      refine gm_if_eq (tgt := 39) hG d_k_packShelves_32 (by decide) (hO p4 2) (fun c5 => ?_) (fun c5 => ?_)
      · replace h := gmI_pos c5 h
        refine gm_aload_n hG 1 d_k_packShelves_39 rfl rfl ?_
        refine gm_aload hG 0 d_k_packShelves_40 rfl ?_
        refine gm_iload_n hG 2 d_k_packShelves_42 rfl rfl ?_
        obtain ⟨r7, s6, es6, h⟩ := gmB_of h
        refine gm_callVi hG [.inr p4, .inl y1] [] gmM_0_123 (Wk_firstShelfFor (gm_kd ep4 (gmKtA (k := 55) (i := (σ 128 (y3).toNat)) gmKc_55 (by rw [gmLc_55]; exact g3))) r1 es6) gmKc_54 rfl (by decide) (Nat.le_of_ble_eq_true rfl) rfl d_k_packShelves_43 (fun qr7 => ?_)
        refine gm_ok (fun hOs6 => ?_)
        refine gm_istore (lv' := [(5, .inl r7), (4, .inr p4), (0, .inr 54), (1, .inl y1), (2, .inl y2), (3, .inl y3)]) hG d_k_packShelves_46 (by decide) rfl ?_
        refine gm_iload hG 0 d_k_packShelves_48 rfl ?_
        refine gm_iload_n hG 3 d_k_packShelves_50 rfl rfl ?_
        refine gm_icmp_ne (tgt := 93) hG d_k_packShelves_51 (by decide) qr7 r1 (fun c8 => ?_) (fun c8 => ?_)
        · replace h := gmI_neg c8 h
          refine gm_aload hG 1 d_k_packShelves_93 rfl ?_
          refine gm_aload_n hG 2 d_k_packShelves_95 rfl rfl ?_
          refine gm_getR (t := 129) hG gmF_0_22 gmKc_54 rfl d_k_packShelves_96 ?_
          refine gm_iload hG 0 d_k_packShelves_99 rfl ?_
          obtain ⟨g9, h⟩ := gmG_of h
          refine gm_iald (t := (r7).toNat) hG gmKc_129 gmLc_129 g9 rfl d_k_packShelves_101 (fun _ => ?_)
          refine gm_aload_n hG 2 d_k_packShelves_102 rfl rfl ?_
          refine gm_getR (t := 131) hG gmF_0_28 gmKc_54 rfl d_k_packShelves_103 ?_
          refine gm_iload hG 0 d_k_packShelves_106 rfl ?_
          refine gm_iald (t := (r7).toNat) hG gmKc_131 gmLc_131 g9 rfl d_k_packShelves_108 (fun _ => ?_)
          obtain ⟨s10, es10, h⟩ := gmBv_of h
          refine gm_callVv hG [.inl (s6 129 (r7).toNat), .inl (s6 131 (r7).toNat)] [] gmM_0_127 (Wp_placeAt (gm_kd ep4 (gmKtA (k := 55) (i := (σ 128 (y3).toNat)) gmKc_55 (by rw [gmLc_55]; exact g3))) (hOs6 129 (r7).toNat) (hOs6 131 (r7).toNat) es10) (gm_kd ep4 (gmKtA (k := 55) (i := (σ 128 (y3).toNat)) gmKc_55 (by rw [gmLc_55]; exact g3))) rfl (by decide) (Nat.le_of_ble_eq_true rfl) rfl d_k_packShelves_109 ?_
          refine gm_ok (fun hOs10 => ?_)
          refine gm_aload_n hG 2 d_k_packShelves_112 rfl rfl ?_
          refine gm_getR (t := 131) hG gmF_0_28 gmKc_54 rfl d_k_packShelves_113 ?_
          refine gm_iload hG 0 d_k_packShelves_116 rfl ?_
          refine gm_dup2 hG d_k_packShelves_118 ?_
          refine gm_iald (t := (r7).toNat) hG gmKc_131 gmLc_131 g9 rfl d_k_packShelves_119 (fun _ => ?_)
          refine gm_aload hG 1 d_k_packShelves_120 rfl ?_
          refine gm_getI hG gmF_0_80 (gm_kd ep4 (gmKtA (k := 55) (i := (σ 128 (y3).toNat)) gmKc_55 (by rw [gmLc_55]; exact g3))) (gmFrN 4 (Or.inl (gm_kd ep4 (gmKtA (k := 55) (i := (σ 128 (y3).toNat)) gmKc_55 (by rw [gmLc_55]; exact g3))))) d_k_packShelves_122 (fun _ => ?_)
          refine gm_iadd hG d_k_packShelves_125 ?_
          obtain ⟨g11, h⟩ := gmG_of h
          obtain ⟨s12, es12, h⟩ := gmL_of h
          refine gm_iast (t := (r7).toNat) hG gmKc_131 gmLc_131 g9 rfl g11 es12 d_k_packShelves_126 ?_
          refine gm_ok (fun hOs12 => ?_)
          refine gm_iinc (lv' := [(3, .inl (y3 + 1)), (5, .inl r7), (4, .inr p4), (0, .inr 54), (1, .inl y1), (2, .inl y2)]) hG 5 d_k_packShelves_127 rfl (by decide) rfl ?_
          refine gm_goto (tgt := 6) hG d_k_packShelves_130 (by decide) ?_
          obtain ⟨g13, h⟩ := gmG_of h
          refine gm_sub [3, 4, 5, 0] rfl ?_
          exact ih r1 r2 g13 h hk
        · replace h := gmI_pos c8 h
          refine gm_aload_n hG 2 d_k_packShelves_54 rfl rfl ?_
          refine gm_getR (t := 129) hG gmF_0_22 gmKc_54 rfl d_k_packShelves_55 ?_
          refine gm_iload hG 0 d_k_packShelves_58 rfl ?_
          refine gm_iload_n hG 4 d_k_packShelves_60 rfl rfl ?_
          obtain ⟨g14, h⟩ := gmG_of h
          obtain ⟨s15, es15, h⟩ := gmL_of h
          refine gm_iast (t := (r7).toNat) hG gmKc_129 gmLc_129 g14 rfl r2 es15 d_k_packShelves_61 ?_
          refine gm_ok (fun hOs15 => ?_)
          refine gm_aload_n hG 2 d_k_packShelves_62 rfl rfl ?_
          refine gm_getR (t := 130) hG gmF_0_25 gmKc_54 rfl d_k_packShelves_63 ?_
          refine gm_iload hG 0 d_k_packShelves_66 rfl ?_
          refine gm_aload hG 1 d_k_packShelves_68 rfl ?_
          refine gm_getI hG gmF_0_83 (gm_kd ep4 (gmKtA (k := 55) (i := (σ 128 (y3).toNat)) gmKc_55 (by rw [gmLc_55]; exact g3))) (gmFrN 3 (Or.inl (gm_kd ep4 (gmKtA (k := 55) (i := (σ 128 (y3).toNat)) gmKc_55 (by rw [gmLc_55]; exact g3))))) d_k_packShelves_70 (fun _ => ?_)
          obtain ⟨s16, es16, h⟩ := gmL_of h
          refine gm_iast (t := (r7).toNat) hG gmKc_130 gmLc_130 g14 rfl (hOs15 p4 3) es16 d_k_packShelves_73 ?_
          refine gm_ok (fun hOs16 => ?_)
          refine gm_aload_n hG 2 d_k_packShelves_74 rfl rfl ?_
          refine gm_getR (t := 131) hG gmF_0_28 gmKc_54 rfl d_k_packShelves_75 ?_
          refine gm_iload hG 0 d_k_packShelves_78 rfl ?_
          refine gm_iconst hG d_k_packShelves_80 ?_
          obtain ⟨s17, es17, h⟩ := gmL_of h
          refine gm_iast (t := (r7).toNat) hG gmKc_131 gmLc_131 g14 rfl (by decide) es17 d_k_packShelves_81 ?_
          refine gm_ok (fun hOs17 => ?_)
          refine gm_iload_n hG 4 d_k_packShelves_82 rfl rfl ?_
          refine gm_aload hG 1 d_k_packShelves_83 rfl ?_
          refine gm_getI hG gmF_0_83 (gm_kd ep4 (gmKtA (k := 55) (i := (σ 128 (y3).toNat)) gmKc_55 (by rw [gmLc_55]; exact g3))) (gmFrN 3 (Or.inl (gm_kd ep4 (gmKtA (k := 55) (i := (σ 128 (y3).toNat)) gmKc_55 (by rw [gmLc_55]; exact g3))))) d_k_packShelves_85 (fun _ => ?_)
          refine gm_iadd hG d_k_packShelves_88 ?_
          obtain ⟨x18, ex18, h⟩ := gmL_of h
          refine gm_top ex18 ?_
          refine gm_istore_n (lv' := [(2, .inl x18), (5, .inl r7), (4, .inr p4), (0, .inr 54), (1, .inl y1), (3, .inl y3)]) hG d_k_packShelves_89 rfl (by decide) rfl ?_
          refine gm_iinc (lv' := [(1, .inl (y1 + 1)), (2, .inl x18), (5, .inl r7), (4, .inr p4), (0, .inr 54), (3, .inl y3)]) hG 4 d_k_packShelves_90 rfl (by decide) rfl ?_
          refine gm_aload hG 3 d_k_packShelves_93 rfl ?_
          refine gm_aload_n hG 4 d_k_packShelves_95 rfl rfl ?_
          refine gm_getR (t := 129) hG gmF_0_22 gmKc_54 rfl d_k_packShelves_96 ?_
          refine gm_iload hG 2 d_k_packShelves_99 rfl ?_
          refine gm_iald (t := (r7).toNat) hG gmKc_129 gmLc_129 g14 rfl d_k_packShelves_101 (fun _ => ?_)
          refine gm_aload_n hG 4 d_k_packShelves_102 rfl rfl ?_
          refine gm_getR (t := 131) hG gmF_0_28 gmKc_54 rfl d_k_packShelves_103 ?_
          refine gm_iload hG 2 d_k_packShelves_106 rfl ?_
          refine gm_iald (t := (r7).toNat) hG gmKc_131 gmLc_131 g14 rfl d_k_packShelves_108 (fun _ => ?_)
          obtain ⟨s19, es19, h⟩ := gmBv_of h
          refine gm_callVv hG [.inl (s17 129 (r7).toNat), .inl (s17 131 (r7).toNat)] [] gmM_0_127 (Wp_placeAt (gm_kd ep4 (gmKtA (k := 55) (i := (σ 128 (y3).toNat)) gmKc_55 (by rw [gmLc_55]; exact g3))) (hOs17 129 (r7).toNat) (hOs17 131 (r7).toNat) es19) (gm_kd ep4 (gmKtA (k := 55) (i := (σ 128 (y3).toNat)) gmKc_55 (by rw [gmLc_55]; exact g3))) rfl (by decide) (Nat.le_of_ble_eq_true rfl) rfl d_k_packShelves_109 ?_
          refine gm_ok (fun hOs19 => ?_)
          refine gm_aload_n hG 4 d_k_packShelves_112 rfl rfl ?_
          refine gm_getR (t := 131) hG gmF_0_28 gmKc_54 rfl d_k_packShelves_113 ?_
          refine gm_iload hG 2 d_k_packShelves_116 rfl ?_
          refine gm_dup2 hG d_k_packShelves_118 ?_
          refine gm_iald (t := (r7).toNat) hG gmKc_131 gmLc_131 g14 rfl d_k_packShelves_119 (fun _ => ?_)
          refine gm_aload hG 3 d_k_packShelves_120 rfl ?_
          refine gm_getI hG gmF_0_80 (gm_kd ep4 (gmKtA (k := 55) (i := (σ 128 (y3).toNat)) gmKc_55 (by rw [gmLc_55]; exact g3))) (gmFrN 4 (Or.inl (gm_kd ep4 (gmKtA (k := 55) (i := (σ 128 (y3).toNat)) gmKc_55 (by rw [gmLc_55]; exact g3))))) d_k_packShelves_122 (fun _ => ?_)
          refine gm_iadd hG d_k_packShelves_125 ?_
          obtain ⟨g20, h⟩ := gmG_of h
          obtain ⟨s21, es21, h⟩ := gmL_of h
          refine gm_iast (t := (r7).toNat) hG gmKc_131 gmLc_131 g14 rfl g20 es21 d_k_packShelves_126 ?_
          refine gm_ok (fun hOs21 => ?_)
          refine gm_iinc (lv' := [(3, .inl (y3 + 1)), (1, .inl (y1 + 1)), (2, .inl x18), (5, .inl r7), (4, .inr p4), (0, .inr 54)]) hG 5 d_k_packShelves_127 rfl (by decide) rfl ?_
          refine gm_goto (tgt := 6) hG d_k_packShelves_130 (by decide) ?_
          obtain ⟨g22, h⟩ := gmG_of h
          obtain ⟨g23, h⟩ := gmG_of h
          obtain ⟨g24, h⟩ := gmG_of h
          refine gm_sub [5, 1, 2, 0] rfl ?_
          exact ih g22 g23 g24 h hk
      · replace h := gmI_neg c5 h
        refine gm_iload_n hG 2 d_k_packShelves_35 rfl rfl ?_
        refine gm_goto (tgt := 46) hG d_k_packShelves_36 (by decide) ?_
        refine gm_istore (lv' := [(5, .inl y1), (4, .inr p4), (0, .inr 54), (1, .inl y1), (2, .inl y2), (3, .inl y3)]) hG d_k_packShelves_46 (by decide) rfl ?_
        refine gm_iload hG 0 d_k_packShelves_48 rfl ?_
        refine gm_iload_n hG 3 d_k_packShelves_50 rfl rfl ?_
        refine gm_icmp_ne (tgt := 93) hG d_k_packShelves_51 (by decide) r1 r1 (fun c25 => ?_) (fun c25 => ?_)
        · replace h := gmI_neg c25 h
          refine gm_aload hG 1 d_k_packShelves_93 rfl ?_
          refine gm_aload_n hG 2 d_k_packShelves_95 rfl rfl ?_
          refine gm_getR (t := 129) hG gmF_0_22 gmKc_54 rfl d_k_packShelves_96 ?_
          refine gm_iload hG 0 d_k_packShelves_99 rfl ?_
          obtain ⟨g26, h⟩ := gmG_of h
          refine gm_iald (t := (y1).toNat) hG gmKc_129 gmLc_129 g26 rfl d_k_packShelves_101 (fun _ => ?_)
          refine gm_aload_n hG 2 d_k_packShelves_102 rfl rfl ?_
          refine gm_getR (t := 131) hG gmF_0_28 gmKc_54 rfl d_k_packShelves_103 ?_
          refine gm_iload hG 0 d_k_packShelves_106 rfl ?_
          refine gm_iald (t := (y1).toNat) hG gmKc_131 gmLc_131 g26 rfl d_k_packShelves_108 (fun _ => ?_)
          obtain ⟨s27, es27, h⟩ := gmBv_of h
          refine gm_callVv hG [.inl (σ 129 (y1).toNat), .inl (σ 131 (y1).toNat)] [] gmM_0_127 (Wp_placeAt (gm_kd ep4 (gmKtA (k := 55) (i := (σ 128 (y3).toNat)) gmKc_55 (by rw [gmLc_55]; exact g3))) (hO 129 (y1).toNat) (hO 131 (y1).toNat) es27) (gm_kd ep4 (gmKtA (k := 55) (i := (σ 128 (y3).toNat)) gmKc_55 (by rw [gmLc_55]; exact g3))) rfl (by decide) (Nat.le_of_ble_eq_true rfl) rfl d_k_packShelves_109 ?_
          refine gm_ok (fun hOs27 => ?_)
          refine gm_aload_n hG 2 d_k_packShelves_112 rfl rfl ?_
          refine gm_getR (t := 131) hG gmF_0_28 gmKc_54 rfl d_k_packShelves_113 ?_
          refine gm_iload hG 0 d_k_packShelves_116 rfl ?_
          refine gm_dup2 hG d_k_packShelves_118 ?_
          refine gm_iald (t := (y1).toNat) hG gmKc_131 gmLc_131 g26 rfl d_k_packShelves_119 (fun _ => ?_)
          refine gm_aload hG 1 d_k_packShelves_120 rfl ?_
          refine gm_getI hG gmF_0_80 (gm_kd ep4 (gmKtA (k := 55) (i := (σ 128 (y3).toNat)) gmKc_55 (by rw [gmLc_55]; exact g3))) (gmFrN 4 (Or.inl (gm_kd ep4 (gmKtA (k := 55) (i := (σ 128 (y3).toNat)) gmKc_55 (by rw [gmLc_55]; exact g3))))) d_k_packShelves_122 (fun _ => ?_)
          refine gm_iadd hG d_k_packShelves_125 ?_
          obtain ⟨g28, h⟩ := gmG_of h
          obtain ⟨s29, es29, h⟩ := gmL_of h
          refine gm_iast (t := (y1).toNat) hG gmKc_131 gmLc_131 g26 rfl g28 es29 d_k_packShelves_126 ?_
          refine gm_ok (fun hOs29 => ?_)
          refine gm_iinc (lv' := [(3, .inl (y3 + 1)), (5, .inl y1), (4, .inr p4), (0, .inr 54), (1, .inl y1), (2, .inl y2)]) hG 5 d_k_packShelves_127 rfl (by decide) rfl ?_
          refine gm_goto (tgt := 6) hG d_k_packShelves_130 (by decide) ?_
          obtain ⟨g30, h⟩ := gmG_of h
          refine gm_sub [3, 4, 5, 0] rfl ?_
          exact ih r1 r2 g30 h hk
        · replace h := gmI_pos c25 h
          refine gm_aload_n hG 2 d_k_packShelves_54 rfl rfl ?_
          refine gm_getR (t := 129) hG gmF_0_22 gmKc_54 rfl d_k_packShelves_55 ?_
          refine gm_iload hG 0 d_k_packShelves_58 rfl ?_
          refine gm_iload_n hG 4 d_k_packShelves_60 rfl rfl ?_
          obtain ⟨g31, h⟩ := gmG_of h
          obtain ⟨s32, es32, h⟩ := gmL_of h
          refine gm_iast (t := (y1).toNat) hG gmKc_129 gmLc_129 g31 rfl r2 es32 d_k_packShelves_61 ?_
          refine gm_ok (fun hOs32 => ?_)
          refine gm_aload_n hG 2 d_k_packShelves_62 rfl rfl ?_
          refine gm_getR (t := 130) hG gmF_0_25 gmKc_54 rfl d_k_packShelves_63 ?_
          refine gm_iload hG 0 d_k_packShelves_66 rfl ?_
          refine gm_aload hG 1 d_k_packShelves_68 rfl ?_
          refine gm_getI hG gmF_0_83 (gm_kd ep4 (gmKtA (k := 55) (i := (σ 128 (y3).toNat)) gmKc_55 (by rw [gmLc_55]; exact g3))) (gmFrN 3 (Or.inl (gm_kd ep4 (gmKtA (k := 55) (i := (σ 128 (y3).toNat)) gmKc_55 (by rw [gmLc_55]; exact g3))))) d_k_packShelves_70 (fun _ => ?_)
          obtain ⟨s33, es33, h⟩ := gmL_of h
          refine gm_iast (t := (y1).toNat) hG gmKc_130 gmLc_130 g31 rfl (hOs32 p4 3) es33 d_k_packShelves_73 ?_
          refine gm_ok (fun hOs33 => ?_)
          refine gm_aload_n hG 2 d_k_packShelves_74 rfl rfl ?_
          refine gm_getR (t := 131) hG gmF_0_28 gmKc_54 rfl d_k_packShelves_75 ?_
          refine gm_iload hG 0 d_k_packShelves_78 rfl ?_
          refine gm_iconst hG d_k_packShelves_80 ?_
          obtain ⟨s34, es34, h⟩ := gmL_of h
          refine gm_iast (t := (y1).toNat) hG gmKc_131 gmLc_131 g31 rfl (by decide) es34 d_k_packShelves_81 ?_
          refine gm_ok (fun hOs34 => ?_)
          refine gm_iload_n hG 4 d_k_packShelves_82 rfl rfl ?_
          refine gm_aload hG 1 d_k_packShelves_83 rfl ?_
          refine gm_getI hG gmF_0_83 (gm_kd ep4 (gmKtA (k := 55) (i := (σ 128 (y3).toNat)) gmKc_55 (by rw [gmLc_55]; exact g3))) (gmFrN 3 (Or.inl (gm_kd ep4 (gmKtA (k := 55) (i := (σ 128 (y3).toNat)) gmKc_55 (by rw [gmLc_55]; exact g3))))) d_k_packShelves_85 (fun _ => ?_)
          refine gm_iadd hG d_k_packShelves_88 ?_
          obtain ⟨x35, ex35, h⟩ := gmL_of h
          refine gm_top ex35 ?_
          refine gm_istore_n (lv' := [(2, .inl x35), (5, .inl y1), (4, .inr p4), (0, .inr 54), (1, .inl y1), (3, .inl y3)]) hG d_k_packShelves_89 rfl (by decide) rfl ?_
          refine gm_iinc (lv' := [(1, .inl (y1 + 1)), (2, .inl x35), (5, .inl y1), (4, .inr p4), (0, .inr 54), (3, .inl y3)]) hG 4 d_k_packShelves_90 rfl (by decide) rfl ?_
          refine gm_aload hG 3 d_k_packShelves_93 rfl ?_
          refine gm_aload_n hG 4 d_k_packShelves_95 rfl rfl ?_
          refine gm_getR (t := 129) hG gmF_0_22 gmKc_54 rfl d_k_packShelves_96 ?_
          refine gm_iload hG 2 d_k_packShelves_99 rfl ?_
          refine gm_iald (t := (y1).toNat) hG gmKc_129 gmLc_129 g31 rfl d_k_packShelves_101 (fun _ => ?_)
          refine gm_aload_n hG 4 d_k_packShelves_102 rfl rfl ?_
          refine gm_getR (t := 131) hG gmF_0_28 gmKc_54 rfl d_k_packShelves_103 ?_
          refine gm_iload hG 2 d_k_packShelves_106 rfl ?_
          refine gm_iald (t := (y1).toNat) hG gmKc_131 gmLc_131 g31 rfl d_k_packShelves_108 (fun _ => ?_)
          obtain ⟨s36, es36, h⟩ := gmBv_of h
          refine gm_callVv hG [.inl (s34 129 (y1).toNat), .inl (s34 131 (y1).toNat)] [] gmM_0_127 (Wp_placeAt (gm_kd ep4 (gmKtA (k := 55) (i := (σ 128 (y3).toNat)) gmKc_55 (by rw [gmLc_55]; exact g3))) (hOs34 129 (y1).toNat) (hOs34 131 (y1).toNat) es36) (gm_kd ep4 (gmKtA (k := 55) (i := (σ 128 (y3).toNat)) gmKc_55 (by rw [gmLc_55]; exact g3))) rfl (by decide) (Nat.le_of_ble_eq_true rfl) rfl d_k_packShelves_109 ?_
          refine gm_ok (fun hOs36 => ?_)
          refine gm_aload_n hG 4 d_k_packShelves_112 rfl rfl ?_
          refine gm_getR (t := 131) hG gmF_0_28 gmKc_54 rfl d_k_packShelves_113 ?_
          refine gm_iload hG 2 d_k_packShelves_116 rfl ?_
          refine gm_dup2 hG d_k_packShelves_118 ?_
          refine gm_iald (t := (y1).toNat) hG gmKc_131 gmLc_131 g31 rfl d_k_packShelves_119 (fun _ => ?_)
          refine gm_aload hG 3 d_k_packShelves_120 rfl ?_
          refine gm_getI hG gmF_0_80 (gm_kd ep4 (gmKtA (k := 55) (i := (σ 128 (y3).toNat)) gmKc_55 (by rw [gmLc_55]; exact g3))) (gmFrN 4 (Or.inl (gm_kd ep4 (gmKtA (k := 55) (i := (σ 128 (y3).toNat)) gmKc_55 (by rw [gmLc_55]; exact g3))))) d_k_packShelves_122 (fun _ => ?_)
          refine gm_iadd hG d_k_packShelves_125 ?_
          obtain ⟨g37, h⟩ := gmG_of h
          obtain ⟨s38, es38, h⟩ := gmL_of h
          refine gm_iast (t := (y1).toNat) hG gmKc_131 gmLc_131 g31 rfl g37 es38 d_k_packShelves_126 ?_
          refine gm_ok (fun hOs38 => ?_)
          refine gm_iinc (lv' := [(3, .inl (y3 + 1)), (1, .inl (y1 + 1)), (2, .inl x35), (5, .inl y1), (4, .inr p4), (0, .inr 54)]) hG 5 d_k_packShelves_127 rfl (by decide) rfl ?_
          refine gm_goto (tgt := 6) hG d_k_packShelves_130 (by decide) ?_
          obtain ⟨g39, h⟩ := gmG_of h
          obtain ⟨g40, h⟩ := gmG_of h
          obtain ⟨g41, h⟩ := gmG_of h
          refine gm_sub [5, 1, 2, 0] rfl ?_
          exact ih g39 g40 g41 h hk
set_option maxRecDepth 100000 in
set_option maxHeartbeats 4000000 in
theorem Wk_packShelves {σ : St} {rs : St} (h : Fk_packShelves σ = some rs) : Ctr gmY0_packShelves prog_2_method_12_code 6 none 1 23 [.inr 54] σ none rs := by
  refine Ctr.ofV (own := "GarmentMarker$Marker") (by decide +kernel) rfl (Nat.le_of_ble_eq_true rfl) (fun φ hG hF => ?_)
  unfold Fk_packShelves at h
  refine gm_lv (l2 := [(0, .inr 54)]) rfl ?_
  refine gm_ok (fun hO => ?_)
  refine gm_iconst hG d_k_packShelves_0 ?_
  refine gm_istore_n (lv' := [(1, .inl 0), (0, .inr 54)]) hG d_k_packShelves_1 rfl (by decide) rfl ?_
  refine gm_iconst hG d_k_packShelves_2 ?_
  refine gm_istore_n (lv' := [(2, .inl 0), (1, .inl 0), (0, .inr 54)]) hG d_k_packShelves_3 rfl (by decide) rfl ?_
  refine gm_iconst hG d_k_packShelves_4 ?_
  refine gm_istore_n (lv' := [(3, .inl 0), (2, .inl 0), (1, .inl 0), (0, .inr 54)]) hG d_k_packShelves_5 rfl (by decide) rfl ?_
  refine gm_sub [3, 2, 1, 0] rfl ?_
  refine Wk_packShelves_6 hG hF gmN (by decide) (by decide) (by decide) h (fun  {s42}  h => ?_)
  refine gm_ok (fun hOs42 => ?_)
  exact gm_vret' hF h d_k_packShelves_133
def Fk_lengthPacked_36 : Nat → Int → Int → St → (Int → St → Option (Int × St)) → Option (Int × St)
  | 0, _, _, _, _ => none
  | n + 1, y3, y4, σ, k => if (σ 54 1) ≤ y4 then k y3 σ else gmG (0 ≤ y4 ∧ y4 < 72) (gmL ((if y3 < (σ (gmTg 55 (y4).toNat) 7) then (σ (gmTg 55 (y4).toNat) 7) else y3) : Int) (fun x9 => gmG (gmR (y4 + 1)) (Fk_lengthPacked_36 n x9 (y4 + 1) σ k)))
def Fk_lengthPacked (a0 : Int) (a1 : Int) (σ : St) : Option (Int × St) := gmB (Fk_hasLayout σ) (fun r2 s1 => if r2 = 0 then some ((-1007), s1) else gmBv (Fk_sortParts a1 s1) (fun s4 => if a0 = 0 then gmBv (Fk_packShelves s4) (fun s13 => Fk_lengthPacked_36 gmN 0 0 s13 (fun x14 s15 => some (x14, s15))) else gmBv (Fk_packFirstFree s4) (fun s6 => Fk_lengthPacked_36 gmN 0 0 s6 (fun x11 s12 => some (x11, s12)))))
set_option maxRecDepth 100000 in
set_option maxHeartbeats 4000000 in
theorem Wk_lengthPacked_36 {φ : Fx} {rv : Int} {rs : St} (hG : Good φ "GarmentMarker$Marker" prog_2_method_10_code 5 3 75) (hF : FinI φ prog_2_method_10_code rv rs) : ∀ (n : Nat) {y3 : Int} {y4 : Int} {σ : St} {k : Int → St → Option (Int × St)}, gmR y3 → gmR y4 → Fk_lengthPacked_36 n y3 y4 σ k = some (rv, rs) → (∀ {z3 : Int} {τ : St}, gmR z3 → k z3 τ = some (rv, rs) → J φ τ 66 [(3, .inl z3)] []) → J φ σ 36 [(0, .inr 54), (3, .inl y3), (4, .inl y4)] [] := by
  intro n
  induction n with
  | zero =>
    intro _ _ _ _ _ _ h
    exact absurd h (by rw [Fk_lengthPacked_36.eq_1]; exact fun q => by cases q)
  | succ n ih =>
    intro y3 y4 σ k r3 r4 h hk
    rw [Fk_lengthPacked_36.eq_2] at h
    refine gm_ok (fun hO => ?_)
    refine gm_iload hG 2 d_k_lengthPacked_36 rfl ?_
    refine gm_aload_n hG 0 d_k_lengthPacked_38 rfl rfl ?_
    refine gm_getI hG gmF_0_44 gmKc_54 rfl d_k_lengthPacked_39 (fun _ => ?_)
    refine gm_icmp_ge (tgt := 66) hG d_k_lengthPacked_42 (by decide) r4 (hO 54 1) (fun c7 => ?_) (fun c7 => ?_)
    · replace h := gmI_pos c7 h
      refine gm_sub [1] rfl ?_
      exact hk r3 h
    · replace h := gmI_neg c7 h
      refine gm_iload_n hG 1 d_k_lengthPacked_45 rfl rfl ?_
      refine gm_aload_n hG 0 d_k_lengthPacked_46 rfl rfl ?_
      refine gm_getR (t := 55) hG gmF_0_11 gmKc_54 rfl d_k_lengthPacked_47 ?_
      refine gm_iload hG 2 d_k_lengthPacked_50 rfl ?_
      obtain ⟨g8, h⟩ := gmG_of h
      refine gm_aald (t := (y4).toNat) hG 5 gmKc_55 (by decide) (by decide) rfl gmLc_55 g8 rfl d_k_lengthPacked_52 ?_
      refine gm_getI hG gmF_0_111 (gmKtA (k := 55) (i := y4) gmKc_55 (by rw [gmLc_55]; exact g8)) (gmFrN 7 (Or.inl (gmKtA (k := 55) (i := y4) gmKc_55 (by rw [gmLc_55]; exact g8)))) d_k_lengthPacked_53 (fun _ => ?_)
      refine gm_max hG gm_mxM gm_mx1 gm_mx2 gm_mx3 (by decide) r3 (hO (gmTg 55 (y4).toNat) 7) d_k_lengthPacked_56 (fun _ => ?_)
      obtain ⟨x9, ex9, h⟩ := gmL_of h
      refine gm_top ex9 ?_
      refine gm_istore_n (lv' := [(3, .inl x9), (0, .inr 54), (4, .inl y4)]) hG d_k_lengthPacked_59 rfl (by decide) rfl ?_
      refine gm_iinc (lv' := [(4, .inl (y4 + 1)), (3, .inl x9), (0, .inr 54)]) hG 2 d_k_lengthPacked_60 rfl (by decide) rfl ?_
      refine gm_goto (tgt := 36) hG d_k_lengthPacked_63 (by decide) ?_
      obtain ⟨g10, h⟩ := gmG_of h
      refine gm_sub [2, 1, 0] rfl ?_
      exact ih (gm_kr ex9 (gmR_ite (fun _ => (hO (gmTg 55 (y4).toNat) 7)) (fun _ => r3))) g10 h hk
set_option maxRecDepth 100000 in
set_option maxHeartbeats 4000000 in
theorem Wk_lengthPacked {a0 : Int} {a1 : Int} {σ : St} {rv : Int} {rs : St} (ra0 : gmR a0) (ra1 : gmR a1) (h : Fk_lengthPacked a0 a1 σ = some (rv, rs)) : Ctr gmY0_lengthPacked prog_2_method_10_code 5 (some .int) 3 75 [.inr 54, .inl a0, .inl a1] σ (some rv) rs := by
  refine Ctr.ofI (own := "GarmentMarker$Marker") (by decide +kernel) rfl (Nat.le_of_ble_eq_true rfl) (fun φ hG hF => ?_)
  unfold Fk_lengthPacked at h
  refine gm_lv (l2 := [(0, .inr 54), (1, .inl a0), (2, .inl a1)]) rfl ?_
  refine gm_ok (fun hO => ?_)
  refine gm_aload_n hG 0 d_k_lengthPacked_0 rfl rfl ?_
  obtain ⟨r2, s1, es1, h⟩ := gmB_of h
  refine gm_callVi hG [] [] gmM_0_97 (Wk_hasLayout es1) gmKc_54 rfl (by decide) (Nat.le_of_ble_eq_true rfl) rfl d_k_lengthPacked_1 (fun qr2 => ?_)
  refine gm_ok (fun hOs1 => ?_)
  refine gm_if_ne (tgt := 11) hG d_k_lengthPacked_4 (by decide) qr2 (fun c3 => ?_) (fun c3 => ?_)
  · replace h := gmI_neg c3 h
    refine gm_aload_n hG 0 d_k_lengthPacked_11 rfl rfl ?_
    refine gm_iload_n hG 2 d_k_lengthPacked_12 rfl rfl ?_
    obtain ⟨s4, es4, h⟩ := gmBv_of h
    refine gm_callVv hG [.inl a1] [] gmM_0_101 (Wk_sortParts ra1 es4) gmKc_54 rfl (by decide) (Nat.le_of_ble_eq_true rfl) rfl d_k_lengthPacked_13 ?_
    refine gm_ok (fun hOs4 => ?_)
    refine gm_iload_n hG 1 d_k_lengthPacked_16 rfl rfl ?_
    refine gm_if_ne (tgt := 27) hG d_k_lengthPacked_17 (by decide) ra0 (fun c5 => ?_) (fun c5 => ?_)
    · replace h := gmI_neg c5 h
      refine gm_aload_n hG 0 d_k_lengthPacked_27 rfl rfl ?_
      obtain ⟨s6, es6, h⟩ := gmBv_of h
      refine gm_callVv hG [] [] gmM_0_108 (Wk_packFirstFree es6) gmKc_54 rfl (by decide) (Nat.le_of_ble_eq_true rfl) rfl d_k_lengthPacked_28 ?_
      refine gm_ok (fun hOs6 => ?_)
      refine gm_iconst hG d_k_lengthPacked_31 ?_
      refine gm_istore_n (lv' := [(3, .inl 0), (0, .inr 54), (1, .inl a0), (2, .inl a1)]) hG d_k_lengthPacked_32 rfl (by decide) rfl ?_
      refine gm_iconst hG d_k_lengthPacked_33 ?_
      refine gm_istore (lv' := [(4, .inl 0), (3, .inl 0), (0, .inr 54), (1, .inl a0), (2, .inl a1)]) hG d_k_lengthPacked_34 (by decide) rfl ?_
      refine gm_sub [2, 1, 0] rfl ?_
      refine Wk_lengthPacked_36 hG hF gmN (by decide) (by decide) h (fun {x11} {s12} qx11 h => ?_)
      refine gm_ok (fun hOs12 => ?_)
      refine gm_iload_n hG 0 d_k_lengthPacked_66 rfl rfl ?_
      exact gm_iret' hF h qx11 d_k_lengthPacked_67
    · replace h := gmI_pos c5 h
      refine gm_aload_n hG 0 d_k_lengthPacked_20 rfl rfl ?_
      obtain ⟨s13, es13, h⟩ := gmBv_of h
      refine gm_callVv hG [] [] gmM_0_105 (Wk_packShelves es13) gmKc_54 rfl (by decide) (Nat.le_of_ble_eq_true rfl) rfl d_k_lengthPacked_21 ?_
      refine gm_ok (fun hOs13 => ?_)
      refine gm_goto (tgt := 31) hG d_k_lengthPacked_24 (by decide) ?_
      refine gm_iconst hG d_k_lengthPacked_31 ?_
      refine gm_istore_n (lv' := [(3, .inl 0), (0, .inr 54), (1, .inl a0), (2, .inl a1)]) hG d_k_lengthPacked_32 rfl (by decide) rfl ?_
      refine gm_iconst hG d_k_lengthPacked_33 ?_
      refine gm_istore (lv' := [(4, .inl 0), (3, .inl 0), (0, .inr 54), (1, .inl a0), (2, .inl a1)]) hG d_k_lengthPacked_34 (by decide) rfl ?_
      refine gm_sub [2, 1, 0] rfl ?_
      refine Wk_lengthPacked_36 hG hF gmN (by decide) (by decide) h (fun {x14} {s15} qx14 h => ?_)
      refine gm_ok (fun hOs15 => ?_)
      refine gm_iload_n hG 0 d_k_lengthPacked_66 rfl rfl ?_
      exact gm_iret' hF h qx14 d_k_lengthPacked_67
  · replace h := gmI_pos c3 h
    refine gm_sipush hG d_k_lengthPacked_7 (by decide) ?_
    exact gm_iret' hF h (by decide) d_k_lengthPacked_10
def Fc_copyFrom (k0 : Nat) (k1 : Nat) (σ : St) : Option St := gmG ((σ k1 0) = 0 ∨ (σ k1 0) = 1) (gmL (gmUp σ k0 0 (σ k1 0)) (fun s2 => gmL (gmUp s2 k0 1 (s2 k1 1)) (fun s3 => gmL (gmUp s3 k0 2 (s3 k1 2)) (fun s4 => gmL (gmUp s4 k0 3 (s4 k1 3)) (fun s5 => gmL (gmUp s5 k0 4 (s5 k1 4)) (fun s6 => gmL (gmUp s6 k0 5 (s6 k1 5)) (fun s7 => some s7)))))))
set_option maxRecDepth 100000 in
set_option maxHeartbeats 4000000 in
theorem Wc_copyFrom {k0 : Nat} {k1 : Nat} {σ : St} {rs : St} (hk0 : gmKd k0 = 2) (hk1 : gmKd k1 = 2) (h : Fc_copyFrom k0 k1 σ = some rs) : Ctr gmY2_copyFrom prog_4_method_2_code 2 none 0 0 [.inr k0, .inr k1] σ none rs := by
  refine Ctr.ofV (own := "GarmentMarker$Piece") (by decide +kernel) rfl (Nat.le_of_ble_eq_true rfl) (fun φ hG hF => ?_)
  unfold Fc_copyFrom at h
  refine gm_lv (l2 := [(0, .inr k0), (1, .inr k1)]) rfl ?_
  refine gm_ok (fun hO => ?_)
  refine gm_aload_n hG 0 d_c_copyFrom_0 rfl rfl ?_
  refine gm_aload_n hG 1 d_c_copyFrom_1 rfl rfl ?_
  refine gm_getI hG gmF_2_9 hk1 (gmFrN 0 (Or.inr (Or.inl hk1))) d_c_copyFrom_2 (fun _ => ?_)
  obtain ⟨g1, h⟩ := gmG_of h
  obtain ⟨s2, es2, h⟩ := gmL_of h
  refine gm_putZ hG gmF_2_9 hk0 (gmFrN 0 (Or.inr (Or.inl hk0))) rfl (by decide +kernel) g1 es2 d_c_copyFrom_5 ?_
  refine gm_ok (fun hOs2 => ?_)
  refine gm_aload_n hG 0 d_c_copyFrom_8 rfl rfl ?_
  refine gm_aload_n hG 1 d_c_copyFrom_9 rfl rfl ?_
  refine gm_getI hG gmF_2_15 hk1 (gmFrN 1 (Or.inr (Or.inl hk1))) d_c_copyFrom_10 (fun _ => ?_)
  obtain ⟨s3, es3, h⟩ := gmL_of h
  refine gm_putI hG gmF_2_15 hk0 (gmFrN 1 (Or.inr (Or.inl hk0))) rfl (by decide +kernel) (hOs2 k1 1) es3 d_c_copyFrom_13 ?_
  refine gm_ok (fun hOs3 => ?_)
  refine gm_aload_n hG 0 d_c_copyFrom_16 rfl rfl ?_
  refine gm_aload_n hG 1 d_c_copyFrom_17 rfl rfl ?_
  refine gm_getI hG gmF_2_19 hk1 (gmFrN 2 (Or.inr (Or.inl hk1))) d_c_copyFrom_18 (fun _ => ?_)
  obtain ⟨s4, es4, h⟩ := gmL_of h
  refine gm_putI hG gmF_2_19 hk0 (gmFrN 2 (Or.inr (Or.inl hk0))) rfl (by decide +kernel) (hOs3 k1 2) es4 d_c_copyFrom_21 ?_
  refine gm_ok (fun hOs4 => ?_)
  refine gm_aload_n hG 0 d_c_copyFrom_24 rfl rfl ?_
  refine gm_aload_n hG 1 d_c_copyFrom_25 rfl rfl ?_
  refine gm_getI hG gmF_2_22 hk1 (gmFrN 3 (Or.inr (Or.inl hk1))) d_c_copyFrom_26 (fun _ => ?_)
  obtain ⟨s5, es5, h⟩ := gmL_of h
  refine gm_putI hG gmF_2_22 hk0 (gmFrN 3 (Or.inr (Or.inl hk0))) rfl (by decide +kernel) (hOs4 k1 3) es5 d_c_copyFrom_29 ?_
  refine gm_ok (fun hOs5 => ?_)
  refine gm_aload_n hG 0 d_c_copyFrom_32 rfl rfl ?_
  refine gm_aload_n hG 1 d_c_copyFrom_33 rfl rfl ?_
  refine gm_getI hG gmF_2_25 hk1 (gmFrN 4 (Or.inr (Or.inl hk1))) d_c_copyFrom_34 (fun _ => ?_)
  obtain ⟨s6, es6, h⟩ := gmL_of h
  refine gm_putI hG gmF_2_25 hk0 (gmFrN 4 (Or.inr (Or.inl hk0))) rfl (by decide +kernel) (hOs5 k1 4) es6 d_c_copyFrom_37 ?_
  refine gm_ok (fun hOs6 => ?_)
  refine gm_aload_n hG 0 d_c_copyFrom_40 rfl rfl ?_
  refine gm_aload_n hG 1 d_c_copyFrom_41 rfl rfl ?_
  refine gm_getI hG gmF_2_28 hk1 (gmFrN 5 (Or.inr (Or.inl hk1))) d_c_copyFrom_42 (fun _ => ?_)
  obtain ⟨s7, es7, h⟩ := gmL_of h
  refine gm_putI hG gmF_2_28 hk0 (gmFrN 5 (Or.inr (Or.inl hk0))) rfl (by decide +kernel) (hOs6 k1 5) es7 d_c_copyFrom_45 ?_
  refine gm_ok (fun hOs7 => ?_)
  exact gm_vret' hF h d_c_copyFrom_48
def Fs_copyFrom (k0 : Nat) (k1 : Nat) (σ : St) : Option St := gmL (gmUp σ k0 0 (σ k1 0)) (fun s1 => gmL (gmUp s1 k0 1 (s1 k1 1)) (fun s2 => gmL (gmUp s2 k0 2 (s2 k1 2)) (fun s3 => gmL (gmUp s3 k0 3 (s3 k1 3)) (fun s4 => gmL (gmUp s4 k0 4 (s4 k1 4)) (fun s5 => some s5)))))
set_option maxRecDepth 100000 in
set_option maxHeartbeats 4000000 in
theorem Ws_copyFrom {k0 : Nat} {k1 : Nat} {σ : St} {rs : St} (hk0 : gmKd k0 = 3) (hk1 : gmKd k1 = 3) (h : Fs_copyFrom k0 k1 σ = some rs) : Ctr gmY3_copyFrom prog_5_method_2_code 2 none 0 0 [.inr k0, .inr k1] σ none rs := by
  refine Ctr.ofV (own := "GarmentMarker$Seam") (by decide +kernel) rfl (Nat.le_of_ble_eq_true rfl) (fun φ hG hF => ?_)
  unfold Fs_copyFrom at h
  refine gm_lv (l2 := [(0, .inr k0), (1, .inr k1)]) rfl ?_
  refine gm_ok (fun hO => ?_)
  refine gm_aload_n hG 0 d_s_copyFrom_0 rfl rfl ?_
  refine gm_aload_n hG 1 d_s_copyFrom_1 rfl rfl ?_
  refine gm_getI hG gmF_3_7 hk1 (gmFrN 0 (Or.inr (Or.inr hk1))) d_s_copyFrom_2 (fun _ => ?_)
  obtain ⟨s1, es1, h⟩ := gmL_of h
  refine gm_putI hG gmF_3_7 hk0 (gmFrN 0 (Or.inr (Or.inr hk0))) rfl (by decide +kernel) (hO k1 0) es1 d_s_copyFrom_5 ?_
  refine gm_ok (fun hOs1 => ?_)
  refine gm_aload_n hG 0 d_s_copyFrom_8 rfl rfl ?_
  refine gm_aload_n hG 1 d_s_copyFrom_9 rfl rfl ?_
  refine gm_getI hG gmF_3_13 hk1 (gmFrN 1 (Or.inr (Or.inr hk1))) d_s_copyFrom_10 (fun _ => ?_)
  obtain ⟨s2, es2, h⟩ := gmL_of h
  refine gm_putI hG gmF_3_13 hk0 (gmFrN 1 (Or.inr (Or.inr hk0))) rfl (by decide +kernel) (hOs1 k1 1) es2 d_s_copyFrom_13 ?_
  refine gm_ok (fun hOs2 => ?_)
  refine gm_aload_n hG 0 d_s_copyFrom_16 rfl rfl ?_
  refine gm_aload_n hG 1 d_s_copyFrom_17 rfl rfl ?_
  refine gm_getI hG gmF_3_16 hk1 (gmFrN 2 (Or.inr (Or.inr hk1))) d_s_copyFrom_18 (fun _ => ?_)
  obtain ⟨s3, es3, h⟩ := gmL_of h
  refine gm_putI hG gmF_3_16 hk0 (gmFrN 2 (Or.inr (Or.inr hk0))) rfl (by decide +kernel) (hOs2 k1 2) es3 d_s_copyFrom_21 ?_
  refine gm_ok (fun hOs3 => ?_)
  refine gm_aload_n hG 0 d_s_copyFrom_24 rfl rfl ?_
  refine gm_aload_n hG 1 d_s_copyFrom_25 rfl rfl ?_
  refine gm_getI hG gmF_3_19 hk1 (gmFrN 3 (Or.inr (Or.inr hk1))) d_s_copyFrom_26 (fun _ => ?_)
  obtain ⟨s4, es4, h⟩ := gmL_of h
  refine gm_putI hG gmF_3_19 hk0 (gmFrN 3 (Or.inr (Or.inr hk0))) rfl (by decide +kernel) (hOs3 k1 3) es4 d_s_copyFrom_29 ?_
  refine gm_ok (fun hOs4 => ?_)
  refine gm_aload_n hG 0 d_s_copyFrom_32 rfl rfl ?_
  refine gm_aload_n hG 1 d_s_copyFrom_33 rfl rfl ?_
  refine gm_getI hG gmF_3_22 hk1 (gmFrN 4 (Or.inr (Or.inr hk1))) d_s_copyFrom_34 (fun _ => ?_)
  obtain ⟨s5, es5, h⟩ := gmL_of h
  refine gm_putI hG gmF_3_22 hk0 (gmFrN 4 (Or.inr (Or.inr hk0))) rfl (by decide +kernel) (hOs4 k1 4) es5 d_s_copyFrom_37 ?_
  refine gm_ok (fun hOs5 => ?_)
  exact gm_vret' hF h d_s_copyFrom_40
def Fs_uses (k0 : Nat) (a0 : Int) (σ : St) : Option (Int × St) := some ((if (σ k0 0) = a0 then 1 else (if (σ k0 2) = a0 then 1 else 0)), σ)
set_option maxRecDepth 100000 in
set_option maxHeartbeats 4000000 in
theorem Ws_uses {k0 : Nat} {a0 : Int} {σ : St} {rv : Int} {rs : St} (hk0 : gmKd k0 = 3) (ra0 : gmR a0) (h : Fs_uses k0 a0 σ = some (rv, rs)) : Ctr gmY3_uses prog_5_method_3_code 2 (some .boolean) 0 0 [.inr k0, .inl a0] σ (some rv) rs := by
  refine Ctr.ofZ (own := "GarmentMarker$Seam") (by decide +kernel) rfl (Nat.le_of_ble_eq_true rfl) (fun φ hG hF => ?_)
  unfold Fs_uses at h
  refine gm_lv (l2 := [(0, .inr k0), (1, .inl a0)]) rfl ?_
  refine gm_ok (fun hO => ?_)
  refine gm_aload_n hG 0 d_s_uses_0 rfl rfl ?_
  refine gm_getI hG gmF_3_7 hk0 (gmFrN 0 (Or.inr (Or.inr hk0))) d_s_uses_1 (fun _ => ?_)
  refine gm_iload_n hG 1 d_s_uses_4 rfl rfl ?_
  suffices hj : J φ σ 21 [(0, .inr k0), (1, .inl a0)] [.inl (if (σ k0 0) = a0 then 1 else (if (σ k0 2) = a0 then 1 else 0))] by
    refine gm_icmp_eq (tgt := 16) hG d_s_uses_5 (by decide) (hO k0 0) ra0 (fun c1 => ?_) (fun c1 => ?_)
    · replace hj := gmJ_pos c1 hj
      refine gm_iconst hG d_s_uses_16 ?_
      refine gm_goto (tgt := 21) hG d_s_uses_17 (by decide) ?_
      exact hj
    · replace hj := gmJ_neg c1 hj
      refine gm_aload_n hG 0 d_s_uses_8 rfl rfl ?_
      refine gm_getI hG gmF_3_16 hk0 (gmFrN 2 (Or.inr (Or.inr hk0))) d_s_uses_9 (fun _ => ?_)
      refine gm_iload_n hG 1 d_s_uses_12 rfl rfl ?_
      refine gm_icmp_ne (tgt := 20) hG d_s_uses_13 (by decide) (hO k0 2) ra0 (fun c2 => ?_) (fun c2 => ?_)
      · replace hj := gmJ_neg c2 hj
        refine gm_iconst hG d_s_uses_20 ?_
        exact hj
      · replace hj := gmJ_pos c2 hj
        refine gm_iconst hG d_s_uses_16 ?_
        refine gm_goto (tgt := 21) hG d_s_uses_17 (by decide) ?_
        exact hj
  exact gm_zret' hF h (gmZ_ite (fun c1 => (Or.inr rfl)) (fun c1 => (gmZ_ite (fun c2 => (Or.inr rfl)) (fun c2 => (Or.inl rfl))))) d_s_uses_21
def Ft_copyFrom_2 : Nat → Nat → Nat → Int → St → (St → Option St) → Option St
  | 0, _, _, _, _, _ => none
  | n + 1, y0, y1, y2, σ, k => if 6 ≤ y2 then k σ else gmG (0 ≤ y2 ∧ y2 < 6) (gmBv (Fc_copyFrom (gmTg (y0 + 1) (y2).toNat) (gmTg (y1 + 1) (y2).toNat) σ) (fun s3 => gmG (gmR (y2 + 1)) (Ft_copyFrom_2 n y0 y1 (y2 + 1) s3 k)))
def Ft_copyFrom_31 : Nat → Nat → Nat → Int → St → (St → Option St) → Option St
  | 0, _, _, _, _, _ => none
  | n + 1, y0, y1, y2, σ, k => if 6 ≤ y2 then k σ else gmG (0 ≤ y2 ∧ y2 < 6) (gmBv (Fs_copyFrom (gmTg (y0 + 8) (y2).toNat) (gmTg (y1 + 8) (y2).toNat) σ) (fun s8 => gmG (gmR (y2 + 1)) (Ft_copyFrom_31 n y0 y1 (y2 + 1) s8 k)))
def Ft_copyFrom (k0 : Nat) (k1 : Nat) (σ : St) : Option St := Ft_copyFrom_2 gmN k0 k1 0 σ (fun s5 => Ft_copyFrom_31 gmN k0 k1 0 s5 (fun s10 => gmL (gmUp s10 k0 2 (s10 k1 2)) (fun s11 => gmL (gmCp s11 (k1 + 15) (k0 + 15) 0 0 3) (fun s12 => gmL (gmCp s12 (k1 + 16) (k0 + 16) 0 0 3) (fun s13 => gmL (gmUp s13 k0 5 (s13 k1 5)) (fun s14 => gmG ((s14 k1 6) = 0 ∨ (s14 k1 6) = 1) (gmL (gmUp s14 k0 6 (s14 k1 6)) (fun s16 => gmG ((s16 k1 7) = 0 ∨ (s16 k1 7) = 1) (gmL (gmUp s16 k0 7 (s16 k1 7)) (fun s18 => gmL (gmUp s18 k0 8 (s18 k1 8)) (fun s19 => gmL (gmUp s19 k0 9 (s19 k1 9)) (fun s20 => some s20))))))))))))
set_option maxRecDepth 100000 in
set_option maxHeartbeats 4000000 in
theorem Wt_copyFrom_2 {φ : Fx} {rs : St} (hG : Good φ "GarmentMarker$State" prog_6_method_2_code 3 1 26) (hF : FinV φ prog_6_method_2_code rs) : ∀ (n : Nat) {y0 : Nat} {y1 : Nat} {y2 : Int} {σ : St} {k : St → Option St}, gmKd y0 = 4 → gmKd y1 = 4 → gmR y2 → Ft_copyFrom_2 n y0 y1 y2 σ k = some rs → (∀ {τ : St}, k τ = some rs → J φ τ 29 [(0, .inr y0), (1, .inr y1)] []) → J φ σ 2 [(0, .inr y0), (1, .inr y1), (2, .inl y2)] [] := by
  intro n
  induction n with
  | zero =>
    intro _ _ _ _ _ _ _ _ h
    exact absurd h (by rw [Ft_copyFrom_2.eq_1]; exact fun q => by cases q)
  | succ n ih =>
    intro y0 y1 y2 σ k r0 r1 r2 h hk
    rw [Ft_copyFrom_2.eq_2] at h
    refine gm_ok (fun hO => ?_)
    refine gm_iload_n hG 2 d_t_copyFrom_2 rfl rfl ?_
    refine gm_bipush hG d_t_copyFrom_3 (by decide) ?_
    refine gm_icmp_ge (tgt := 29) hG d_t_copyFrom_5 (by decide) r2 (by decide) (fun c1 => ?_) (fun c1 => ?_)
    · replace h := gmI_pos c1 h
      refine gm_sub [0, 1] rfl ?_
      exact hk h
    · replace h := gmI_neg c1 h
      refine gm_aload_n hG 0 d_t_copyFrom_8 rfl rfl ?_
      refine gm_getR (t := (y0 + 1)) hG gmF_4_11 r0 (gmS_R r0).1 d_t_copyFrom_9 ?_
      refine gm_iload_n hG 2 d_t_copyFrom_12 rfl rfl ?_
      obtain ⟨g2, h⟩ := gmG_of h
      refine gm_aald (t := (y2).toNat) hG 2 (gmS_K r0).1.1 (by decide) (by decide) rfl (gmS_K r0).1.2 g2 rfl d_t_copyFrom_13 ?_
      refine gm_aload_n hG 1 d_t_copyFrom_14 rfl rfl ?_
      refine gm_getR (t := (y1 + 1)) hG gmF_4_11 r1 (gmS_R r1).1 d_t_copyFrom_15 ?_
      refine gm_iload_n hG 2 d_t_copyFrom_18 rfl rfl ?_
      refine gm_aald (t := (y2).toNat) hG 2 (gmS_K r1).1.1 (by decide) (by decide) rfl (gmS_K r1).1.2 g2 rfl d_t_copyFrom_19 ?_
      obtain ⟨s3, es3, h⟩ := gmBv_of h
      refine gm_callVv hG [.inr (gmTg (y1 + 1) (y2).toNat)] [] gmM_4_42 (Wc_copyFrom (gmKtP (k := (y0 + 1)) (i := y2) (gmS_K r0).1.1 (by rw [(gmS_K r0).1.2]; exact g2)) (gmKtP (k := (y1 + 1)) (i := y2) (gmS_K r1).1.1 (by rw [(gmS_K r1).1.2]; exact g2)) es3) (gmKtP (k := (y0 + 1)) (i := y2) (gmS_K r0).1.1 (by rw [(gmS_K r0).1.2]; exact g2)) rfl (by decide) (Nat.le_of_ble_eq_true rfl) rfl d_t_copyFrom_20 ?_
      refine gm_ok (fun hOs3 => ?_)
      refine gm_iinc (lv' := [(2, .inl (y2 + 1)), (0, .inr y0), (1, .inr y1)]) hG 2 d_t_copyFrom_23 rfl (by decide) rfl ?_
      refine gm_goto (tgt := 2) hG d_t_copyFrom_26 (by decide) ?_
      obtain ⟨g4, h⟩ := gmG_of h
      refine gm_sub [1, 2, 0] rfl ?_
      exact ih r0 r1 g4 h hk
set_option maxRecDepth 100000 in
set_option maxHeartbeats 4000000 in
theorem Wt_copyFrom_31 {φ : Fx} {rs : St} (hG : Good φ "GarmentMarker$State" prog_6_method_2_code 3 1 26) (hF : FinV φ prog_6_method_2_code rs) : ∀ (n : Nat) {y0 : Nat} {y1 : Nat} {y2 : Int} {σ : St} {k : St → Option St}, gmKd y0 = 4 → gmKd y1 = 4 → gmR y2 → Ft_copyFrom_31 n y0 y1 y2 σ k = some rs → (∀ {τ : St}, k τ = some rs → J φ τ 58 [(0, .inr y0), (1, .inr y1)] []) → J φ σ 31 [(0, .inr y0), (1, .inr y1), (2, .inl y2)] [] := by
  intro n
  induction n with
  | zero =>
    intro _ _ _ _ _ _ _ _ h
    exact absurd h (by rw [Ft_copyFrom_31.eq_1]; exact fun q => by cases q)
  | succ n ih =>
    intro y0 y1 y2 σ k r0 r1 r2 h hk
    rw [Ft_copyFrom_31.eq_2] at h
    refine gm_ok (fun hO => ?_)
    refine gm_iload_n hG 2 d_t_copyFrom_31 rfl rfl ?_
    refine gm_bipush hG d_t_copyFrom_32 (by decide) ?_
    refine gm_icmp_ge (tgt := 58) hG d_t_copyFrom_34 (by decide) r2 (by decide) (fun c6 => ?_) (fun c6 => ?_)
    · replace h := gmI_pos c6 h
      refine gm_sub [0, 1] rfl ?_
      exact hk h
    · replace h := gmI_neg c6 h
      refine gm_aload_n hG 0 d_t_copyFrom_37 rfl rfl ?_
      refine gm_getR (t := (y0 + 8)) hG gmF_4_20 r0 (gmS_R r0).2.1 d_t_copyFrom_38 ?_
      refine gm_iload_n hG 2 d_t_copyFrom_41 rfl rfl ?_
      obtain ⟨g7, h⟩ := gmG_of h
      refine gm_aald (t := (y2).toNat) hG 3 (gmS_K r0).2.1.1 (by decide) (by decide) rfl (gmS_K r0).2.1.2 g7 rfl d_t_copyFrom_42 ?_
      refine gm_aload_n hG 1 d_t_copyFrom_43 rfl rfl ?_
      refine gm_getR (t := (y1 + 8)) hG gmF_4_20 r1 (gmS_R r1).2.1 d_t_copyFrom_44 ?_
      refine gm_iload_n hG 2 d_t_copyFrom_47 rfl rfl ?_
      refine gm_aald (t := (y2).toNat) hG 3 (gmS_K r1).2.1.1 (by decide) (by decide) rfl (gmS_K r1).2.1.2 g7 rfl d_t_copyFrom_48 ?_
      obtain ⟨s8, es8, h⟩ := gmBv_of h
      refine gm_callVv hG [.inr (gmTg (y1 + 8) (y2).toNat)] [] gmM_4_46 (Ws_copyFrom (gmKtS (k := (y0 + 8)) (i := y2) (gmS_K r0).2.1.1 (by rw [(gmS_K r0).2.1.2]; exact g7)) (gmKtS (k := (y1 + 8)) (i := y2) (gmS_K r1).2.1.1 (by rw [(gmS_K r1).2.1.2]; exact g7)) es8) (gmKtS (k := (y0 + 8)) (i := y2) (gmS_K r0).2.1.1 (by rw [(gmS_K r0).2.1.2]; exact g7)) rfl (by decide) (Nat.le_of_ble_eq_true rfl) rfl d_t_copyFrom_49 ?_
      refine gm_ok (fun hOs8 => ?_)
      refine gm_iinc (lv' := [(2, .inl (y2 + 1)), (0, .inr y0), (1, .inr y1)]) hG 2 d_t_copyFrom_52 rfl (by decide) rfl ?_
      refine gm_goto (tgt := 31) hG d_t_copyFrom_55 (by decide) ?_
      obtain ⟨g9, h⟩ := gmG_of h
      refine gm_sub [1, 2, 0] rfl ?_
      exact ih r0 r1 g9 h hk
set_option maxRecDepth 100000 in
set_option maxHeartbeats 4000000 in
theorem Wt_copyFrom {k0 : Nat} {k1 : Nat} {σ : St} {rs : St} (hk0 : gmKd k0 = 4) (hk1 : gmKd k1 = 4) (h : Ft_copyFrom k0 k1 σ = some rs) : Ctr gmY4_copyFrom prog_6_method_2_code 3 none 1 26 [.inr k0, .inr k1] σ none rs := by
  refine Ctr.ofV (own := "GarmentMarker$State") (by decide +kernel) rfl (Nat.le_of_ble_eq_true rfl) (fun φ hG hF => ?_)
  unfold Ft_copyFrom at h
  refine gm_lv (l2 := [(0, .inr k0), (1, .inr k1)]) rfl ?_
  refine gm_ok (fun hO => ?_)
  refine gm_iconst hG d_t_copyFrom_0 ?_
  refine gm_istore_n (lv' := [(2, .inl 0), (0, .inr k0), (1, .inr k1)]) hG d_t_copyFrom_1 rfl (by decide) rfl ?_
  refine gm_sub [1, 2, 0] rfl ?_
  refine Wt_copyFrom_2 hG hF gmN hk0 hk1 (by decide) h (fun  {s5}  h => ?_)
  refine gm_ok (fun hOs5 => ?_)
  refine gm_iconst hG d_t_copyFrom_29 ?_
  refine gm_istore_n (lv' := [(2, .inl 0), (0, .inr k0), (1, .inr k1)]) hG d_t_copyFrom_30 rfl (by decide) rfl ?_
  refine gm_sub [1, 2, 0] rfl ?_
  refine Wt_copyFrom_31 hG hF gmN hk0 hk1 (by decide) h (fun  {s10}  h => ?_)
  refine gm_ok (fun hOs10 => ?_)
  refine gm_aload_n hG 0 d_t_copyFrom_58 rfl rfl ?_
  refine gm_aload_n hG 1 d_t_copyFrom_59 rfl rfl ?_
  refine gm_getI hG gmF_4_49 hk1 (gmS_N hk1).1 d_t_copyFrom_60 (fun _ => ?_)
  obtain ⟨s11, es11, h⟩ := gmL_of h
  refine gm_putI hG gmF_4_49 hk0 (gmS_N hk0).1 rfl (by decide +kernel) (hOs10 k1 2) es11 d_t_copyFrom_63 ?_
  refine gm_ok (fun hOs11 => ?_)
  refine gm_aload_n hG 1 d_t_copyFrom_66 rfl rfl ?_
  refine gm_getR (t := (k1 + 15)) hG gmF_4_25 hk1 (gmS_R hk1).2.2.1 d_t_copyFrom_67 ?_
  refine gm_iconst hG d_t_copyFrom_70 ?_
  refine gm_aload_n hG 0 d_t_copyFrom_71 rfl rfl ?_
  refine gm_getR (t := (k0 + 15)) hG gmF_4_25 hk0 (gmS_R hk0).2.2.1 d_t_copyFrom_72 ?_
  refine gm_iconst hG d_t_copyFrom_75 ?_
  refine gm_iconst hG d_t_copyFrom_76 ?_
  obtain ⟨s12, es12, h⟩ := gmL_of h
  refine gm_copy hG gm_acS gm_ac1 gm_ac2 gm_ac3 (by decide) (gmS_K hk1).2.2.1.1 (gmS_K hk0).2.2.1.1 (by rw [(gmS_K hk1).2.2.1.2]; decide) (by rw [(gmS_K hk0).2.2.1.2]; decide) es12 d_t_copyFrom_77 ?_
  refine gm_ok (fun hOs12 => ?_)
  refine gm_aload_n hG 1 d_t_copyFrom_80 rfl rfl ?_
  refine gm_getR (t := (k1 + 16)) hG gmF_4_29 hk1 (gmS_R hk1).2.2.2 d_t_copyFrom_81 ?_
  refine gm_iconst hG d_t_copyFrom_84 ?_
  refine gm_aload_n hG 0 d_t_copyFrom_85 rfl rfl ?_
  refine gm_getR (t := (k0 + 16)) hG gmF_4_29 hk0 (gmS_R hk0).2.2.2 d_t_copyFrom_86 ?_
  refine gm_iconst hG d_t_copyFrom_89 ?_
  refine gm_iconst hG d_t_copyFrom_90 ?_
  obtain ⟨s13, es13, h⟩ := gmL_of h
  refine gm_copy hG gm_acS gm_ac1 gm_ac2 gm_ac3 (by decide) (gmS_K hk1).2.2.2.1 (gmS_K hk0).2.2.2.1 (by rw [(gmS_K hk1).2.2.2.2]; decide) (by rw [(gmS_K hk0).2.2.2.2]; decide) es13 d_t_copyFrom_91 ?_
  refine gm_ok (fun hOs13 => ?_)
  refine gm_aload_n hG 0 d_t_copyFrom_94 rfl rfl ?_
  refine gm_aload_n hG 1 d_t_copyFrom_95 rfl rfl ?_
  refine gm_getI hG gmF_4_32 hk1 (gmS_N hk1).2.1 d_t_copyFrom_96 (fun _ => ?_)
  obtain ⟨s14, es14, h⟩ := gmL_of h
  refine gm_putI hG gmF_4_32 hk0 (gmS_N hk0).2.1 rfl (by decide +kernel) (hOs13 k1 5) es14 d_t_copyFrom_99 ?_
  refine gm_ok (fun hOs14 => ?_)
  refine gm_aload_n hG 0 d_t_copyFrom_102 rfl rfl ?_
  refine gm_aload_n hG 1 d_t_copyFrom_103 rfl rfl ?_
  refine gm_getI hG gmF_4_58 hk1 (gmS_N hk1).2.2.1 d_t_copyFrom_104 (fun _ => ?_)
  obtain ⟨g15, h⟩ := gmG_of h
  obtain ⟨s16, es16, h⟩ := gmL_of h
  refine gm_putZ hG gmF_4_58 hk0 (gmS_N hk0).2.2.1 rfl (by decide +kernel) g15 es16 d_t_copyFrom_107 ?_
  refine gm_ok (fun hOs16 => ?_)
  refine gm_aload_n hG 0 d_t_copyFrom_110 rfl rfl ?_
  refine gm_aload_n hG 1 d_t_copyFrom_111 rfl rfl ?_
  refine gm_getI hG gmF_4_62 hk1 (gmS_N hk1).2.2.2.1 d_t_copyFrom_112 (fun _ => ?_)
  obtain ⟨g17, h⟩ := gmG_of h
  obtain ⟨s18, es18, h⟩ := gmL_of h
  refine gm_putZ hG gmF_4_62 hk0 (gmS_N hk0).2.2.2.1 rfl (by decide +kernel) g17 es18 d_t_copyFrom_115 ?_
  refine gm_ok (fun hOs18 => ?_)
  refine gm_aload_n hG 0 d_t_copyFrom_118 rfl rfl ?_
  refine gm_aload_n hG 1 d_t_copyFrom_119 rfl rfl ?_
  refine gm_getI hG gmF_4_36 hk1 (gmS_N hk1).2.2.2.2.1 d_t_copyFrom_120 (fun _ => ?_)
  obtain ⟨s19, es19, h⟩ := gmL_of h
  refine gm_putI hG gmF_4_36 hk0 (gmS_N hk0).2.2.2.2.1 rfl (by decide +kernel) (hOs18 k1 8) es19 d_t_copyFrom_123 ?_
  refine gm_ok (fun hOs19 => ?_)
  refine gm_aload_n hG 0 d_t_copyFrom_126 rfl rfl ?_
  refine gm_aload_n hG 1 d_t_copyFrom_127 rfl rfl ?_
  refine gm_getI hG gmF_4_39 hk1 (gmS_N hk1).2.2.2.2.2 d_t_copyFrom_128 (fun _ => ?_)
  obtain ⟨s20, es20, h⟩ := gmL_of h
  refine gm_putI hG gmF_4_39 hk0 (gmS_N hk0).2.2.2.2.2 rfl (by decide +kernel) (hOs19 k1 9) es20 d_t_copyFrom_131 ?_
  refine gm_ok (fun hOs20 => ?_)
  exact gm_vret' hF h d_t_copyFrom_134
def Ft_isDefined (a0 : Int) (σ : St) : Option (Int × St) := gmB (Fx_isWithin a0 0 5 σ) (fun r2 s1 => gmG ((¬ r2 = 0) → 0 ≤ a0 ∧ a0 < 6) (some ((if r2 = 0 then 0 else (if (s1 (gmTg 2 (a0).toNat) 0) = 0 then 0 else 1)), s1)))
set_option maxRecDepth 100000 in
set_option maxHeartbeats 4000000 in
theorem Wt_isDefined {a0 : Int} {σ : St} {rv : Int} {rs : St} (ra0 : gmR a0) (h : Ft_isDefined a0 σ = some (rv, rs)) : Ctr gmY4_isDefined prog_6_method_3_code 2 (some .boolean) 1 22 [.inr 1, .inl a0] σ (some rv) rs := by
  refine Ctr.ofZ (own := "GarmentMarker$State") (by decide +kernel) rfl (Nat.le_of_ble_eq_true rfl) (fun φ hG hF => ?_)
  unfold Ft_isDefined at h
  refine gm_lv (l2 := [(0, .inr 1), (1, .inl a0)]) rfl ?_
  refine gm_ok (fun hO => ?_)
  refine gm_iload_n hG 1 d_t_isDefined_0 rfl rfl ?_
  refine gm_iconst hG d_t_isDefined_1 ?_
  refine gm_iconst hG d_t_isDefined_2 ?_
  obtain ⟨r2, s1, es1, h⟩ := gmB_of h
  refine gm_callNi hG [.inl a0, .inl 0, .inl 5] [] gmM_4_65 (Wx_isWithin ra0 (by decide) (by decide) es1) rfl (by decide) (Nat.le_of_ble_eq_true rfl) rfl d_t_isDefined_3 (fun qr2 => ?_)
  refine gm_ok (fun hOs1 => ?_)
  obtain ⟨g4, h⟩ := gmG_of h
  suffices hj : J φ s1 26 [(0, .inr 1), (1, .inl a0)] [.inl (if r2 = 0 then 0 else (if (s1 (gmTg 2 (a0).toNat) 0) = 0 then 0 else 1))] by
    refine gm_if_eq (tgt := 25) hG d_t_isDefined_6 (by decide) qr2 (fun c3 => ?_) (fun c3 => ?_)
    · replace hj := gmJ_pos c3 hj
      refine gm_iconst hG d_t_isDefined_25 ?_
      exact hj
    · replace hj := gmJ_neg c3 hj
      refine gm_aload_n hG 0 d_t_isDefined_9 rfl rfl ?_
      refine gm_getR (t := 2) hG gmF_4_11 gmKc_1 rfl d_t_isDefined_10 ?_
      refine gm_iload_n hG 1 d_t_isDefined_13 rfl rfl ?_
      refine gm_aald (t := (a0).toNat) hG 2 gmKc_2 (by decide) (by decide) rfl gmLc_2 (g4 c3) rfl d_t_isDefined_14 ?_
      refine gm_getI hG gmF_4_69 (gmKtP (k := 2) (i := a0) gmKc_2 (by rw [gmLc_2]; exact (g4 c3))) (gmFrN 0 (Or.inr (Or.inl (gmKtP (k := 2) (i := a0) gmKc_2 (by rw [gmLc_2]; exact (g4 c3)))))) d_t_isDefined_15 (fun _ => ?_)
      refine gm_if_eq (tgt := 25) hG d_t_isDefined_18 (by decide) (hOs1 (gmTg 2 (a0).toNat) 0) (fun c5 => ?_) (fun c5 => ?_)
      · replace hj := gmJ_pos c5 hj
        refine gm_iconst hG d_t_isDefined_25 ?_
        exact hj
      · replace hj := gmJ_neg c5 hj
        refine gm_iconst hG d_t_isDefined_21 ?_
        refine gm_goto (tgt := 26) hG d_t_isDefined_22 (by decide) ?_
        exact hj
  exact gm_zret' hF h (gmZ_ite (fun c3 => (Or.inl rfl)) (fun c3 => (gmZ_ite (fun c5 => (Or.inl rfl)) (fun c5 => (Or.inr rfl))))) d_t_isDefined_26
def Ft_definedPieces_4 : Nat → Int → Int → St → (Int → St → Option (Int × St)) → Option (Int × St)
  | 0, _, _, _, _ => none
  | n + 1, y1, y2, σ, k => if 6 ≤ y2 then k y1 σ else gmG (0 ≤ y2 ∧ y2 < 6) (if (σ (gmTg 2 (y2).toNat) 0) = 0 then gmG (gmR (y2 + 1)) (Ft_definedPieces_4 n y1 (y2 + 1) σ k) else gmG (gmR (y1 + 1)) (gmG (gmR (y2 + 1)) (Ft_definedPieces_4 n (y1 + 1) (y2 + 1) σ k)))
def Ft_definedPieces (σ : St) : Option (Int × St) := Ft_definedPieces_4 gmN 0 0 σ (fun x7 s8 => some (x7, s8))
set_option maxRecDepth 100000 in
set_option maxHeartbeats 4000000 in
theorem Wt_definedPieces_4 {φ : Fx} {rv : Int} {rs : St} (hG : Good φ "GarmentMarker$State" prog_6_method_4_code 3 0 0) (hF : FinI φ prog_6_method_4_code rv rs) : ∀ (n : Nat) {y1 : Int} {y2 : Int} {σ : St} {k : Int → St → Option (Int × St)}, gmR y1 → gmR y2 → Ft_definedPieces_4 n y1 y2 σ k = some (rv, rs) → (∀ {z1 : Int} {τ : St}, gmR z1 → k z1 τ = some (rv, rs) → J φ τ 31 [(1, .inl z1)] []) → J φ σ 4 [(0, .inr 1), (1, .inl y1), (2, .inl y2)] [] := by
  intro n
  induction n with
  | zero =>
    intro _ _ _ _ _ _ h
    exact absurd h (by rw [Ft_definedPieces_4.eq_1]; exact fun q => by cases q)
  | succ n ih =>
    intro y1 y2 σ k r1 r2 h hk
    rw [Ft_definedPieces_4.eq_2] at h
    refine gm_ok (fun hO => ?_)
    refine gm_iload_n hG 2 d_t_definedPieces_4 rfl rfl ?_
    refine gm_bipush hG d_t_definedPieces_5 (by decide) ?_
    refine gm_icmp_ge (tgt := 31) hG d_t_definedPieces_7 (by decide) r2 (by decide) (fun c1 => ?_) (fun c1 => ?_)
    · replace h := gmI_pos c1 h
      refine gm_sub [1] rfl ?_
      exact hk r1 h
    · replace h := gmI_neg c1 h
      refine gm_aload_n hG 0 d_t_definedPieces_10 rfl rfl ?_
      refine gm_getR (t := 2) hG gmF_4_11 gmKc_1 rfl d_t_definedPieces_11 ?_
      refine gm_iload_n hG 2 d_t_definedPieces_14 rfl rfl ?_
      obtain ⟨g2, h⟩ := gmG_of h
      refine gm_aald (t := (y2).toNat) hG 2 gmKc_2 (by decide) (by decide) rfl gmLc_2 g2 rfl d_t_definedPieces_15 ?_
      refine gm_getI hG gmF_4_69 (gmKtP (k := 2) (i := y2) gmKc_2 (by rw [gmLc_2]; exact g2)) (gmFrN 0 (Or.inr (Or.inl (gmKtP (k := 2) (i := y2) gmKc_2 (by rw [gmLc_2]; exact g2))))) d_t_definedPieces_16 (fun _ => ?_)
      refine gm_if_eq (tgt := 25) hG d_t_definedPieces_19 (by decide) (hO (gmTg 2 (y2).toNat) 0) (fun c3 => ?_) (fun c3 => ?_)
      · replace h := gmI_pos c3 h
        refine gm_iinc (lv' := [(2, .inl (y2 + 1)), (0, .inr 1), (1, .inl y1)]) hG 2 d_t_definedPieces_25 rfl (by decide) rfl ?_
        refine gm_goto (tgt := 4) hG d_t_definedPieces_28 (by decide) ?_
        obtain ⟨g4, h⟩ := gmG_of h
        refine gm_sub [1, 2, 0] rfl ?_
        exact ih r1 g4 h hk
      · replace h := gmI_neg c3 h
        refine gm_iinc (lv' := [(1, .inl (y1 + 1)), (0, .inr 1), (2, .inl y2)]) hG 1 d_t_definedPieces_22 rfl (by decide) rfl ?_
        refine gm_iinc (lv' := [(2, .inl (y2 + 1)), (1, .inl (y1 + 1)), (0, .inr 1)]) hG 2 d_t_definedPieces_25 rfl (by decide) rfl ?_
        refine gm_goto (tgt := 4) hG d_t_definedPieces_28 (by decide) ?_
        obtain ⟨g5, h⟩ := gmG_of h
        obtain ⟨g6, h⟩ := gmG_of h
        refine gm_sub [2, 1, 0] rfl ?_
        exact ih g5 g6 h hk
set_option maxRecDepth 100000 in
set_option maxHeartbeats 4000000 in
theorem Wt_definedPieces {σ : St} {rv : Int} {rs : St} (h : Ft_definedPieces σ = some (rv, rs)) : Ctr gmY4_definedPieces prog_6_method_4_code 3 (some .int) 0 0 [.inr 1] σ (some rv) rs := by
  refine Ctr.ofI (own := "GarmentMarker$State") (by decide +kernel) rfl (Nat.le_of_ble_eq_true rfl) (fun φ hG hF => ?_)
  unfold Ft_definedPieces at h
  refine gm_lv (l2 := [(0, .inr 1)]) rfl ?_
  refine gm_ok (fun hO => ?_)
  refine gm_iconst hG d_t_definedPieces_0 ?_
  refine gm_istore_n (lv' := [(1, .inl 0), (0, .inr 1)]) hG d_t_definedPieces_1 rfl (by decide) rfl ?_
  refine gm_iconst hG d_t_definedPieces_2 ?_
  refine gm_istore_n (lv' := [(2, .inl 0), (1, .inl 0), (0, .inr 1)]) hG d_t_definedPieces_3 rfl (by decide) rfl ?_
  refine gm_sub [2, 1, 0] rfl ?_
  refine Wt_definedPieces_4 hG hF gmN (by decide) (by decide) h (fun {x7} {s8} qx7 h => ?_)
  refine gm_ok (fun hOs8 => ?_)
  refine gm_iload_n hG 0 d_t_definedPieces_31 rfl rfl ?_
  exact gm_iret' hF h qx7 d_t_definedPieces_32
def Ft_removeSeamsOf_4 : Nat → Int → Int → Int → St → (Int → St → Option St) → Option St
  | 0, _, _, _, _, _ => none
  | n + 1, y1, y2, y3, σ, k => if (σ 1 2) ≤ y3 then k y2 σ else gmG (0 ≤ y3 ∧ y3 < 6) (gmB (Fs_uses (gmTg 9 (y3).toNat) y1 σ) (fun r4 s3 => if r4 = 0 then gmG (0 ≤ y2 ∧ y2 < 6) (gmBv (Fs_copyFrom (gmTg 9 (y2).toNat) (gmTg 9 (y3).toNat) s3) (fun s8 => gmG (gmR (y2 + 1)) (gmG (gmR (y3 + 1)) (Ft_removeSeamsOf_4 n y1 (y2 + 1) (y3 + 1) s8 k)))) else gmG (gmR (y3 + 1)) (Ft_removeSeamsOf_4 n y1 y2 (y3 + 1) s3 k)))
def Ft_removeSeamsOf (a0 : Int) (σ : St) : Option St := Ft_removeSeamsOf_4 gmN a0 0 0 σ (fun x11 s12 => gmL (gmUp s12 1 2 x11) (fun s13 => some s13))
set_option maxRecDepth 100000 in
set_option maxHeartbeats 4000000 in
theorem Wt_removeSeamsOf_4 {φ : Fx} {rs : St} (hG : Good φ "GarmentMarker$State" prog_6_method_5_code 4 1 21) (hF : FinV φ prog_6_method_5_code rs) : ∀ (n : Nat) {y1 : Int} {y2 : Int} {y3 : Int} {σ : St} {k : Int → St → Option St}, gmR y1 → gmR y2 → gmR y3 → Ft_removeSeamsOf_4 n y1 y2 y3 σ k = some rs → (∀ {z2 : Int} {τ : St}, gmR z2 → k z2 τ = some rs → J φ τ 49 [(0, .inr 1), (2, .inl z2)] []) → J φ σ 4 [(0, .inr 1), (1, .inl y1), (2, .inl y2), (3, .inl y3)] [] := by
  intro n
  induction n with
  | zero =>
    intro _ _ _ _ _ _ _ _ h
    exact absurd h (by rw [Ft_removeSeamsOf_4.eq_1]; exact fun q => by cases q)
  | succ n ih =>
    intro y1 y2 y3 σ k r1 r2 r3 h hk
    rw [Ft_removeSeamsOf_4.eq_2] at h
    refine gm_ok (fun hO => ?_)
    refine gm_iload_n hG 3 d_t_removeSeamsOf_4 rfl rfl ?_
    refine gm_aload_n hG 0 d_t_removeSeamsOf_5 rfl rfl ?_
    refine gm_getI hG gmF_4_49 gmKc_1 rfl d_t_removeSeamsOf_6 (fun _ => ?_)
    refine gm_icmp_ge (tgt := 49) hG d_t_removeSeamsOf_9 (by decide) r3 (hO 1 2) (fun c1 => ?_) (fun c1 => ?_)
    · replace h := gmI_pos c1 h
      refine gm_sub [0, 2] rfl ?_
      exact hk r2 h
    · replace h := gmI_neg c1 h
      refine gm_aload_n hG 0 d_t_removeSeamsOf_12 rfl rfl ?_
      refine gm_getR (t := 9) hG gmF_4_20 gmKc_1 rfl d_t_removeSeamsOf_13 ?_
      refine gm_iload_n hG 3 d_t_removeSeamsOf_16 rfl rfl ?_
      obtain ⟨g2, h⟩ := gmG_of h
      refine gm_aald (t := (y3).toNat) hG 3 gmKc_9 (by decide) (by decide) rfl gmLc_9 g2 rfl d_t_removeSeamsOf_17 ?_
      refine gm_iload_n hG 1 d_t_removeSeamsOf_18 rfl rfl ?_
      obtain ⟨r4, s3, es3, h⟩ := gmB_of h
      refine gm_callVi hG [.inl y1] [] gmM_4_72 (Ws_uses (gmKtS (k := 9) (i := y3) gmKc_9 (by rw [gmLc_9]; exact g2)) r1 es3) (gmKtS (k := 9) (i := y3) gmKc_9 (by rw [gmLc_9]; exact g2)) rfl (by decide) (Nat.le_of_ble_eq_true rfl) rfl d_t_removeSeamsOf_19 (fun qr4 => ?_)
      refine gm_ok (fun hOs3 => ?_)
      refine gm_if_ne (tgt := 43) hG d_t_removeSeamsOf_22 (by decide) qr4 (fun c5 => ?_) (fun c5 => ?_)
      · replace h := gmI_neg c5 h
        refine gm_iinc (lv' := [(3, .inl (y3 + 1)), (0, .inr 1), (1, .inl y1), (2, .inl y2)]) hG 3 d_t_removeSeamsOf_43 rfl (by decide) rfl ?_
        refine gm_goto (tgt := 4) hG d_t_removeSeamsOf_46 (by decide) ?_
        obtain ⟨g6, h⟩ := gmG_of h
        refine gm_sub [1, 2, 3, 0] rfl ?_
        exact ih r1 r2 g6 h hk
      · replace h := gmI_pos c5 h
        refine gm_aload_n hG 0 d_t_removeSeamsOf_25 rfl rfl ?_
        refine gm_getR (t := 9) hG gmF_4_20 gmKc_1 rfl d_t_removeSeamsOf_26 ?_
        refine gm_iload_n hG 2 d_t_removeSeamsOf_29 rfl rfl ?_
        obtain ⟨g7, h⟩ := gmG_of h
        refine gm_aald (t := (y2).toNat) hG 3 gmKc_9 (by decide) (by decide) rfl gmLc_9 g7 rfl d_t_removeSeamsOf_30 ?_
        refine gm_aload_n hG 0 d_t_removeSeamsOf_31 rfl rfl ?_
        refine gm_getR (t := 9) hG gmF_4_20 gmKc_1 rfl d_t_removeSeamsOf_32 ?_
        refine gm_iload_n hG 3 d_t_removeSeamsOf_35 rfl rfl ?_
        refine gm_aald (t := (y3).toNat) hG 3 gmKc_9 (by decide) (by decide) rfl gmLc_9 g2 rfl d_t_removeSeamsOf_36 ?_
        obtain ⟨s8, es8, h⟩ := gmBv_of h
        refine gm_callVv hG [.inr (gmTg 9 (y3).toNat)] [] gmM_4_46 (Ws_copyFrom (gmKtS (k := 9) (i := y2) gmKc_9 (by rw [gmLc_9]; exact g7)) (gmKtS (k := 9) (i := y3) gmKc_9 (by rw [gmLc_9]; exact g2)) es8) (gmKtS (k := 9) (i := y2) gmKc_9 (by rw [gmLc_9]; exact g7)) rfl (by decide) (Nat.le_of_ble_eq_true rfl) rfl d_t_removeSeamsOf_37 ?_
        refine gm_ok (fun hOs8 => ?_)
        refine gm_iinc (lv' := [(2, .inl (y2 + 1)), (0, .inr 1), (1, .inl y1), (3, .inl y3)]) hG 2 d_t_removeSeamsOf_40 rfl (by decide) rfl ?_
        refine gm_iinc (lv' := [(3, .inl (y3 + 1)), (2, .inl (y2 + 1)), (0, .inr 1), (1, .inl y1)]) hG 3 d_t_removeSeamsOf_43 rfl (by decide) rfl ?_
        refine gm_goto (tgt := 4) hG d_t_removeSeamsOf_46 (by decide) ?_
        obtain ⟨g9, h⟩ := gmG_of h
        obtain ⟨g10, h⟩ := gmG_of h
        refine gm_sub [2, 3, 1, 0] rfl ?_
        exact ih r1 g9 g10 h hk
set_option maxRecDepth 100000 in
set_option maxHeartbeats 4000000 in
theorem Wt_removeSeamsOf {a0 : Int} {σ : St} {rs : St} (ra0 : gmR a0) (h : Ft_removeSeamsOf a0 σ = some rs) : Ctr gmY4_removeSeamsOf prog_6_method_5_code 4 none 1 21 [.inr 1, .inl a0] σ none rs := by
  refine Ctr.ofV (own := "GarmentMarker$State") (by decide +kernel) rfl (Nat.le_of_ble_eq_true rfl) (fun φ hG hF => ?_)
  unfold Ft_removeSeamsOf at h
  refine gm_lv (l2 := [(0, .inr 1), (1, .inl a0)]) rfl ?_
  refine gm_ok (fun hO => ?_)
  refine gm_iconst hG d_t_removeSeamsOf_0 ?_
  refine gm_istore_n (lv' := [(2, .inl 0), (0, .inr 1), (1, .inl a0)]) hG d_t_removeSeamsOf_1 rfl (by decide) rfl ?_
  refine gm_iconst hG d_t_removeSeamsOf_2 ?_
  refine gm_istore_n (lv' := [(3, .inl 0), (2, .inl 0), (0, .inr 1), (1, .inl a0)]) hG d_t_removeSeamsOf_3 rfl (by decide) rfl ?_
  refine gm_sub [2, 3, 1, 0] rfl ?_
  refine Wt_removeSeamsOf_4 hG hF gmN ra0 (by decide) (by decide) h (fun {x11} {s12} qx11 h => ?_)
  refine gm_ok (fun hOs12 => ?_)
  refine gm_aload_n hG 0 d_t_removeSeamsOf_49 rfl rfl ?_
  refine gm_iload_n hG 1 d_t_removeSeamsOf_50 rfl rfl ?_
  obtain ⟨s13, es13, h⟩ := gmL_of h
  refine gm_putI hG gmF_4_49 gmKc_1 rfl rfl (by decide +kernel) qx11 es13 d_t_removeSeamsOf_51 ?_
  refine gm_ok (fun hOs13 => ?_)
  exact gm_vret' hF h d_t_removeSeamsOf_54
def Ft_differenceOf (k1 : Nat) (a1 : Int) (σ : St) : Option (Int × St) := gmG (0 ≤ (σ k1 0) ∧ (σ k1 0) < 6) (gmB (Fc_sideIn (gmTg 2 ((σ k1 0)).toNat) (σ k1 1) a1 σ) (fun r3 s2 => gmG (0 ≤ (s2 k1 2) ∧ (s2 k1 2) < 6) (gmB (Fc_sideIn (gmTg 2 ((s2 k1 2)).toNat) (s2 k1 3) a1 s2) (fun r6 s5 => gmG (gmR ((r3 - r6) - (s5 k1 4))) (some (((r3 - r6) - (s5 k1 4)), s5))))))
set_option maxRecDepth 100000 in
set_option maxHeartbeats 4000000 in
theorem Wt_differenceOf {k1 : Nat} {a1 : Int} {σ : St} {rv : Int} {rs : St} (hk1 : gmKd k1 = 3) (ra1 : gmR a1) (h : Ft_differenceOf k1 a1 σ = some (rv, rs)) : Ctr gmY4_differenceOf prog_6_method_6_code 5 (some .int) 1 22 [.inr 1, .inr k1, .inl a1] σ (some rv) rs := by
  refine Ctr.ofI (own := "GarmentMarker$State") (by decide +kernel) rfl (Nat.le_of_ble_eq_true rfl) (fun φ hG hF => ?_)
  unfold Ft_differenceOf at h
  refine gm_lv (l2 := [(0, .inr 1), (1, .inr k1), (2, .inl a1)]) rfl ?_
  refine gm_ok (fun hO => ?_)
  refine gm_aload_n hG 0 d_t_differenceOf_0 rfl rfl ?_
  refine gm_getR (t := 2) hG gmF_4_11 gmKc_1 rfl d_t_differenceOf_1 ?_
  refine gm_aload_n hG 1 d_t_differenceOf_4 rfl rfl ?_
  refine gm_getI hG gmF_4_76 hk1 (gmFrN 0 (Or.inr (Or.inr hk1))) d_t_differenceOf_5 (fun _ => ?_)
  obtain ⟨g1, h⟩ := gmG_of h
  refine gm_aald (t := ((σ k1 0)).toNat) hG 2 gmKc_2 (by decide) (by decide) rfl gmLc_2 g1 rfl d_t_differenceOf_8 ?_
  refine gm_aload_n hG 1 d_t_differenceOf_9 rfl rfl ?_
  refine gm_getI hG gmF_4_79 hk1 (gmFrN 1 (Or.inr (Or.inr hk1))) d_t_differenceOf_10 (fun _ => ?_)
  refine gm_iload_n hG 2 d_t_differenceOf_13 rfl rfl ?_
  obtain ⟨r3, s2, es2, h⟩ := gmB_of h
  refine gm_callVi hG [.inl (σ k1 1), .inl a1] [] gmM_4_82 (Wc_sideIn (gmKtP (k := 2) (i := (σ k1 0)) gmKc_2 (by rw [gmLc_2]; exact g1)) (hO k1 1) ra1 es2) (gmKtP (k := 2) (i := (σ k1 0)) gmKc_2 (by rw [gmLc_2]; exact g1)) rfl (by decide) (Nat.le_of_ble_eq_true rfl) rfl d_t_differenceOf_14 (fun qr3 => ?_)
  refine gm_ok (fun hOs2 => ?_)
  refine gm_istore_n (lv' := [(3, .inl r3), (0, .inr 1), (1, .inr k1), (2, .inl a1)]) hG d_t_differenceOf_17 rfl (by decide) rfl ?_
  refine gm_aload_n hG 1 d_t_differenceOf_18 rfl rfl ?_
  refine gm_getR (t := 2) hG gmF_4_11 gmKc_1 rfl d_t_differenceOf_19 ?_
  refine gm_aload_n hG 2 d_t_differenceOf_22 rfl rfl ?_
  refine gm_getI hG gmF_4_86 hk1 (gmFrN 2 (Or.inr (Or.inr hk1))) d_t_differenceOf_23 (fun _ => ?_)
  obtain ⟨g4, h⟩ := gmG_of h
  refine gm_aald (t := ((s2 k1 2)).toNat) hG 2 gmKc_2 (by decide) (by decide) rfl gmLc_2 g4 rfl d_t_differenceOf_26 ?_
  refine gm_aload_n hG 2 d_t_differenceOf_27 rfl rfl ?_
  refine gm_getI hG gmF_4_89 hk1 (gmFrN 3 (Or.inr (Or.inr hk1))) d_t_differenceOf_28 (fun _ => ?_)
  refine gm_iload_n hG 3 d_t_differenceOf_31 rfl rfl ?_
  obtain ⟨r6, s5, es5, h⟩ := gmB_of h
  refine gm_callVi hG [.inl (s2 k1 3), .inl a1] [] gmM_4_82 (Wc_sideIn (gmKtP (k := 2) (i := (s2 k1 2)) gmKc_2 (by rw [gmLc_2]; exact g4)) (hOs2 k1 3) ra1 es5) (gmKtP (k := 2) (i := (s2 k1 2)) gmKc_2 (by rw [gmLc_2]; exact g4)) rfl (by decide) (Nat.le_of_ble_eq_true rfl) rfl d_t_differenceOf_32 (fun qr6 => ?_)
  refine gm_ok (fun hOs5 => ?_)
  refine gm_istore (lv' := [(4, .inl r6), (3, .inl r3), (0, .inr 1), (1, .inr k1), (2, .inl a1)]) hG d_t_differenceOf_35 (by decide) rfl ?_
  refine gm_iload_n hG 1 d_t_differenceOf_37 rfl rfl ?_
  refine gm_iload hG 0 d_t_differenceOf_38 rfl ?_
  refine gm_isub hG d_t_differenceOf_40 ?_
  refine gm_aload_n hG 3 d_t_differenceOf_41 rfl rfl ?_
  refine gm_getI hG gmF_4_92 hk1 (gmFrN 4 (Or.inr (Or.inr hk1))) d_t_differenceOf_42 (fun _ => ?_)
  refine gm_isub hG d_t_differenceOf_45 ?_
  obtain ⟨g7, h⟩ := gmG_of h
  exact gm_iret' hF h g7 d_t_differenceOf_46
def Ft_matchesInAllSizes_2 : Nat → Nat → Int → St → (St → Option (Int × St)) → Option (Int × St)
  | 0, _, _, _, _ => none
  | n + 1, y1, y2, σ, k => if 3 ≤ y2 then k σ else gmB (Ft_differenceOf y1 y2 σ) (fun r3 s2 => if r3 = 0 then gmG (gmR (y2 + 1)) (Ft_matchesInAllSizes_2 n y1 (y2 + 1) s2 k) else some (0, s2))
def Ft_matchesInAllSizes (k1 : Nat) (σ : St) : Option (Int × St) := Ft_matchesInAllSizes_2 gmN k1 0 σ (fun s6 => some (1, s6))
set_option maxRecDepth 100000 in
set_option maxHeartbeats 4000000 in
theorem Wt_matchesInAllSizes_2 {φ : Fx} {rv : Int} {rs : St} (hG : Good φ "GarmentMarker$State" prog_6_method_7_code 3 2 46) (hF : FinZ φ prog_6_method_7_code rv rs) : ∀ (n : Nat) {y1 : Nat} {y2 : Int} {σ : St} {k : St → Option (Int × St)}, gmKd y1 = 3 → gmR y2 → Ft_matchesInAllSizes_2 n y1 y2 σ k = some (rv, rs) → (∀ {τ : St}, k τ = some (rv, rs) → J φ τ 24 [] []) → J φ σ 2 [(0, .inr 1), (1, .inr y1), (2, .inl y2)] [] := by
  intro n
  induction n with
  | zero =>
    intro _ _ _ _ _ _ h
    exact absurd h (by rw [Ft_matchesInAllSizes_2.eq_1]; exact fun q => by cases q)
  | succ n ih =>
    intro y1 y2 σ k r1 r2 h hk
    rw [Ft_matchesInAllSizes_2.eq_2] at h
    refine gm_ok (fun hO => ?_)
    refine gm_iload_n hG 2 d_t_matchesInAllSizes_2 rfl rfl ?_
    refine gm_iconst hG d_t_matchesInAllSizes_3 ?_
    refine gm_icmp_ge (tgt := 24) hG d_t_matchesInAllSizes_4 (by decide) r2 (by decide) (fun c1 => ?_) (fun c1 => ?_)
    · replace h := gmI_pos c1 h
      refine gm_sub [] rfl ?_
      exact hk h
    · replace h := gmI_neg c1 h
      refine gm_aload_n hG 0 d_t_matchesInAllSizes_7 rfl rfl ?_
      refine gm_aload_n hG 1 d_t_matchesInAllSizes_8 rfl rfl ?_
      refine gm_iload_n hG 2 d_t_matchesInAllSizes_9 rfl rfl ?_
      obtain ⟨r3, s2, es2, h⟩ := gmB_of h
      refine gm_callVi hG [.inr y1, .inl y2] [] gmM_4_95 (Wt_differenceOf r1 r2 es2) gmKc_1 rfl (by decide) (Nat.le_of_ble_eq_true rfl) rfl d_t_matchesInAllSizes_10 (fun qr3 => ?_)
      refine gm_ok (fun hOs2 => ?_)
      refine gm_if_eq (tgt := 18) hG d_t_matchesInAllSizes_13 (by decide) qr3 (fun c4 => ?_) (fun c4 => ?_)
      · replace h := gmI_pos c4 h
        refine gm_iinc (lv' := [(2, .inl (y2 + 1)), (0, .inr 1), (1, .inr y1)]) hG 2 d_t_matchesInAllSizes_18 rfl (by decide) rfl ?_
        refine gm_goto (tgt := 2) hG d_t_matchesInAllSizes_21 (by decide) ?_
        obtain ⟨g5, h⟩ := gmG_of h
        refine gm_sub [1, 2, 0] rfl ?_
        exact ih r1 g5 h hk
      · replace h := gmI_neg c4 h
        refine gm_iconst hG d_t_matchesInAllSizes_16 ?_
        exact gm_zret' hF h (Or.inl rfl) d_t_matchesInAllSizes_17
set_option maxRecDepth 100000 in
set_option maxHeartbeats 4000000 in
theorem Wt_matchesInAllSizes {k1 : Nat} {σ : St} {rv : Int} {rs : St} (hk1 : gmKd k1 = 3) (h : Ft_matchesInAllSizes k1 σ = some (rv, rs)) : Ctr gmY4_matchesInAllSizes prog_6_method_7_code 3 (some .boolean) 2 46 [.inr 1, .inr k1] σ (some rv) rs := by
  refine Ctr.ofZ (own := "GarmentMarker$State") (by decide +kernel) rfl (Nat.le_of_ble_eq_true rfl) (fun φ hG hF => ?_)
  unfold Ft_matchesInAllSizes at h
  refine gm_lv (l2 := [(0, .inr 1), (1, .inr k1)]) rfl ?_
  refine gm_ok (fun hO => ?_)
  refine gm_iconst hG d_t_matchesInAllSizes_0 ?_
  refine gm_istore_n (lv' := [(2, .inl 0), (0, .inr 1), (1, .inr k1)]) hG d_t_matchesInAllSizes_1 rfl (by decide) rfl ?_
  refine gm_sub [1, 2, 0] rfl ?_
  refine Wt_matchesInAllSizes_2 hG hF gmN hk1 (by decide) h (fun  {s6}  h => ?_)
  refine gm_ok (fun hOs6 => ?_)
  refine gm_iconst hG d_t_matchesInAllSizes_24 ?_
  exact gm_zret' hF h (Or.inr rfl) d_t_matchesInAllSizes_25
def Ft_pliesFor_4 : Nat → Nat → Int → Int → St → (Int → St → Option (Int × St)) → Option (Int × St)
  | 0, _, _, _, _, _ => none
  | n + 1, y1, y2, y3, σ, k => if 3 ≤ y3 then k y2 σ else gmG (0 ≤ y3 ∧ y3 < (gmLn y1 : Int)) (gmL ((σ y1 (y3).toNat) : Int) (fun x3 => gmG (0 ≤ y3 ∧ y3 < 3) (if (σ 17 (y3).toNat) ≤ 0 then gmG (gmR (y3 + 1)) (Ft_pliesFor_4 n y1 y2 (y3 + 1) σ k) else if x3 = 0 then some ((-1008), σ) else gmG (0 < x3 ∧ x3 < 2147483648) (gmG (0 ≤ (((σ 17 (y3).toNat) + x3) - 1) ∧ (((σ 17 (y3).toNat) + x3) - 1) < 2147483648) (gmL ((if y2 < ((((σ 17 (y3).toNat) + x3) - 1) / x3) then ((((σ 17 (y3).toNat) + x3) - 1) / x3) else y2) : Int) (fun x10 => gmG (gmR (y3 + 1)) (Ft_pliesFor_4 n y1 x10 (y3 + 1) σ k)))))))
def Ft_pliesFor (k1 : Nat) (σ : St) : Option (Int × St) := Ft_pliesFor_4 gmN k1 0 0 σ (fun x12 s13 => some (x12, s13))
set_option maxRecDepth 100000 in
set_option maxHeartbeats 4000000 in
theorem Wt_pliesFor_4 {φ : Fx} {rv : Int} {rs : St} (hG : Good φ "GarmentMarker$State" prog_6_method_8_code 5 1 21) (hF : FinI φ prog_6_method_8_code rv rs) : ∀ (n : Nat) {y1 : Nat} {y2 : Int} {y3 : Int} {σ : St} {k : Int → St → Option (Int × St)}, gmKd y1 = 10 → gmR y2 → gmR y3 → Ft_pliesFor_4 n y1 y2 y3 σ k = some (rv, rs) → (∀ {z2 : Int} {τ : St}, gmR z2 → k z2 τ = some (rv, rs) → J φ τ 57 [(2, .inl z2)] []) → J φ σ 4 [(0, .inr 1), (1, .inr y1), (2, .inl y2), (3, .inl y3)] [] := by
  intro n
  induction n with
  | zero =>
    intro _ _ _ _ _ _ _ _ h
    exact absurd h (by rw [Ft_pliesFor_4.eq_1]; exact fun q => by cases q)
  | succ n ih =>
    intro y1 y2 y3 σ k r1 r2 r3 h hk
    rw [Ft_pliesFor_4.eq_2] at h
    refine gm_ok (fun hO => ?_)
    refine gm_iload_n hG 3 d_t_pliesFor_4 rfl rfl ?_
    refine gm_iconst hG d_t_pliesFor_5 ?_
    refine gm_icmp_ge (tgt := 57) hG d_t_pliesFor_6 (by decide) r3 (by decide) (fun c1 => ?_) (fun c1 => ?_)
    · replace h := gmI_pos c1 h
      refine gm_sub [2] rfl ?_
      exact hk r2 h
    · replace h := gmI_neg c1 h
      refine gm_aload_n hG 1 d_t_pliesFor_9 rfl rfl ?_
      refine gm_iload_n hG 3 d_t_pliesFor_10 rfl rfl ?_
      obtain ⟨g2, h⟩ := gmG_of h
      refine gm_iald (t := (y3).toNat) hG r1 rfl g2 rfl d_t_pliesFor_11 (fun _ => ?_)
      obtain ⟨x3, ex3, h⟩ := gmL_of h
      refine gm_top ex3 ?_
      refine gm_istore (lv' := [(4, .inl x3), (0, .inr 1), (1, .inr y1), (2, .inl y2), (3, .inl y3)]) hG d_t_pliesFor_12 (by decide) rfl ?_
      refine gm_aload_n hG 1 d_t_pliesFor_14 rfl rfl ?_
      refine gm_getR (t := 17) hG gmF_4_29 gmKc_1 rfl d_t_pliesFor_15 ?_
      refine gm_iload_n hG 4 d_t_pliesFor_18 rfl rfl ?_
      obtain ⟨g4, h⟩ := gmG_of h
      refine gm_iald (t := (y3).toNat) hG gmKc_17 gmLc_17 g4 rfl d_t_pliesFor_19 (fun _ => ?_)
      refine gm_if_le (tgt := 51) hG d_t_pliesFor_20 (by decide) (hO 17 (y3).toNat) (fun c5 => ?_) (fun c5 => ?_)
      · replace h := gmI_pos c5 h
        refine gm_iinc (lv' := [(3, .inl (y3 + 1)), (4, .inl x3), (0, .inr 1), (1, .inr y1), (2, .inl y2)]) hG 4 d_t_pliesFor_51 rfl (by decide) rfl ?_
        refine gm_goto (tgt := 4) hG d_t_pliesFor_54 (by decide) ?_
        obtain ⟨g6, h⟩ := gmG_of h
        refine gm_sub [2, 3, 4, 0] rfl ?_
        exact ih r1 r2 g6 h hk
      · replace h := gmI_neg c5 h
        refine gm_iload hG 0 d_t_pliesFor_23 rfl ?_
        refine gm_if_ne (tgt := 32) hG d_t_pliesFor_25 (by decide) (gm_kr ex3 (hO y1 (y3).toNat)) (fun c7 => ?_) (fun c7 => ?_)
        · replace h := gmI_neg c7 h
          refine gm_iload_n hG 3 d_t_pliesFor_32 rfl rfl ?_
          refine gm_aload_n hG 1 d_t_pliesFor_33 rfl rfl ?_
          refine gm_getR (t := 17) hG gmF_4_29 gmKc_1 rfl d_t_pliesFor_34 ?_
          refine gm_iload_n hG 4 d_t_pliesFor_37 rfl rfl ?_
          refine gm_iald (t := (y3).toNat) hG gmKc_17 gmLc_17 g4 rfl d_t_pliesFor_38 (fun _ => ?_)
          refine gm_iload hG 0 d_t_pliesFor_39 rfl ?_
          refine gm_iadd hG d_t_pliesFor_41 ?_
          refine gm_iconst hG d_t_pliesFor_42 ?_
          refine gm_isub hG d_t_pliesFor_43 ?_
          refine gm_iload hG 0 d_t_pliesFor_44 rfl ?_
          obtain ⟨g8, h⟩ := gmG_of h
          obtain ⟨g9, h⟩ := gmG_of h
          refine gm_idiv hG d_t_pliesFor_46 g9 g8 (fun _ => ?_)
          refine gm_max hG gm_mxS gm_mx1 gm_mx2 gm_mx3 (by decide) r2 (gm_kdiv g9 g8) d_t_pliesFor_47 (fun _ => ?_)
          obtain ⟨x10, ex10, h⟩ := gmL_of h
          refine gm_top ex10 ?_
          refine gm_istore_n (lv' := [(2, .inl x10), (4, .inl x3), (0, .inr 1), (1, .inr y1), (3, .inl y3)]) hG d_t_pliesFor_50 rfl (by decide) rfl ?_
          refine gm_iinc (lv' := [(3, .inl (y3 + 1)), (2, .inl x10), (4, .inl x3), (0, .inr 1), (1, .inr y1)]) hG 4 d_t_pliesFor_51 rfl (by decide) rfl ?_
          refine gm_goto (tgt := 4) hG d_t_pliesFor_54 (by decide) ?_
          obtain ⟨g11, h⟩ := gmG_of h
          refine gm_sub [3, 4, 1, 0] rfl ?_
          exact ih r1 (gm_kr ex10 (gmR_ite (fun _ => (gm_kdiv g9 g8)) (fun _ => r2))) g11 h hk
        · replace h := gmI_pos c7 h
          refine gm_sipush hG d_t_pliesFor_28 (by decide) ?_
          exact gm_iret' hF h (by decide) d_t_pliesFor_31
set_option maxRecDepth 100000 in
set_option maxHeartbeats 4000000 in
theorem Wt_pliesFor {k1 : Nat} {σ : St} {rv : Int} {rs : St} (hk1 : gmKd k1 = 10) (h : Ft_pliesFor k1 σ = some (rv, rs)) : Ctr gmY4_pliesFor prog_6_method_8_code 5 (some .int) 1 21 [.inr 1, .inr k1] σ (some rv) rs := by
  refine Ctr.ofI (own := "GarmentMarker$State") (by decide +kernel) rfl (Nat.le_of_ble_eq_true rfl) (fun φ hG hF => ?_)
  unfold Ft_pliesFor at h
  refine gm_lv (l2 := [(0, .inr 1), (1, .inr k1)]) rfl ?_
  refine gm_ok (fun hO => ?_)
  refine gm_iconst hG d_t_pliesFor_0 ?_
  refine gm_istore_n (lv' := [(2, .inl 0), (0, .inr 1), (1, .inr k1)]) hG d_t_pliesFor_1 rfl (by decide) rfl ?_
  refine gm_iconst hG d_t_pliesFor_2 ?_
  refine gm_istore_n (lv' := [(3, .inl 0), (2, .inl 0), (0, .inr 1), (1, .inr k1)]) hG d_t_pliesFor_3 rfl (by decide) rfl ?_
  refine gm_sub [2, 3, 1, 0] rfl ?_
  refine Wt_pliesFor_4 hG hF gmN hk1 (by decide) (by decide) h (fun {x12} {s13} qx12 h => ?_)
  refine gm_ok (fun hOs13 => ?_)
  refine gm_iload_n hG 0 d_t_pliesFor_57 rfl rfl ?_
  exact gm_iret' hF h qx12 d_t_pliesFor_58
def Ft_surplusFor_5 : Nat → Nat → Int → Int → Int → St → (Int → St → Option (Int × St)) → Option (Int × St)
  | 0, _, _, _, _, _, _ => none
  | n + 1, y1, y2, y3, y4, σ, k => if 3 ≤ y4 then k y3 σ else gmG (0 ≤ y4 ∧ y4 < (gmLn y1 : Int)) (gmG (0 ≤ y4 ∧ y4 < 3) (gmL ((y3 + ((y2 * (σ y1 (y4).toNat)) - (σ 17 (y4).toNat))) : Int) (fun x4 => gmG (gmR x4) (gmG (gmR (y4 + 1)) (Ft_surplusFor_5 n y1 y2 x4 (y4 + 1) σ k)))))
def Ft_surplusFor (k1 : Nat) (a1 : Int) (σ : St) : Option (Int × St) := Ft_surplusFor_5 gmN k1 a1 0 0 σ (fun x7 s8 => some (x7, s8))
set_option maxRecDepth 100000 in
set_option maxHeartbeats 4000000 in
theorem Wt_surplusFor_5 {φ : Fx} {rv : Int} {rs : St} (hG : Good φ "GarmentMarker$State" prog_6_method_9_code 5 0 0) (hF : FinI φ prog_6_method_9_code rv rs) : ∀ (n : Nat) {y1 : Nat} {y2 : Int} {y3 : Int} {y4 : Int} {σ : St} {k : Int → St → Option (Int × St)}, gmKd y1 = 10 → gmR y2 → gmR y3 → gmR y4 → Ft_surplusFor_5 n y1 y2 y3 y4 σ k = some (rv, rs) → (∀ {z3 : Int} {τ : St}, gmR z3 → k z3 τ = some (rv, rs) → J φ τ 34 [(3, .inl z3)] []) → J φ σ 5 [(0, .inr 1), (1, .inr y1), (2, .inl y2), (3, .inl y3), (4, .inl y4)] [] := by
  intro n
  induction n with
  | zero =>
    intro _ _ _ _ _ _ _ _ _ _ h
    exact absurd h (by rw [Ft_surplusFor_5.eq_1]; exact fun q => by cases q)
  | succ n ih =>
    intro y1 y2 y3 y4 σ k r1 r2 r3 r4 h hk
    rw [Ft_surplusFor_5.eq_2] at h
    refine gm_ok (fun hO => ?_)
    refine gm_iload hG 4 d_t_surplusFor_5 rfl ?_
    refine gm_iconst hG d_t_surplusFor_7 ?_
    refine gm_icmp_ge (tgt := 34) hG d_t_surplusFor_8 (by decide) r4 (by decide) (fun c1 => ?_) (fun c1 => ?_)
    · replace h := gmI_pos c1 h
      refine gm_sub [3] rfl ?_
      exact hk r3 h
    · replace h := gmI_neg c1 h
      refine gm_iload_n hG 3 d_t_surplusFor_11 rfl rfl ?_
      refine gm_iload_n hG 2 d_t_surplusFor_12 rfl rfl ?_
      refine gm_aload_n hG 1 d_t_surplusFor_13 rfl rfl ?_
      refine gm_iload hG 4 d_t_surplusFor_14 rfl ?_
      obtain ⟨g2, h⟩ := gmG_of h
      refine gm_iald (t := (y4).toNat) hG r1 rfl g2 rfl d_t_surplusFor_16 (fun _ => ?_)
      refine gm_imul hG d_t_surplusFor_17 ?_
      refine gm_aload_n hG 0 d_t_surplusFor_18 rfl rfl ?_
      refine gm_getR (t := 17) hG gmF_4_29 gmKc_1 rfl d_t_surplusFor_19 ?_
      refine gm_iload hG 4 d_t_surplusFor_22 rfl ?_
      obtain ⟨g3, h⟩ := gmG_of h
      refine gm_iald (t := (y4).toNat) hG gmKc_17 gmLc_17 g3 rfl d_t_surplusFor_24 (fun _ => ?_)
      refine gm_isub hG d_t_surplusFor_25 ?_
      refine gm_iadd hG d_t_surplusFor_26 ?_
      obtain ⟨x4, ex4, h⟩ := gmL_of h
      refine gm_top ex4 ?_
      refine gm_istore_n (lv' := [(3, .inl x4), (0, .inr 1), (1, .inr y1), (2, .inl y2), (4, .inl y4)]) hG d_t_surplusFor_27 rfl (by decide) rfl ?_
      refine gm_iinc (lv' := [(4, .inl (y4 + 1)), (3, .inl x4), (0, .inr 1), (1, .inr y1), (2, .inl y2)]) hG 4 d_t_surplusFor_28 rfl (by decide) rfl ?_
      refine gm_goto (tgt := 5) hG d_t_surplusFor_31 (by decide) ?_
      obtain ⟨g5, h⟩ := gmG_of h
      obtain ⟨g6, h⟩ := gmG_of h
      refine gm_sub [2, 3, 4, 1, 0] rfl ?_
      exact ih r1 r2 g5 g6 h hk
set_option maxRecDepth 100000 in
set_option maxHeartbeats 4000000 in
theorem Wt_surplusFor {k1 : Nat} {a1 : Int} {σ : St} {rv : Int} {rs : St} (hk1 : gmKd k1 = 10) (ra1 : gmR a1) (h : Ft_surplusFor k1 a1 σ = some (rv, rs)) : Ctr gmY4_surplusFor prog_6_method_9_code 5 (some .int) 0 0 [.inr 1, .inr k1, .inl a1] σ (some rv) rs := by
  refine Ctr.ofI (own := "GarmentMarker$State") (by decide +kernel) rfl (Nat.le_of_ble_eq_true rfl) (fun φ hG hF => ?_)
  unfold Ft_surplusFor at h
  refine gm_lv (l2 := [(0, .inr 1), (1, .inr k1), (2, .inl a1)]) rfl ?_
  refine gm_ok (fun hO => ?_)
  refine gm_iconst hG d_t_surplusFor_0 ?_
  refine gm_istore_n (lv' := [(3, .inl 0), (0, .inr 1), (1, .inr k1), (2, .inl a1)]) hG d_t_surplusFor_1 rfl (by decide) rfl ?_
  refine gm_iconst hG d_t_surplusFor_2 ?_
  refine gm_istore (lv' := [(4, .inl 0), (3, .inl 0), (0, .inr 1), (1, .inr k1), (2, .inl a1)]) hG d_t_surplusFor_3 (by decide) rfl ?_
  refine gm_sub [2, 3, 4, 1, 0] rfl ?_
  refine Wt_surplusFor_5 hG hF gmN hk1 ra1 (by decide) (by decide) h (fun {x7} {s8} qx7 h => ?_)
  refine gm_ok (fun hOs8 => ?_)
  refine gm_iload_n hG 0 d_t_surplusFor_34 rfl rfl ?_
  exact gm_iret' hF h qx7 d_t_surplusFor_35
def Fx_definePiece (a0 : Int) (a1 : Int) (a2 : Int) (a3 : Int) (a4 : Int) (a5 : Int) (σ : St) : Option (Int × St) := gmB (Fx_isWithin a0 0 5 σ) (fun r2 s1 => if r2 = 0 then some ((-1001), s1) else gmB (Fx_isWithin a1 1 12 s1) (fun r5 s4 => if r5 = 0 then some ((-1005), s4) else gmB (Fx_isWithin a2 1 12 s4) (fun r8 s7 => if r8 = 0 then some ((-1005), s7) else gmB (Fx_isWithin a3 0 3 s7) (fun r11 s10 => if r11 = 0 then some ((-1005), s10) else gmB (Fx_isWithin a4 0 3 s10) (fun r14 s13 => if r14 = 0 then some ((-1005), s13) else gmB (Fx_isWithin a5 1 2 s13) (fun r17 s16 => if r17 = 0 then some ((-1005), s16) else gmG (0 ≤ a0 ∧ a0 < 6) (gmL (gmTg 2 (a0).toNat) (fun p20 => gmL (gmUp s16 p20 0 1) (fun s21 => gmL (gmUp s21 p20 1 a1) (fun s22 => gmL (gmUp s22 p20 2 a2) (fun s23 => gmL (gmUp s23 p20 3 a3) (fun s24 => gmL (gmUp s24 p20 4 a4) (fun s25 => gmL (gmUp s25 p20 5 a5) (fun s26 => gmB (Ft_definedPieces s26) (fun r28 s27 => some (r28, s27))))))))))))))))
set_option maxRecDepth 100000 in
set_option maxHeartbeats 4000000 in
theorem Wx_definePiece {a0 : Int} {a1 : Int} {a2 : Int} {a3 : Int} {a4 : Int} {a5 : Int} {σ : St} {rv : Int} {rs : St} (ra0 : gmR a0) (ra1 : gmR a1) (ra2 : gmR a2) (ra3 : gmR a3) (ra4 : gmR a4) (ra5 : gmR a5) (h : Fx_definePiece a0 a1 a2 a3 a4 a5 σ = some (rv, rs)) : Ctr gmY5_definePiece prog_1_method_2_code 8 (some .int) 1 22 [.inr 0, .inl a0, .inl a1, .inl a2, .inl a3, .inl a4, .inl a5] σ (some rv) rs := by
  refine Ctr.ofI (own := "GarmentMarker") (by decide +kernel) rfl (Nat.le_of_ble_eq_true rfl) (fun φ hG hF => ?_)
  unfold Fx_definePiece at h
  refine gm_lv (l2 := [(0, .inr 0), (1, .inl a0), (2, .inl a1), (3, .inl a2), (4, .inl a3), (5, .inl a4), (6, .inl a5)]) rfl ?_
  refine gm_ok (fun hO => ?_)
  refine gm_iload_n hG 1 d_x_definePiece_0 rfl rfl ?_
  refine gm_iconst hG d_x_definePiece_1 ?_
  refine gm_iconst hG d_x_definePiece_2 ?_
  obtain ⟨r2, s1, es1, h⟩ := gmB_of h
  refine gm_callSi hG [.inl a0, .inl 0, .inl 5] [] gmM_5_35 (Wx_isWithin ra0 (by decide) (by decide) es1) rfl (by decide) (Nat.le_of_ble_eq_true rfl) rfl d_x_definePiece_3 (fun qr2 => ?_)
  refine gm_ok (fun hOs1 => ?_)
  refine gm_if_ne (tgt := 13) hG d_x_definePiece_6 (by decide) qr2 (fun c3 => ?_) (fun c3 => ?_)
  · replace h := gmI_neg c3 h
    refine gm_iload_n hG 2 d_x_definePiece_13 rfl rfl ?_
    refine gm_iconst hG d_x_definePiece_14 ?_
    refine gm_bipush hG d_x_definePiece_15 (by decide) ?_
    obtain ⟨r5, s4, es4, h⟩ := gmB_of h
    refine gm_callSi hG [.inl a1, .inl 1, .inl 12] [] gmM_5_35 (Wx_isWithin ra1 (by decide) (by decide) es4) rfl (by decide) (Nat.le_of_ble_eq_true rfl) rfl d_x_definePiece_17 (fun qr5 => ?_)
    refine gm_ok (fun hOs4 => ?_)
    refine gm_if_eq (tgt := 63) hG d_x_definePiece_20 (by decide) qr5 (fun c6 => ?_) (fun c6 => ?_)
    · replace h := gmI_pos c6 h
      refine gm_sipush hG d_x_definePiece_63 (by decide) ?_
      exact gm_iret' hF h (by decide) d_x_definePiece_66
    · replace h := gmI_neg c6 h
      refine gm_iload_n hG 3 d_x_definePiece_23 rfl rfl ?_
      refine gm_iconst hG d_x_definePiece_24 ?_
      refine gm_bipush hG d_x_definePiece_25 (by decide) ?_
      obtain ⟨r8, s7, es7, h⟩ := gmB_of h
      refine gm_callSi hG [.inl a2, .inl 1, .inl 12] [] gmM_5_35 (Wx_isWithin ra2 (by decide) (by decide) es7) rfl (by decide) (Nat.le_of_ble_eq_true rfl) rfl d_x_definePiece_27 (fun qr8 => ?_)
      refine gm_ok (fun hOs7 => ?_)
      refine gm_if_eq (tgt := 63) hG d_x_definePiece_30 (by decide) qr8 (fun c9 => ?_) (fun c9 => ?_)
      · replace h := gmI_pos c9 h
        refine gm_sipush hG d_x_definePiece_63 (by decide) ?_
        exact gm_iret' hF h (by decide) d_x_definePiece_66
      · replace h := gmI_neg c9 h
        refine gm_iload hG 4 d_x_definePiece_33 rfl ?_
        refine gm_iconst hG d_x_definePiece_35 ?_
        refine gm_iconst hG d_x_definePiece_36 ?_
        obtain ⟨r11, s10, es10, h⟩ := gmB_of h
        refine gm_callSi hG [.inl a3, .inl 0, .inl 3] [] gmM_5_35 (Wx_isWithin ra3 (by decide) (by decide) es10) rfl (by decide) (Nat.le_of_ble_eq_true rfl) rfl d_x_definePiece_37 (fun qr11 => ?_)
        refine gm_ok (fun hOs10 => ?_)
        refine gm_if_eq (tgt := 63) hG d_x_definePiece_40 (by decide) qr11 (fun c12 => ?_) (fun c12 => ?_)
        · replace h := gmI_pos c12 h
          refine gm_sipush hG d_x_definePiece_63 (by decide) ?_
          exact gm_iret' hF h (by decide) d_x_definePiece_66
        · replace h := gmI_neg c12 h
          refine gm_iload hG 5 d_x_definePiece_43 rfl ?_
          refine gm_iconst hG d_x_definePiece_45 ?_
          refine gm_iconst hG d_x_definePiece_46 ?_
          obtain ⟨r14, s13, es13, h⟩ := gmB_of h
          refine gm_callSi hG [.inl a4, .inl 0, .inl 3] [] gmM_5_35 (Wx_isWithin ra4 (by decide) (by decide) es13) rfl (by decide) (Nat.le_of_ble_eq_true rfl) rfl d_x_definePiece_47 (fun qr14 => ?_)
          refine gm_ok (fun hOs13 => ?_)
          refine gm_if_eq (tgt := 63) hG d_x_definePiece_50 (by decide) qr14 (fun c15 => ?_) (fun c15 => ?_)
          · replace h := gmI_pos c15 h
            refine gm_sipush hG d_x_definePiece_63 (by decide) ?_
            exact gm_iret' hF h (by decide) d_x_definePiece_66
          · replace h := gmI_neg c15 h
            refine gm_iload hG 6 d_x_definePiece_53 rfl ?_
            refine gm_iconst hG d_x_definePiece_55 ?_
            refine gm_iconst hG d_x_definePiece_56 ?_
            obtain ⟨r17, s16, es16, h⟩ := gmB_of h
            refine gm_callSi hG [.inl a5, .inl 1, .inl 2] [] gmM_5_35 (Wx_isWithin ra5 (by decide) (by decide) es16) rfl (by decide) (Nat.le_of_ble_eq_true rfl) rfl d_x_definePiece_57 (fun qr17 => ?_)
            refine gm_ok (fun hOs16 => ?_)
            refine gm_if_ne (tgt := 67) hG d_x_definePiece_60 (by decide) qr17 (fun c18 => ?_) (fun c18 => ?_)
            · replace h := gmI_neg c18 h
              refine gm_aload_n hG 0 d_x_definePiece_67 rfl rfl ?_
              refine gm_getR (t := 1) hG gmF_5_12 gmKc_0 rfl d_x_definePiece_68 ?_
              refine gm_getR (t := 2) hG gmF_5_39 gmKc_1 rfl d_x_definePiece_71 ?_
              refine gm_iload_n hG 1 d_x_definePiece_74 rfl rfl ?_
              obtain ⟨g19, h⟩ := gmG_of h
              refine gm_aald (t := (a0).toNat) hG 2 gmKc_2 (by decide) (by decide) rfl gmLc_2 g19 rfl d_x_definePiece_75 ?_
              obtain ⟨p20, ep20, h⟩ := gmL_of h
              refine gm_topR ep20 ?_
              refine gm_astore (lv' := [(7, .inr p20), (0, .inr 0), (1, .inl a0), (2, .inl a1), (3, .inl a2), (4, .inl a3), (5, .inl a4), (6, .inl a5)]) hG d_x_definePiece_76 (by decide) rfl ?_
              refine gm_aload hG 0 d_x_definePiece_78 rfl ?_
              refine gm_iconst hG d_x_definePiece_80 ?_
              obtain ⟨s21, es21, h⟩ := gmL_of h
              refine gm_putZ hG gmF_5_43 (gm_kd ep20 (gmKtP (k := 2) (i := a0) gmKc_2 (by rw [gmLc_2]; exact g19))) (gmFrN 0 (Or.inr (Or.inl (gm_kd ep20 (gmKtP (k := 2) (i := a0) gmKc_2 (by rw [gmLc_2]; exact g19)))))) rfl (by decide +kernel) (Or.inr rfl) es21 d_x_definePiece_81 ?_
              refine gm_ok (fun hOs21 => ?_)
              refine gm_aload hG 0 d_x_definePiece_84 rfl ?_
              refine gm_iload_n hG 3 d_x_definePiece_86 rfl rfl ?_
              obtain ⟨s22, es22, h⟩ := gmL_of h
              refine gm_putI hG gmF_5_49 (gm_kd ep20 (gmKtP (k := 2) (i := a0) gmKc_2 (by rw [gmLc_2]; exact g19))) (gmFrN 1 (Or.inr (Or.inl (gm_kd ep20 (gmKtP (k := 2) (i := a0) gmKc_2 (by rw [gmLc_2]; exact g19)))))) rfl (by decide +kernel) ra1 es22 d_x_definePiece_87 ?_
              refine gm_ok (fun hOs22 => ?_)
              refine gm_aload hG 0 d_x_definePiece_90 rfl ?_
              refine gm_iload_n hG 4 d_x_definePiece_92 rfl rfl ?_
              obtain ⟨s23, es23, h⟩ := gmL_of h
              refine gm_putI hG gmF_5_53 (gm_kd ep20 (gmKtP (k := 2) (i := a0) gmKc_2 (by rw [gmLc_2]; exact g19))) (gmFrN 2 (Or.inr (Or.inl (gm_kd ep20 (gmKtP (k := 2) (i := a0) gmKc_2 (by rw [gmLc_2]; exact g19)))))) rfl (by decide +kernel) ra2 es23 d_x_definePiece_93 ?_
              refine gm_ok (fun hOs23 => ?_)
              refine gm_aload hG 0 d_x_definePiece_96 rfl ?_
              refine gm_iload hG 5 d_x_definePiece_98 rfl ?_
              obtain ⟨s24, es24, h⟩ := gmL_of h
              refine gm_putI hG gmF_5_56 (gm_kd ep20 (gmKtP (k := 2) (i := a0) gmKc_2 (by rw [gmLc_2]; exact g19))) (gmFrN 3 (Or.inr (Or.inl (gm_kd ep20 (gmKtP (k := 2) (i := a0) gmKc_2 (by rw [gmLc_2]; exact g19)))))) rfl (by decide +kernel) ra3 es24 d_x_definePiece_100 ?_
              refine gm_ok (fun hOs24 => ?_)
              refine gm_aload hG 0 d_x_definePiece_103 rfl ?_
              refine gm_iload hG 6 d_x_definePiece_105 rfl ?_
              obtain ⟨s25, es25, h⟩ := gmL_of h
              refine gm_putI hG gmF_5_59 (gm_kd ep20 (gmKtP (k := 2) (i := a0) gmKc_2 (by rw [gmLc_2]; exact g19))) (gmFrN 4 (Or.inr (Or.inl (gm_kd ep20 (gmKtP (k := 2) (i := a0) gmKc_2 (by rw [gmLc_2]; exact g19)))))) rfl (by decide +kernel) ra4 es25 d_x_definePiece_107 ?_
              refine gm_ok (fun hOs25 => ?_)
              refine gm_aload hG 0 d_x_definePiece_110 rfl ?_
              refine gm_iload hG 7 d_x_definePiece_112 rfl ?_
              obtain ⟨s26, es26, h⟩ := gmL_of h
              refine gm_putI hG gmF_5_62 (gm_kd ep20 (gmKtP (k := 2) (i := a0) gmKc_2 (by rw [gmLc_2]; exact g19))) (gmFrN 5 (Or.inr (Or.inl (gm_kd ep20 (gmKtP (k := 2) (i := a0) gmKc_2 (by rw [gmLc_2]; exact g19)))))) rfl (by decide +kernel) ra5 es26 d_x_definePiece_114 ?_
              refine gm_ok (fun hOs26 => ?_)
              refine gm_aload_n hG 1 d_x_definePiece_117 rfl rfl ?_
              refine gm_getR (t := 1) hG gmF_5_12 gmKc_0 rfl d_x_definePiece_118 ?_
              obtain ⟨r28, s27, es27, h⟩ := gmB_of h
              refine gm_callVi hG [] [] gmM_5_65 (Wt_definedPieces es27) gmKc_1 rfl (by decide) (Nat.le_of_ble_eq_true rfl) rfl d_x_definePiece_121 (fun qr28 => ?_)
              refine gm_ok (fun hOs27 => ?_)
              exact gm_iret' hF h qr28 d_x_definePiece_124
            · replace h := gmI_pos c18 h
              refine gm_sipush hG d_x_definePiece_63 (by decide) ?_
              exact gm_iret' hF h (by decide) d_x_definePiece_66
  · replace h := gmI_pos c3 h
    refine gm_sipush hG d_x_definePiece_9 (by decide) ?_
    exact gm_iret' hF h (by decide) d_x_definePiece_12
def Fx_removePiece (a0 : Int) (σ : St) : Option (Int × St) := gmB (Ft_isDefined a0 σ) (fun r2 s1 => if r2 = 0 then some ((-1001), s1) else gmG (0 ≤ a0 ∧ a0 < 6) (gmL (gmUp s1 (gmTg 2 (a0).toNat) 0 0) (fun s5 => gmBv (Ft_removeSeamsOf a0 s5) (fun s6 => some ((s6 1 2), s6)))))
set_option maxRecDepth 100000 in
set_option maxHeartbeats 4000000 in
theorem Wx_removePiece {a0 : Int} {σ : St} {rv : Int} {rs : St} (ra0 : gmR a0) (h : Fx_removePiece a0 σ = some (rv, rs)) : Ctr gmY5_removePiece prog_1_method_3_code 2 (some .int) 2 44 [.inr 0, .inl a0] σ (some rv) rs := by
  refine Ctr.ofI (own := "GarmentMarker") (by decide +kernel) rfl (Nat.le_of_ble_eq_true rfl) (fun φ hG hF => ?_)
  unfold Fx_removePiece at h
  refine gm_lv (l2 := [(0, .inr 0), (1, .inl a0)]) rfl ?_
  refine gm_ok (fun hO => ?_)
  refine gm_aload_n hG 0 d_x_removePiece_0 rfl rfl ?_
  refine gm_getR (t := 1) hG gmF_5_12 gmKc_0 rfl d_x_removePiece_1 ?_
  refine gm_iload_n hG 1 d_x_removePiece_4 rfl rfl ?_
  obtain ⟨r2, s1, es1, h⟩ := gmB_of h
  refine gm_callVi hG [.inl a0] [] gmM_5_69 (Wt_isDefined ra0 es1) gmKc_1 rfl (by decide) (Nat.le_of_ble_eq_true rfl) rfl d_x_removePiece_5 (fun qr2 => ?_)
  refine gm_ok (fun hOs1 => ?_)
  refine gm_if_ne (tgt := 15) hG d_x_removePiece_8 (by decide) qr2 (fun c3 => ?_) (fun c3 => ?_)
  · replace h := gmI_neg c3 h
    refine gm_aload_n hG 0 d_x_removePiece_15 rfl rfl ?_
    refine gm_getR (t := 1) hG gmF_5_12 gmKc_0 rfl d_x_removePiece_16 ?_
    refine gm_getR (t := 2) hG gmF_5_39 gmKc_1 rfl d_x_removePiece_19 ?_
    refine gm_iload_n hG 1 d_x_removePiece_22 rfl rfl ?_
    obtain ⟨g4, h⟩ := gmG_of h
    refine gm_aald (t := (a0).toNat) hG 2 gmKc_2 (by decide) (by decide) rfl gmLc_2 g4 rfl d_x_removePiece_23 ?_
    refine gm_iconst hG d_x_removePiece_24 ?_
    obtain ⟨s5, es5, h⟩ := gmL_of h
    refine gm_putZ hG gmF_5_43 (gmKtP (k := 2) (i := a0) gmKc_2 (by rw [gmLc_2]; exact g4)) (gmFrN 0 (Or.inr (Or.inl (gmKtP (k := 2) (i := a0) gmKc_2 (by rw [gmLc_2]; exact g4))))) rfl (by decide +kernel) (Or.inl rfl) es5 d_x_removePiece_25 ?_
    refine gm_ok (fun hOs5 => ?_)
    refine gm_aload_n hG 0 d_x_removePiece_28 rfl rfl ?_
    refine gm_getR (t := 1) hG gmF_5_12 gmKc_0 rfl d_x_removePiece_29 ?_
    refine gm_iload_n hG 1 d_x_removePiece_32 rfl rfl ?_
    obtain ⟨s6, es6, h⟩ := gmBv_of h
    refine gm_callVv hG [.inl a0] [] gmM_5_73 (Wt_removeSeamsOf ra0 es6) gmKc_1 rfl (by decide) (Nat.le_of_ble_eq_true rfl) rfl d_x_removePiece_33 ?_
    refine gm_ok (fun hOs6 => ?_)
    refine gm_aload_n hG 0 d_x_removePiece_36 rfl rfl ?_
    refine gm_getR (t := 1) hG gmF_5_12 gmKc_0 rfl d_x_removePiece_37 ?_
    refine gm_getI hG gmF_5_77 gmKc_1 rfl d_x_removePiece_40 (fun _ => ?_)
    exact gm_iret' hF h (hOs6 1 2) d_x_removePiece_43
  · replace h := gmI_pos c3 h
    refine gm_sipush hG d_x_removePiece_11 (by decide) ?_
    exact gm_iret' hF h (by decide) d_x_removePiece_14
def Fx_isSize (a0 : Int) (σ : St) : Option (Int × St) := gmB (Fx_isWithin a0 0 2 σ) (fun r2 s1 => gmG (r2 = 0 ∨ r2 = 1) (some (r2, s1)))
set_option maxRecDepth 100000 in
set_option maxHeartbeats 4000000 in
theorem Wx_isSize {a0 : Int} {σ : St} {rv : Int} {rs : St} (ra0 : gmR a0) (h : Fx_isSize a0 σ = some (rv, rs)) : Ctr gmY5_isSize prog_1_method_41_code 1 (some .boolean) 1 22 [.inl a0] σ (some rv) rs := by
  refine Ctr.ofZ (own := "GarmentMarker") (by decide +kernel) rfl (Nat.le_of_ble_eq_true rfl) (fun φ hG hF => ?_)
  unfold Fx_isSize at h
  refine gm_lv (l2 := [(0, .inl a0)]) rfl ?_
  refine gm_ok (fun hO => ?_)
  refine gm_iload_n hG 0 d_x_isSize_0 rfl rfl ?_
  refine gm_iconst hG d_x_isSize_1 ?_
  refine gm_iconst hG d_x_isSize_2 ?_
  obtain ⟨r2, s1, es1, h⟩ := gmB_of h
  refine gm_callSi hG [.inl a0, .inl 0, .inl 2] [] gmM_5_35 (Wx_isWithin ra0 (by decide) (by decide) es1) rfl (by decide) (Nat.le_of_ble_eq_true rfl) rfl d_x_isSize_3 (fun qr2 => ?_)
  refine gm_ok (fun hOs1 => ?_)
  obtain ⟨g3, h⟩ := gmG_of h
  exact gm_zret' hF h g3 d_x_isSize_6
def Fx_sideOrError (a0 : Int) (a1 : Int) (a2 : Int) (σ : St) : Option (Int × St) := gmB (Ft_isDefined a0 σ) (fun r2 s1 => if r2 = 0 then some ((-1001), s1) else gmB (Fx_isSize a2 s1) (fun r5 s4 => if r5 = 0 then some ((-1002), s4) else gmG (0 ≤ a0 ∧ a0 < 6) (gmB (Fc_sideIn (gmTg 2 (a0).toNat) a1 a2 s4) (fun r9 s8 => some (r9, s8)))))
set_option maxRecDepth 100000 in
set_option maxHeartbeats 4000000 in
theorem Wx_sideOrError {a0 : Int} {a1 : Int} {a2 : Int} {σ : St} {rv : Int} {rs : St} (ra0 : gmR a0) (ra1 : gmR a1) (ra2 : gmR a2) (h : Fx_sideOrError a0 a1 a2 σ = some (rv, rs)) : Ctr gmY5_sideOrError prog_1_method_44_code 4 (some .int) 2 43 [.inr 0, .inl a0, .inl a1, .inl a2] σ (some rv) rs := by
  refine Ctr.ofI (own := "GarmentMarker") (by decide +kernel) rfl (Nat.le_of_ble_eq_true rfl) (fun φ hG hF => ?_)
  unfold Fx_sideOrError at h
  refine gm_lv (l2 := [(0, .inr 0), (1, .inl a0), (2, .inl a1), (3, .inl a2)]) rfl ?_
  refine gm_ok (fun hO => ?_)
  refine gm_aload_n hG 0 d_x_sideOrError_0 rfl rfl ?_
  refine gm_getR (t := 1) hG gmF_5_12 gmKc_0 rfl d_x_sideOrError_1 ?_
  refine gm_iload_n hG 1 d_x_sideOrError_4 rfl rfl ?_
  obtain ⟨r2, s1, es1, h⟩ := gmB_of h
  refine gm_callVi hG [.inl a0] [] gmM_5_69 (Wt_isDefined ra0 es1) gmKc_1 rfl (by decide) (Nat.le_of_ble_eq_true rfl) rfl d_x_sideOrError_5 (fun qr2 => ?_)
  refine gm_ok (fun hOs1 => ?_)
  refine gm_if_ne (tgt := 15) hG d_x_sideOrError_8 (by decide) qr2 (fun c3 => ?_) (fun c3 => ?_)
  · replace h := gmI_neg c3 h
    refine gm_iload_n hG 3 d_x_sideOrError_15 rfl rfl ?_
    obtain ⟨r5, s4, es4, h⟩ := gmB_of h
    refine gm_callSi hG [.inl a2] [] gmM_5_105 (Wx_isSize ra2 es4) rfl (by decide) (Nat.le_of_ble_eq_true rfl) rfl d_x_sideOrError_16 (fun qr5 => ?_)
    refine gm_ok (fun hOs4 => ?_)
    refine gm_if_eq (tgt := 39) hG d_x_sideOrError_19 (by decide) qr5 (fun c6 => ?_) (fun c6 => ?_)
    · replace h := gmI_pos c6 h
      refine gm_sipush hG d_x_sideOrError_39 (by decide) ?_
      exact gm_iret' hF h (by decide) d_x_sideOrError_42
    · replace h := gmI_neg c6 h
      refine gm_aload_n hG 0 d_x_sideOrError_22 rfl rfl ?_
      refine gm_getR (t := 1) hG gmF_5_12 gmKc_0 rfl d_x_sideOrError_23 ?_
      refine gm_getR (t := 2) hG gmF_5_39 gmKc_1 rfl d_x_sideOrError_26 ?_
      refine gm_iload_n hG 1 d_x_sideOrError_29 rfl rfl ?_
      obtain ⟨g7, h⟩ := gmG_of h
      refine gm_aald (t := (a0).toNat) hG 2 gmKc_2 (by decide) (by decide) rfl gmLc_2 g7 rfl d_x_sideOrError_30 ?_
      refine gm_iload_n hG 2 d_x_sideOrError_31 rfl rfl ?_
      refine gm_iload_n hG 3 d_x_sideOrError_32 rfl rfl ?_
      obtain ⟨r9, s8, es8, h⟩ := gmB_of h
      refine gm_callVi hG [.inl a1, .inl a2] [] gmM_5_229 (Wc_sideIn (gmKtP (k := 2) (i := a0) gmKc_2 (by rw [gmLc_2]; exact g7)) ra1 ra2 es8) (gmKtP (k := 2) (i := a0) gmKc_2 (by rw [gmLc_2]; exact g7)) rfl (by decide) (Nat.le_of_ble_eq_true rfl) rfl d_x_sideOrError_33 (fun qr9 => ?_)
      refine gm_ok (fun hOs8 => ?_)
      refine gm_goto (tgt := 42) hG d_x_sideOrError_36 (by decide) ?_
      exact gm_iret' hF h qr9 d_x_sideOrError_42
  · replace h := gmI_pos c3 h
    refine gm_sipush hG d_x_sideOrError_11 (by decide) ?_
    exact gm_iret' hF h (by decide) d_x_sideOrError_14
def Fx_pieceWidth (a0 : Int) (a1 : Int) (σ : St) : Option (Int × St) := gmB (Fx_sideOrError a0 0 a1 σ) (fun r2 s1 => some (r2, s1))
set_option maxRecDepth 100000 in
set_option maxHeartbeats 4000000 in
theorem Wx_pieceWidth {a0 : Int} {a1 : Int} {σ : St} {rv : Int} {rs : St} (ra0 : gmR a0) (ra1 : gmR a1) (h : Fx_pieceWidth a0 a1 σ = some (rv, rs)) : Ctr gmY5_pieceWidth prog_1_method_4_code 3 (some .int) 3 66 [.inr 0, .inl a0, .inl a1] σ (some rv) rs := by
  refine Ctr.ofI (own := "GarmentMarker") (by decide +kernel) rfl (Nat.le_of_ble_eq_true rfl) (fun φ hG hF => ?_)
  unfold Fx_pieceWidth at h
  refine gm_lv (l2 := [(0, .inr 0), (1, .inl a0), (2, .inl a1)]) rfl ?_
  refine gm_ok (fun hO => ?_)
  refine gm_aload_n hG 0 d_x_pieceWidth_0 rfl rfl ?_
  refine gm_iload_n hG 1 d_x_pieceWidth_1 rfl rfl ?_
  refine gm_iconst hG d_x_pieceWidth_2 ?_
  refine gm_iload_n hG 2 d_x_pieceWidth_3 rfl rfl ?_
  obtain ⟨r2, s1, es1, h⟩ := gmB_of h
  refine gm_callVi hG [.inl a0, .inl 0, .inl a1] [] gmM_5_80 (Wx_sideOrError ra0 (by decide) ra1 es1) gmKc_0 rfl (by decide) (Nat.le_of_ble_eq_true rfl) rfl d_x_pieceWidth_4 (fun qr2 => ?_)
  refine gm_ok (fun hOs1 => ?_)
  exact gm_iret' hF h qr2 d_x_pieceWidth_7
def Fx_pieceLength (a0 : Int) (a1 : Int) (σ : St) : Option (Int × St) := gmB (Fx_sideOrError a0 1 a1 σ) (fun r2 s1 => some (r2, s1))
set_option maxRecDepth 100000 in
set_option maxHeartbeats 4000000 in
theorem Wx_pieceLength {a0 : Int} {a1 : Int} {σ : St} {rv : Int} {rs : St} (ra0 : gmR a0) (ra1 : gmR a1) (h : Fx_pieceLength a0 a1 σ = some (rv, rs)) : Ctr gmY5_pieceLength prog_1_method_5_code 3 (some .int) 3 66 [.inr 0, .inl a0, .inl a1] σ (some rv) rs := by
  refine Ctr.ofI (own := "GarmentMarker") (by decide +kernel) rfl (Nat.le_of_ble_eq_true rfl) (fun φ hG hF => ?_)
  unfold Fx_pieceLength at h
  refine gm_lv (l2 := [(0, .inr 0), (1, .inl a0), (2, .inl a1)]) rfl ?_
  refine gm_ok (fun hO => ?_)
  refine gm_aload_n hG 0 d_x_pieceLength_0 rfl rfl ?_
  refine gm_iload_n hG 1 d_x_pieceLength_1 rfl rfl ?_
  refine gm_iconst hG d_x_pieceLength_2 ?_
  refine gm_iload_n hG 2 d_x_pieceLength_3 rfl rfl ?_
  obtain ⟨r2, s1, es1, h⟩ := gmB_of h
  refine gm_callVi hG [.inl a0, .inl 1, .inl a1] [] gmM_5_80 (Wx_sideOrError ra0 (by decide) ra1 es1) gmKc_0 rfl (by decide) (Nat.le_of_ble_eq_true rfl) rfl d_x_pieceLength_4 (fun qr2 => ?_)
  refine gm_ok (fun hOs1 => ?_)
  exact gm_iret' hF h qr2 d_x_pieceLength_7
def Fx_addSeam (a0 : Int) (a1 : Int) (a2 : Int) (a3 : Int) (a4 : Int) (σ : St) : Option (Int × St) := gmB (Ft_isDefined a0 σ) (fun r2 s1 => if r2 = 0 then some ((-1001), s1) else gmB (Ft_isDefined a2 s1) (fun r5 s4 => if r5 = 0 then some ((-1001), s4) else gmB (Fx_isWithin a1 0 1 s4) (fun r8 s7 => if r8 = 0 then some ((-1005), s7) else gmB (Fx_isWithin a3 0 1 s7) (fun r11 s10 => if r11 = 0 then some ((-1005), s10) else gmB (Fx_isWithin a4 (-3) 3 s10) (fun r14 s13 => if r14 = 0 then some ((-1005), s13) else gmL ((s13 1 2) : Int) (fun x16 => if x16 < 6 then gmG (0 ≤ x16 ∧ x16 < 6) (gmL (gmTg 9 (x16).toNat) (fun p19 => gmL (gmUp s13 p19 0 a0) (fun s20 => gmL (gmUp s20 p19 1 a1) (fun s21 => gmL (gmUp s21 p19 2 a2) (fun s22 => gmL (gmUp s22 p19 3 a3) (fun s23 => gmL (gmUp s23 p19 4 a4) (fun s24 => gmG (gmR (x16 + 1)) (gmL (gmUp s24 1 2 (x16 + 1)) (fun s26 => some (x16, s26)))))))))) else some ((-1006), s13)))))))
set_option maxRecDepth 100000 in
set_option maxHeartbeats 4000000 in
theorem Wx_addSeam {a0 : Int} {a1 : Int} {a2 : Int} {a3 : Int} {a4 : Int} {σ : St} {rv : Int} {rs : St} (ra0 : gmR a0) (ra1 : gmR a1) (ra2 : gmR a2) (ra3 : gmR a3) (ra4 : gmR a4) (h : Fx_addSeam a0 a1 a2 a3 a4 σ = some (rv, rs)) : Ctr gmY5_addSeam prog_1_method_6_code 8 (some .int) 2 43 [.inr 0, .inl a0, .inl a1, .inl a2, .inl a3, .inl a4] σ (some rv) rs := by
  refine Ctr.ofI (own := "GarmentMarker") (by decide +kernel) rfl (Nat.le_of_ble_eq_true rfl) (fun φ hG hF => ?_)
  unfold Fx_addSeam at h
  refine gm_lv (l2 := [(0, .inr 0), (1, .inl a0), (2, .inl a1), (3, .inl a2), (4, .inl a3), (5, .inl a4)]) rfl ?_
  refine gm_ok (fun hO => ?_)
  refine gm_aload_n hG 0 d_x_addSeam_0 rfl rfl ?_
  refine gm_getR (t := 1) hG gmF_5_12 gmKc_0 rfl d_x_addSeam_1 ?_
  refine gm_iload_n hG 1 d_x_addSeam_4 rfl rfl ?_
  obtain ⟨r2, s1, es1, h⟩ := gmB_of h
  refine gm_callVi hG [.inl a0] [] gmM_5_69 (Wt_isDefined ra0 es1) gmKc_1 rfl (by decide) (Nat.le_of_ble_eq_true rfl) rfl d_x_addSeam_5 (fun qr2 => ?_)
  refine gm_ok (fun hOs1 => ?_)
  refine gm_if_eq (tgt := 22) hG d_x_addSeam_8 (by decide) qr2 (fun c3 => ?_) (fun c3 => ?_)
  · replace h := gmI_pos c3 h
    refine gm_sipush hG d_x_addSeam_22 (by decide) ?_
    exact gm_iret' hF h (by decide) d_x_addSeam_25
  · replace h := gmI_neg c3 h
    refine gm_aload_n hG 0 d_x_addSeam_11 rfl rfl ?_
    refine gm_getR (t := 1) hG gmF_5_12 gmKc_0 rfl d_x_addSeam_12 ?_
    refine gm_iload_n hG 3 d_x_addSeam_15 rfl rfl ?_
    obtain ⟨r5, s4, es4, h⟩ := gmB_of h
    refine gm_callVi hG [.inl a2] [] gmM_5_69 (Wt_isDefined ra2 es4) gmKc_1 rfl (by decide) (Nat.le_of_ble_eq_true rfl) rfl d_x_addSeam_16 (fun qr5 => ?_)
    refine gm_ok (fun hOs4 => ?_)
    refine gm_if_ne (tgt := 26) hG d_x_addSeam_19 (by decide) qr5 (fun c6 => ?_) (fun c6 => ?_)
    · replace h := gmI_neg c6 h
      refine gm_iload_n hG 2 d_x_addSeam_26 rfl rfl ?_
      refine gm_iconst hG d_x_addSeam_27 ?_
      refine gm_iconst hG d_x_addSeam_28 ?_
      obtain ⟨r8, s7, es7, h⟩ := gmB_of h
      refine gm_callSi hG [.inl a1, .inl 0, .inl 1] [] gmM_5_35 (Wx_isWithin ra1 (by decide) (by decide) es7) rfl (by decide) (Nat.le_of_ble_eq_true rfl) rfl d_x_addSeam_29 (fun qr8 => ?_)
      refine gm_ok (fun hOs7 => ?_)
      refine gm_if_eq (tgt := 56) hG d_x_addSeam_32 (by decide) qr8 (fun c9 => ?_) (fun c9 => ?_)
      · replace h := gmI_pos c9 h
        refine gm_sipush hG d_x_addSeam_56 (by decide) ?_
        exact gm_iret' hF h (by decide) d_x_addSeam_59
      · replace h := gmI_neg c9 h
        refine gm_iload hG 4 d_x_addSeam_35 rfl ?_
        refine gm_iconst hG d_x_addSeam_37 ?_
        refine gm_iconst hG d_x_addSeam_38 ?_
        obtain ⟨r11, s10, es10, h⟩ := gmB_of h
        refine gm_callSi hG [.inl a3, .inl 0, .inl 1] [] gmM_5_35 (Wx_isWithin ra3 (by decide) (by decide) es10) rfl (by decide) (Nat.le_of_ble_eq_true rfl) rfl d_x_addSeam_39 (fun qr11 => ?_)
        refine gm_ok (fun hOs10 => ?_)
        refine gm_if_eq (tgt := 56) hG d_x_addSeam_42 (by decide) qr11 (fun c12 => ?_) (fun c12 => ?_)
        · replace h := gmI_pos c12 h
          refine gm_sipush hG d_x_addSeam_56 (by decide) ?_
          exact gm_iret' hF h (by decide) d_x_addSeam_59
        · replace h := gmI_neg c12 h
          refine gm_iload hG 5 d_x_addSeam_45 rfl ?_
          refine gm_bipush hG d_x_addSeam_47 (by decide) ?_
          refine gm_iconst hG d_x_addSeam_49 ?_
          obtain ⟨r14, s13, es13, h⟩ := gmB_of h
          refine gm_callSi hG [.inl a4, .inl (-3), .inl 3] [] gmM_5_35 (Wx_isWithin ra4 (by decide) (by decide) es13) rfl (by decide) (Nat.le_of_ble_eq_true rfl) rfl d_x_addSeam_50 (fun qr14 => ?_)
          refine gm_ok (fun hOs13 => ?_)
          refine gm_if_ne (tgt := 60) hG d_x_addSeam_53 (by decide) qr14 (fun c15 => ?_) (fun c15 => ?_)
          · replace h := gmI_neg c15 h
            refine gm_aload_n hG 0 d_x_addSeam_60 rfl rfl ?_
            refine gm_getR (t := 1) hG gmF_5_12 gmKc_0 rfl d_x_addSeam_61 ?_
            refine gm_getI hG gmF_5_77 gmKc_1 rfl d_x_addSeam_64 (fun _ => ?_)
            obtain ⟨x16, ex16, h⟩ := gmL_of h
            refine gm_top ex16 ?_
            refine gm_istore (lv' := [(6, .inl x16), (0, .inr 0), (1, .inl a0), (2, .inl a1), (3, .inl a2), (4, .inl a3), (5, .inl a4)]) hG d_x_addSeam_67 (by decide) rfl ?_
            refine gm_iload hG 0 d_x_addSeam_69 rfl ?_
            refine gm_bipush hG d_x_addSeam_71 (by decide) ?_
            refine gm_icmp_lt (tgt := 80) hG d_x_addSeam_73 (by decide) (gm_kr ex16 (hOs13 1 2)) (by decide) (fun c17 => ?_) (fun c17 => ?_)
            · replace h := gmI_pos c17 h
              refine gm_aload_n hG 1 d_x_addSeam_80 rfl rfl ?_
              refine gm_getR (t := 1) hG gmF_5_12 gmKc_0 rfl d_x_addSeam_81 ?_
              refine gm_getR (t := 9) hG gmF_5_84 gmKc_1 rfl d_x_addSeam_84 ?_
              refine gm_iload hG 0 d_x_addSeam_87 rfl ?_
              obtain ⟨g18, h⟩ := gmG_of h
              refine gm_aald (t := (x16).toNat) hG 3 gmKc_9 (by decide) (by decide) rfl gmLc_9 g18 rfl d_x_addSeam_89 ?_
              obtain ⟨p19, ep19, h⟩ := gmL_of h
              refine gm_topR ep19 ?_
              refine gm_astore (lv' := [(7, .inr p19), (6, .inl x16), (0, .inr 0), (1, .inl a0), (2, .inl a1), (3, .inl a2), (4, .inl a3), (5, .inl a4)]) hG d_x_addSeam_90 (by decide) rfl ?_
              refine gm_aload hG 0 d_x_addSeam_92 rfl ?_
              refine gm_iload_n hG 3 d_x_addSeam_94 rfl rfl ?_
              obtain ⟨s20, es20, h⟩ := gmL_of h
              refine gm_putI hG gmF_5_88 (gm_kd ep19 (gmKtS (k := 9) (i := x16) gmKc_9 (by rw [gmLc_9]; exact g18))) (gmFrN 0 (Or.inr (Or.inr (gm_kd ep19 (gmKtS (k := 9) (i := x16) gmKc_9 (by rw [gmLc_9]; exact g18)))))) rfl (by decide +kernel) ra0 es20 d_x_addSeam_95 ?_
              refine gm_ok (fun hOs20 => ?_)
              refine gm_aload hG 0 d_x_addSeam_98 rfl ?_
              refine gm_iload_n hG 4 d_x_addSeam_100 rfl rfl ?_
              obtain ⟨s21, es21, h⟩ := gmL_of h
              refine gm_putI hG gmF_5_93 (gm_kd ep19 (gmKtS (k := 9) (i := x16) gmKc_9 (by rw [gmLc_9]; exact g18))) (gmFrN 1 (Or.inr (Or.inr (gm_kd ep19 (gmKtS (k := 9) (i := x16) gmKc_9 (by rw [gmLc_9]; exact g18)))))) rfl (by decide +kernel) ra1 es21 d_x_addSeam_101 ?_
              refine gm_ok (fun hOs21 => ?_)
              refine gm_aload hG 0 d_x_addSeam_104 rfl ?_
              refine gm_iload_n hG 5 d_x_addSeam_106 rfl rfl ?_
              obtain ⟨s22, es22, h⟩ := gmL_of h
              refine gm_putI hG gmF_5_96 (gm_kd ep19 (gmKtS (k := 9) (i := x16) gmKc_9 (by rw [gmLc_9]; exact g18))) (gmFrN 2 (Or.inr (Or.inr (gm_kd ep19 (gmKtS (k := 9) (i := x16) gmKc_9 (by rw [gmLc_9]; exact g18)))))) rfl (by decide +kernel) ra2 es22 d_x_addSeam_107 ?_
              refine gm_ok (fun hOs22 => ?_)
              refine gm_aload hG 0 d_x_addSeam_110 rfl ?_
              refine gm_iload hG 6 d_x_addSeam_112 rfl ?_
              obtain ⟨s23, es23, h⟩ := gmL_of h
              refine gm_putI hG gmF_5_99 (gm_kd ep19 (gmKtS (k := 9) (i := x16) gmKc_9 (by rw [gmLc_9]; exact g18))) (gmFrN 3 (Or.inr (Or.inr (gm_kd ep19 (gmKtS (k := 9) (i := x16) gmKc_9 (by rw [gmLc_9]; exact g18)))))) rfl (by decide +kernel) ra3 es23 d_x_addSeam_114 ?_
              refine gm_ok (fun hOs23 => ?_)
              refine gm_aload hG 0 d_x_addSeam_117 rfl ?_
              refine gm_iload hG 7 d_x_addSeam_119 rfl ?_
              obtain ⟨s24, es24, h⟩ := gmL_of h
              refine gm_putI hG gmF_5_102 (gm_kd ep19 (gmKtS (k := 9) (i := x16) gmKc_9 (by rw [gmLc_9]; exact g18))) (gmFrN 4 (Or.inr (Or.inr (gm_kd ep19 (gmKtS (k := 9) (i := x16) gmKc_9 (by rw [gmLc_9]; exact g18)))))) rfl (by decide +kernel) ra4 es24 d_x_addSeam_121 ?_
              refine gm_ok (fun hOs24 => ?_)
              refine gm_aload_n hG 2 d_x_addSeam_124 rfl rfl ?_
              refine gm_getR (t := 1) hG gmF_5_12 gmKc_0 rfl d_x_addSeam_125 ?_
              refine gm_iload hG 1 d_x_addSeam_128 rfl ?_
              refine gm_iconst hG d_x_addSeam_130 ?_
              refine gm_iadd hG d_x_addSeam_131 ?_
              obtain ⟨g25, h⟩ := gmG_of h
              obtain ⟨s26, es26, h⟩ := gmL_of h
              refine gm_putI hG gmF_5_77 gmKc_1 rfl rfl (by decide +kernel) g25 es26 d_x_addSeam_132 ?_
              refine gm_ok (fun hOs26 => ?_)
              refine gm_iload hG 1 d_x_addSeam_135 rfl ?_
              exact gm_iret' hF h (gm_kr ex16 (hOs13 1 2)) d_x_addSeam_137
            · replace h := gmI_neg c17 h
              refine gm_sipush hG d_x_addSeam_76 (by decide) ?_
              exact gm_iret' hF h (by decide) d_x_addSeam_79
          · replace h := gmI_pos c15 h
            refine gm_sipush hG d_x_addSeam_56 (by decide) ?_
            exact gm_iret' hF h (by decide) d_x_addSeam_59
    · replace h := gmI_pos c6 h
      refine gm_sipush hG d_x_addSeam_22 (by decide) ?_
      exact gm_iret' hF h (by decide) d_x_addSeam_25
