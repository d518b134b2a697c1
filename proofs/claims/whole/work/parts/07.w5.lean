def Fm_packShelves_7 : Nat → Int → Int → St → (St → Option St) → Option St
  | 0, _, _, _, _ => none
  | n + 1, y1, y2, σ, k => if (σ 133 8) ≤ y2 then k σ else gmG (0 ≤ y2 ∧ y2 < 72) (gmL ((σ 142 (y2).toNat) : Int) (fun x4 => gmB (Fm_shelfFor x4 y1 σ) (fun r6 s5 => gmG (0 ≤ r6 ∧ r6 < 72) (gmG (0 ≤ x4 ∧ x4 < 72) (gmL (gmUp s5 143 (x4).toNat (s5 145 (r6).toNat)) (fun s9 => gmL (gmUp s9 144 (x4).toNat (s9 147 (r6).toNat)) (fun s10 => gmG (gmR ((s10 147 (r6).toNat) + (s10 139 (x4).toNat))) (gmL (gmUp s10 147 (r6).toNat ((s10 147 (r6).toNat) + (s10 139 (x4).toNat))) (fun s12 => gmG (gmR (y2 + 1)) (Fm_packShelves_7 n y1 (y2 + 1) s12 k))))))))))
def Fm_packShelves (a0 : Int) (σ : St) : Option St := gmL (gmUp σ 133 15 0) (fun s1 => Fm_packShelves_7 gmN a0 0 s1 (fun s14 => some s14))
set_option maxRecDepth 100000 in
set_option maxHeartbeats 4000000 in
theorem Wm_packShelves_7 {φ : Fx} {rs : St} (hG : Good φ "GarmentMarkerModel" prog_8_method_39_code 5 1 23) (hF : FinV φ prog_8_method_39_code rs) : ∀ (n : Nat) {y1 : Int} {y2 : Int} {σ : St} {k : St → Option St}, gmR y1 → gmR y2 → Fm_packShelves_7 n y1 y2 σ k = some rs → (∀ {τ : St}, k τ = some rs → J φ τ 78 [] []) → J φ σ 7 [(0, .inr 133), (1, .inl y1), (2, .inl y2)] [] := by
  intro n
  induction n with
  | zero =>
    intro _ _ _ _ _ _ h
    exact absurd h (by rw [Fm_packShelves_7.eq_1]; exact fun q => by cases q)
  | succ n ih =>
    intro y1 y2 σ k r1 r2 h hk
    rw [Fm_packShelves_7.eq_2] at h
    refine gm_ok (fun hO => ?_)
    refine gm_iload_n hG 2 d_m_packShelves_7 rfl rfl ?_
    refine gm_aload_n hG 0 d_m_packShelves_8 rfl rfl ?_
    refine gm_getI hG gmF_6_102 gmKc_133 rfl d_m_packShelves_9 (fun _ => ?_)
    refine gm_icmp_ge (tgt := 78) hG d_m_packShelves_12 (by decide) r2 (hO 133 8) (fun c2 => ?_) (fun c2 => ?_)
    · replace h := gmI_pos c2 h
      refine gm_sub [] rfl ?_
      exact hk h
    · replace h := gmI_neg c2 h
      refine gm_aload_n hG 0 d_m_packShelves_15 rfl rfl ?_
      refine gm_getR (t := 142) hG gmF_6_35 gmKc_133 rfl d_m_packShelves_16 ?_
      refine gm_iload_n hG 2 d_m_packShelves_19 rfl rfl ?_
      obtain ⟨g3, h⟩ := gmG_of h
      refine gm_iald (t := (y2).toNat) hG gmKc_142 gmLc_142 g3 rfl d_m_packShelves_20 (fun _ => ?_)
      obtain ⟨x4, ex4, h⟩ := gmL_of h
      refine gm_top ex4 ?_
      refine gm_istore_n (lv' := [(3, .inl x4), (0, .inr 133), (1, .inl y1), (2, .inl y2)]) hG d_m_packShelves_21 rfl (by decide) rfl ?_
      refine gm_aload_n hG 1 d_m_packShelves_22 rfl rfl ?_
      refine gm_iload_n hG 0 d_m_packShelves_23 rfl rfl ?_
      refine gm_iload_n hG 2 d_m_packShelves_24 rfl rfl ?_
      obtain ⟨r6, s5, es5, h⟩ := gmB_of h
      refine gm_callVi hG [.inl x4, .inl y1] [] gmM_6_122 (Wm_shelfFor (gm_kr ex4 (hO 142 (y2).toNat)) r1 es5) gmKc_133 rfl (by decide) (Nat.le_of_ble_eq_true rfl) rfl d_m_packShelves_25 (fun qr6 => ?_)
      refine gm_ok (fun hOs5 => ?_)
      refine gm_istore (lv' := [(4, .inl r6), (3, .inl x4), (0, .inr 133), (1, .inl y1), (2, .inl y2)]) hG d_m_packShelves_28 (by decide) rfl ?_
      refine gm_aload_n hG 2 d_m_packShelves_30 rfl rfl ?_
      refine gm_getR (t := 143) hG gmF_6_38 gmKc_133 rfl d_m_packShelves_31 ?_
      refine gm_iload_n hG 1 d_m_packShelves_34 rfl rfl ?_
      refine gm_aload_n hG 2 d_m_packShelves_35 rfl rfl ?_
      refine gm_getR (t := 145) hG gmF_6_44 gmKc_133 rfl d_m_packShelves_36 ?_
      refine gm_iload hG 0 d_m_packShelves_39 rfl ?_
      obtain ⟨g7, h⟩ := gmG_of h
      refine gm_iald (t := (r6).toNat) hG gmKc_145 gmLc_145 g7 rfl d_m_packShelves_41 (fun _ => ?_)
      obtain ⟨g8, h⟩ := gmG_of h
      obtain ⟨s9, es9, h⟩ := gmL_of h
      refine gm_iast (t := (x4).toNat) hG gmKc_143 gmLc_143 g8 rfl (hOs5 145 (r6).toNat) es9 d_m_packShelves_42 ?_
      refine gm_ok (fun hOs9 => ?_)
      refine gm_aload_n hG 2 d_m_packShelves_43 rfl rfl ?_
      refine gm_getR (t := 144) hG gmF_6_41 gmKc_133 rfl d_m_packShelves_44 ?_
      refine gm_iload_n hG 1 d_m_packShelves_47 rfl rfl ?_
      refine gm_aload_n hG 2 d_m_packShelves_48 rfl rfl ?_
      refine gm_getR (t := 147) hG gmF_6_50 gmKc_133 rfl d_m_packShelves_49 ?_
      refine gm_iload hG 0 d_m_packShelves_52 rfl ?_
      refine gm_iald (t := (r6).toNat) hG gmKc_147 gmLc_147 g7 rfl d_m_packShelves_54 (fun _ => ?_)
      obtain ⟨s10, es10, h⟩ := gmL_of h
      refine gm_iast (t := (x4).toNat) hG gmKc_144 gmLc_144 g8 rfl (hOs9 147 (r6).toNat) es10 d_m_packShelves_55 ?_
      refine gm_ok (fun hOs10 => ?_)
      refine gm_aload_n hG 2 d_m_packShelves_56 rfl rfl ?_
      refine gm_getR (t := 147) hG gmF_6_50 gmKc_133 rfl d_m_packShelves_57 ?_
      refine gm_iload hG 0 d_m_packShelves_60 rfl ?_
      refine gm_dup2 hG d_m_packShelves_62 ?_
      refine gm_iald (t := (r6).toNat) hG gmKc_147 gmLc_147 g7 rfl d_m_packShelves_63 (fun _ => ?_)
      refine gm_aload_n hG 2 d_m_packShelves_64 rfl rfl ?_
      refine gm_getR (t := 139) hG gmF_6_26 gmKc_133 rfl d_m_packShelves_65 ?_
      refine gm_iload_n hG 1 d_m_packShelves_68 rfl rfl ?_
      refine gm_iald (t := (x4).toNat) hG gmKc_139 gmLc_139 g8 rfl d_m_packShelves_69 (fun _ => ?_)
      refine gm_iadd hG d_m_packShelves_70 ?_
      obtain ⟨g11, h⟩ := gmG_of h
      obtain ⟨s12, es12, h⟩ := gmL_of h
      refine gm_iast (t := (r6).toNat) hG gmKc_147 gmLc_147 g7 rfl g11 es12 d_m_packShelves_71 ?_
      refine gm_ok (fun hOs12 => ?_)
      refine gm_iinc (lv' := [(2, .inl (y2 + 1)), (4, .inl r6), (3, .inl x4), (0, .inr 133), (1, .inl y1)]) hG 4 d_m_packShelves_72 rfl (by decide) rfl ?_
      refine gm_goto (tgt := 7) hG d_m_packShelves_75 (by decide) ?_
      obtain ⟨g13, h⟩ := gmG_of h
      refine gm_sub [3, 4, 0] rfl ?_
      exact ih r1 g13 h hk
set_option maxRecDepth 100000 in
set_option maxHeartbeats 4000000 in
theorem Wm_packShelves {a0 : Int} {σ : St} {rs : St} (ra0 : gmR a0) (h : Fm_packShelves a0 σ = some rs) : Ctr gmY6_packShelves prog_8_method_39_code 5 none 1 23 [.inr 133, .inl a0] σ none rs := by
  refine Ctr.ofV (own := "GarmentMarkerModel") (by decide +kernel) rfl (Nat.le_of_ble_eq_true rfl) (fun φ hG hF => ?_)
  unfold Fm_packShelves at h
  refine gm_lv (l2 := [(0, .inr 133), (1, .inl a0)]) rfl ?_
  refine gm_ok (fun hO => ?_)
  refine gm_aload_n hG 0 d_m_packShelves_0 rfl rfl ?_
  refine gm_iconst hG d_m_packShelves_1 ?_
  obtain ⟨s1, es1, h⟩ := gmL_of h
  refine gm_putI hG gmF_6_119 gmKc_133 rfl rfl (by decide +kernel) (by decide) es1 d_m_packShelves_2 ?_
  refine gm_ok (fun hOs1 => ?_)
  refine gm_iconst hG d_m_packShelves_5 ?_
  refine gm_istore_n (lv' := [(2, .inl 0), (0, .inr 133), (1, .inl a0)]) hG d_m_packShelves_6 rfl (by decide) rfl ?_
  refine gm_sub [1, 2, 0] rfl ?_
  refine Wm_packShelves_7 hG hF gmN ra0 (by decide) h (fun  {s14}  h => ?_)
  refine gm_ok (fun hOs14 => ?_)
  exact gm_vret' hF h d_m_packShelves_78
def Fm_takenFrom_5 : Nat → Int → Int → Int → Int → St → (Int → St → Option (Int × St)) → Option (Int × St)
  | 0, _, _, _, _, _, _ => none
  | n + 1, y1, y2, y3, y4, σ, k => if y2 ≤ y4 then k y3 σ else gmG (0 ≤ (y1 + y4) ∧ (y1 + y4) < 1400) (gmG ((0 : Int) ≤ y3 ∧ (0 : Int) ≤ (σ 148 ((y1 + y4)).toNat)) (gmL ((((y3 : Int).toNat ||| ((σ 148 ((y1 + y4)).toNat) : Int).toNat : Nat) : Int) : Int) (fun x4 => gmG (gmR (y4 + 1)) (Fm_takenFrom_5 n y1 y2 x4 (y4 + 1) σ k))))
def Fm_takenFrom (a0 : Int) (a1 : Int) (σ : St) : Option (Int × St) := Fm_takenFrom_5 gmN a0 a1 0 0 σ (fun x6 s7 => some (x6, s7))
set_option maxRecDepth 100000 in
set_option maxHeartbeats 4000000 in
theorem Wm_takenFrom_5 {φ : Fx} {rv : Int} {rs : St} (hG : Good φ "GarmentMarkerModel" prog_8_method_40_code 5 0 0) (hF : FinI φ prog_8_method_40_code rv rs) : ∀ (n : Nat) {y1 : Int} {y2 : Int} {y3 : Int} {y4 : Int} {σ : St} {k : Int → St → Option (Int × St)}, gmR y1 → gmR y2 → gmR y3 → gmR y4 → Fm_takenFrom_5 n y1 y2 y3 y4 σ k = some (rv, rs) → (∀ {z3 : Int} {τ : St}, gmR z3 → k z3 τ = some (rv, rs) → J φ τ 29 [(3, .inl z3)] []) → J φ σ 5 [(0, .inr 133), (1, .inl y1), (2, .inl y2), (3, .inl y3), (4, .inl y4)] [] := by
  intro n
  induction n with
  | zero =>
    intro _ _ _ _ _ _ _ _ _ _ h
    exact absurd h (by rw [Fm_takenFrom_5.eq_1]; exact fun q => by cases q)
  | succ n ih =>
    intro y1 y2 y3 y4 σ k r1 r2 r3 r4 h hk
    rw [Fm_takenFrom_5.eq_2] at h
    refine gm_ok (fun hO => ?_)
    refine gm_iload hG 4 d_m_takenFrom_5 rfl ?_
    refine gm_iload_n hG 2 d_m_takenFrom_7 rfl rfl ?_
    refine gm_icmp_ge (tgt := 29) hG d_m_takenFrom_8 (by decide) r4 r2 (fun c1 => ?_) (fun c1 => ?_)
    · replace h := gmI_pos c1 h
      refine gm_sub [3] rfl ?_
      exact hk r3 h
    · replace h := gmI_neg c1 h
      refine gm_iload_n hG 3 d_m_takenFrom_11 rfl rfl ?_
      refine gm_aload_n hG 0 d_m_takenFrom_12 rfl rfl ?_
      refine gm_getR (t := 148) hG gmF_6_53 gmKc_133 rfl d_m_takenFrom_13 ?_
      refine gm_iload_n hG 1 d_m_takenFrom_16 rfl rfl ?_
      refine gm_iload hG 4 d_m_takenFrom_17 rfl ?_
      refine gm_iadd hG d_m_takenFrom_19 ?_
      obtain ⟨g2, h⟩ := gmG_of h
      refine gm_iald (t := ((y1 + y4)).toNat) hG gmKc_148 gmLc_148 g2 rfl d_m_takenFrom_20 (fun _ => ?_)
      obtain ⟨g3, h⟩ := gmG_of h
      refine gm_ior hG d_m_takenFrom_21 r3 (hO 148 ((y1 + y4)).toNat) g3 (fun _ => ?_)
      obtain ⟨x4, ex4, h⟩ := gmL_of h
      refine gm_top ex4 ?_
      refine gm_istore_n (lv' := [(3, .inl x4), (0, .inr 133), (1, .inl y1), (2, .inl y2), (4, .inl y4)]) hG d_m_takenFrom_22 rfl (by decide) rfl ?_
      refine gm_iinc (lv' := [(4, .inl (y4 + 1)), (3, .inl x4), (0, .inr 133), (1, .inl y1), (2, .inl y2)]) hG 4 d_m_takenFrom_23 rfl (by decide) rfl ?_
      refine gm_goto (tgt := 5) hG d_m_takenFrom_26 (by decide) ?_
      obtain ⟨g5, h⟩ := gmG_of h
      refine gm_sub [2, 3, 4, 1, 0] rfl ?_
      exact ih r1 r2 (gm_kr ex4 (gm_kor r3 (hO 148 ((y1 + y4)).toNat) g3)) g5 h hk
set_option maxRecDepth 100000 in
set_option maxHeartbeats 4000000 in
theorem Wm_takenFrom {a0 : Int} {a1 : Int} {σ : St} {rv : Int} {rs : St} (ra0 : gmR a0) (ra1 : gmR a1) (h : Fm_takenFrom a0 a1 σ = some (rv, rs)) : Ctr gmY6_takenFrom prog_8_method_40_code 5 (some .int) 0 0 [.inr 133, .inl a0, .inl a1] σ (some rv) rs := by
  refine Ctr.ofI (own := "GarmentMarkerModel") (by decide +kernel) rfl (Nat.le_of_ble_eq_true rfl) (fun φ hG hF => ?_)
  unfold Fm_takenFrom at h
  refine gm_lv (l2 := [(0, .inr 133), (1, .inl a0), (2, .inl a1)]) rfl ?_
  refine gm_ok (fun hO => ?_)
  refine gm_iconst hG d_m_takenFrom_0 ?_
  refine gm_istore_n (lv' := [(3, .inl 0), (0, .inr 133), (1, .inl a0), (2, .inl a1)]) hG d_m_takenFrom_1 rfl (by decide) rfl ?_
  refine gm_iconst hG d_m_takenFrom_2 ?_
  refine gm_istore (lv' := [(4, .inl 0), (3, .inl 0), (0, .inr 133), (1, .inl a0), (2, .inl a1)]) hG d_m_takenFrom_3 (by decide) rfl ?_
  refine gm_sub [2, 3, 4, 1, 0] rfl ?_
  refine Wm_takenFrom_5 hG hF gmN ra0 ra1 (by decide) (by decide) h (fun {x6} {s7} qx6 h => ?_)
  refine gm_ok (fun hOs7 => ?_)
  refine gm_iload_n hG 0 d_m_takenFrom_29 rfl rfl ?_
  exact gm_iret' hF h qx6 d_m_takenFrom_30
def Fm_freeAt_51 : Nat → Int → Int → Int → Int → St → (St → Option (Int × St)) → Option (Int × St)
  | 0, _, _, _, _, _, _ => none
  | n + 1, y4, y5, y6, y7, σ, k => if y6 < y7 then k σ else gmG (((0 : Int) ≤ y5 ∧ 0 ≤ y7 ∧ y7 < 32) ∧ (y5 : Int) * 2 ^ (y7).toNat < 2147483648) (gmG ((0 : Int) ≤ y4 ∧ (0 : Int) ≤ (y5 * 2 ^ (y7).toNat)) (if (((y4 : Int).toNat &&& ((y5 * 2 ^ (y7).toNat) : Int).toNat : Nat) : Int) = 0 then some (y7, σ) else gmG (gmR (y7 + 1)) (Fm_freeAt_51 n y4 y5 y6 (y7 + 1) σ k)))
def Fm_freeAt (a0 : Int) (a1 : Int) (a2 : Int) (σ : St) : Option (Int × St) := gmG (0 ≤ a0 ∧ a0 < 72) (gmB (Fm_takenFrom a1 (σ 140 (a0).toNat) σ) (fun r3 s2 => gmG (((0 : Int) ≤ 1 ∧ 0 ≤ (s2 139 (a0).toNat) ∧ (s2 139 (a0).toNat) < 32) ∧ (1 : Int) * 2 ^ ((s2 139 (a0).toNat)).toNat < 2147483648) (gmL (((1 * 2 ^ ((s2 139 (a0).toNat)).toNat) - 1) : Int) (fun x5 => gmL ((if (s2 141 (a0).toNat) = 0 then (a2 - (s2 139 (a0).toNat)) else 0) : Int) (fun x7 => gmG (gmR x5) (gmG (gmR x7) (Fm_freeAt_51 gmN r3 x5 x7 0 s2 (fun s15 => some ((-1010), s15)))))))))
set_option maxRecDepth 100000 in
set_option maxHeartbeats 4000000 in
theorem Wm_freeAt_51 {φ : Fx} {rv : Int} {rs : St} (hG : Good φ "GarmentMarkerModel" prog_8_method_41_code 8 1 24) (hF : FinI φ prog_8_method_41_code rv rs) : ∀ (n : Nat) {y4 : Int} {y5 : Int} {y6 : Int} {y7 : Int} {σ : St} {k : St → Option (Int × St)}, gmR y4 → gmR y5 → gmR y6 → gmR y7 → Fm_freeAt_51 n y4 y5 y6 y7 σ k = some (rv, rs) → (∀ {τ : St}, k τ = some (rv, rs) → J φ τ 78 [] []) → J φ σ 51 [(4, .inl y4), (5, .inl y5), (6, .inl y6), (7, .inl y7)] [] := by
  intro n
  induction n with
  | zero =>
    intro _ _ _ _ _ _ _ _ _ _ h
    exact absurd h (by rw [Fm_freeAt_51.eq_1]; exact fun q => by cases q)
  | succ n ih =>
    intro y4 y5 y6 y7 σ k r4 r5 r6 r7 h hk
    rw [Fm_freeAt_51.eq_2] at h
    refine gm_ok (fun hO => ?_)
    refine gm_iload hG 3 d_m_freeAt_51 rfl ?_
    refine gm_iload hG 2 d_m_freeAt_53 rfl ?_
    refine gm_icmp_gt (tgt := 78) hG d_m_freeAt_55 (by decide) r7 r6 (fun c8 => ?_) (fun c8 => ?_)
    · replace h := gmI_pos c8 h
      refine gm_sub [] rfl ?_
      exact hk h
    · replace h := gmI_neg c8 h
      refine gm_iload hG 0 d_m_freeAt_58 rfl ?_
      refine gm_iload hG 1 d_m_freeAt_60 rfl ?_
      refine gm_iload hG 3 d_m_freeAt_62 rfl ?_
      obtain ⟨g9, h⟩ := gmG_of h
      refine gm_ishl hG d_m_freeAt_64 g9 (fun _ => ?_)
      obtain ⟨g10, h⟩ := gmG_of h
      refine gm_iand hG d_m_freeAt_65 r4 (gm_kshl g9) g10 (fun _ => ?_)
      refine gm_if_ne (tgt := 72) hG d_m_freeAt_66 (by decide) (gm_kand r4 g10) (fun c11 => ?_) (fun c11 => ?_)
      · replace h := gmI_neg c11 h
        refine gm_iinc (lv' := [(7, .inl (y7 + 1)), (4, .inl y4), (5, .inl y5), (6, .inl y6)]) hG 3 d_m_freeAt_72 rfl (by decide) rfl ?_
        refine gm_goto (tgt := 51) hG d_m_freeAt_75 (by decide) ?_
        obtain ⟨g12, h⟩ := gmG_of h
        refine gm_sub [1, 2, 3, 0] rfl ?_
        exact ih r4 r5 r6 g12 h hk
      · replace h := gmI_pos c11 h
        refine gm_iload hG 3 d_m_freeAt_69 rfl ?_
        exact gm_iret' hF h r7 d_m_freeAt_71
set_option maxRecDepth 100000 in
set_option maxHeartbeats 4000000 in
theorem Wm_freeAt {a0 : Int} {a1 : Int} {a2 : Int} {σ : St} {rv : Int} {rs : St} (ra0 : gmR a0) (ra1 : gmR a1) (ra2 : gmR a2) (h : Fm_freeAt a0 a1 a2 σ = some (rv, rs)) : Ctr gmY6_freeAt prog_8_method_41_code 8 (some .int) 1 24 [.inr 133, .inl a0, .inl a1, .inl a2] σ (some rv) rs := by
  refine Ctr.ofI (own := "GarmentMarkerModel") (by decide +kernel) rfl (Nat.le_of_ble_eq_true rfl) (fun φ hG hF => ?_)
  unfold Fm_freeAt at h
  refine gm_lv (l2 := [(0, .inr 133), (1, .inl a0), (2, .inl a1), (3, .inl a2)]) rfl ?_
  refine gm_ok (fun hO => ?_)
  refine gm_aload_n hG 0 d_m_freeAt_0 rfl rfl ?_
  refine gm_iload_n hG 2 d_m_freeAt_1 rfl rfl ?_
  refine gm_aload_n hG 0 d_m_freeAt_2 rfl rfl ?_
  refine gm_getR (t := 140) hG gmF_6_29 gmKc_133 rfl d_m_freeAt_3 ?_
  refine gm_iload_n hG 1 d_m_freeAt_6 rfl rfl ?_
  obtain ⟨g1, h⟩ := gmG_of h
  refine gm_iald (t := (a0).toNat) hG gmKc_140 gmLc_140 g1 rfl d_m_freeAt_7 (fun _ => ?_)
  obtain ⟨r3, s2, es2, h⟩ := gmB_of h
  refine gm_callVi hG [.inl a1, .inl (σ 140 (a0).toNat)] [] gmM_6_125 (Wm_takenFrom ra1 (hO 140 (a0).toNat) es2) gmKc_133 rfl (by decide) (Nat.le_of_ble_eq_true rfl) rfl d_m_freeAt_8 (fun qr3 => ?_)
  refine gm_ok (fun hOs2 => ?_)
  refine gm_istore (lv' := [(4, .inl r3), (0, .inr 133), (1, .inl a0), (2, .inl a1), (3, .inl a2)]) hG d_m_freeAt_11 (by decide) rfl ?_
  refine gm_iconst hG d_m_freeAt_13 ?_
  refine gm_aload_n hG 1 d_m_freeAt_14 rfl rfl ?_
  refine gm_getR (t := 139) hG gmF_6_26 gmKc_133 rfl d_m_freeAt_15 ?_
  refine gm_iload_n hG 2 d_m_freeAt_18 rfl rfl ?_
  refine gm_iald (t := (a0).toNat) hG gmKc_139 gmLc_139 g1 rfl d_m_freeAt_19 (fun _ => ?_)
  obtain ⟨g4, h⟩ := gmG_of h
  refine gm_ishl hG d_m_freeAt_20 g4 (fun _ => ?_)
  refine gm_iconst hG d_m_freeAt_21 ?_
  refine gm_isub hG d_m_freeAt_22 ?_
  obtain ⟨x5, ex5, h⟩ := gmL_of h
  refine gm_top ex5 ?_
  refine gm_istore (lv' := [(5, .inl x5), (4, .inl r3), (0, .inr 133), (1, .inl a0), (2, .inl a1), (3, .inl a2)]) hG d_m_freeAt_23 (by decide) rfl ?_
  refine gm_aload_n hG 2 d_m_freeAt_25 rfl rfl ?_
  refine gm_getR (t := 141) hG gmF_6_32 gmKc_133 rfl d_m_freeAt_26 ?_
  refine gm_iload_n hG 3 d_m_freeAt_29 rfl rfl ?_
  refine gm_bald (t := (a0).toNat) hG gmKc_141 gmLc_141 g1 rfl d_m_freeAt_30 (fun _ => ?_)
  suffices hj : J φ s2 46 [(5, .inl x5), (4, .inl r3), (0, .inr 133), (1, .inl a0), (2, .inl a1), (3, .inl a2)] [.inl (if (s2 141 (a0).toNat) = 0 then (a2 - (s2 139 (a0).toNat)) else 0)] by
    refine gm_if_eq (tgt := 38) hG d_m_freeAt_31 (by decide) (hOs2 141 (a0).toNat) (fun c6 => ?_) (fun c6 => ?_)
    · replace hj := gmJ_pos c6 hj
      refine gm_iload_n hG 5 d_m_freeAt_38 rfl rfl ?_
      refine gm_aload_n hG 2 d_m_freeAt_39 rfl rfl ?_
      refine gm_getR (t := 139) hG gmF_6_26 gmKc_133 rfl d_m_freeAt_40 ?_
      refine gm_iload_n hG 3 d_m_freeAt_43 rfl rfl ?_
      refine gm_iald (t := (a0).toNat) hG gmKc_139 gmLc_139 g1 rfl d_m_freeAt_44 (fun _ => ?_)
      refine gm_isub hG d_m_freeAt_45 ?_
      exact hj
    · replace hj := gmJ_neg c6 hj
      refine gm_iconst hG d_m_freeAt_34 ?_
      refine gm_goto (tgt := 46) hG d_m_freeAt_35 (by decide) ?_
      exact hj
  obtain ⟨x7, ex7, h⟩ := gmL_of h
  refine gm_top ex7 ?_
  refine gm_istore (lv' := [(6, .inl x7), (5, .inl x5), (4, .inl r3), (0, .inr 133), (1, .inl a0), (2, .inl a1), (3, .inl a2)]) hG d_m_freeAt_46 (by decide) rfl ?_
  refine gm_iconst hG d_m_freeAt_48 ?_
  refine gm_istore (lv' := [(7, .inl 0), (6, .inl x7), (5, .inl x5), (4, .inl r3), (0, .inr 133), (1, .inl a0), (2, .inl a1), (3, .inl a2)]) hG d_m_freeAt_49 (by decide) rfl ?_
  obtain ⟨g13, h⟩ := gmG_of h
  obtain ⟨g14, h⟩ := gmG_of h
  refine gm_sub [3, 2, 1, 0] rfl ?_
  refine Wm_freeAt_51 hG hF gmN qr3 g13 g14 (by decide) h (fun  {s15}  h => ?_)
  refine gm_ok (fun hOs15 => ?_)
  refine gm_sipush hG d_m_freeAt_78 (by decide) ?_
  exact gm_iret' hF h (by decide) d_m_freeAt_81
def Fm_packFree_2 : Nat → Int → Int → St → (St → Option St) → Option St
  | 0, _, _, _, _ => none
  | n + 1, y1, y2, σ, k => if 1400 ≤ y2 then k σ else gmG (0 ≤ y2 ∧ y2 < 1400) (gmL (gmUp σ 148 (y2).toNat 0) (fun s3 => gmG (gmR (y2 + 1)) (Fm_packFree_2 n y1 (y2 + 1) s3 k)))
def Fm_packFree_54 : Nat → Int → Int → Int → Int → Int → St → (Int → Int → St → Option St) → Option St
  | 0, _, _, _, _, _, _, _ => none
  | n + 1, y1, y2, y3, y4, y5, σ, k => if 0 ≤ y5 then k y4 y5 σ else gmG (gmR (y4 + 1)) (gmB (Fm_freeAt y3 (y4 + 1) y1 σ) (fun r14 s13 => Fm_packFree_54 n y1 y2 y3 (y4 + 1) r14 s13 k))
def Fm_packFree_94 : Nat → Int → Int → Int → Int → Int → Int → St → (St → Option St) → Option St
  | 0, _, _, _, _, _, _, _, _ => none
  | n + 1, y1, y2, y3, y4, y5, y6, σ, k => gmG (0 ≤ y3 ∧ y3 < 72) (if (σ 140 (y3).toNat) ≤ y6 then k σ else gmG (0 ≤ (y4 + y6) ∧ (y4 + y6) < 1400) (gmG (((0 : Int) ≤ 1 ∧ 0 ≤ (σ 139 (y3).toNat) ∧ (σ 139 (y3).toNat) < 32) ∧ (1 : Int) * 2 ^ ((σ 139 (y3).toNat)).toNat < 2147483648) (gmG (((0 : Int) ≤ ((1 * 2 ^ ((σ 139 (y3).toNat)).toNat) - 1) ∧ 0 ≤ y5 ∧ y5 < 32) ∧ (((1 * 2 ^ ((σ 139 (y3).toNat)).toNat) - 1) : Int) * 2 ^ (y5).toNat < 2147483648) (gmG ((0 : Int) ≤ (σ 148 ((y4 + y6)).toNat) ∧ (0 : Int) ≤ (((1 * 2 ^ ((σ 139 (y3).toNat)).toNat) - 1) * 2 ^ (y5).toNat)) (gmL (gmUp σ 148 ((y4 + y6)).toNat ((((σ 148 ((y4 + y6)).toNat) : Int).toNat ||| ((((1 * 2 ^ ((σ 139 (y3).toNat)).toNat) - 1) * 2 ^ (y5).toNat) : Int).toNat : Nat) : Int)) (fun s27 => gmG (gmR (y6 + 1)) (Fm_packFree_94 n y1 y2 y3 y4 y5 (y6 + 1) s27 k)))))))
def Fm_packFree_26 : Nat → Int → Int → St → (St → Option St) → Option St
  | 0, _, _, _, _ => none
  | n + 1, y1, y2, σ, k => if (σ 133 8) ≤ y2 then k σ else gmG (0 ≤ y2 ∧ y2 < 72) (gmL ((σ 142 (y2).toNat) : Int) (fun x8 => gmB (Fm_freeAt x8 0 y1 σ) (fun r10 s9 => Fm_packFree_54 gmN y1 y2 x8 0 r10 s9 (fun x15 x16 s17 => gmG (0 ≤ x8 ∧ x8 < 72) (gmL (gmUp s17 143 (x8).toNat x15) (fun s19 => gmL (gmUp s19 144 (x8).toNat x16) (fun s20 => Fm_packFree_94 gmN y1 y2 x8 x15 x16 0 s20 (fun s29 => gmG (gmR (y2 + 1)) (Fm_packFree_26 n y1 (y2 + 1) s29 k)))))))))
def Fm_packFree (a0 : Int) (σ : St) : Option St := Fm_packFree_2 gmN a0 0 σ (fun s5 => Fm_packFree_26 gmN a0 0 s5 (fun s31 => some s31))
set_option maxRecDepth 100000 in
set_option maxHeartbeats 4000000 in
theorem Wm_packFree_2 {φ : Fx} {rs : St} (hG : Good φ "GarmentMarkerModel" prog_8_method_42_code 7 2 51) (hF : FinV φ prog_8_method_42_code rs) : ∀ (n : Nat) {y1 : Int} {y2 : Int} {σ : St} {k : St → Option St}, gmR y1 → gmR y2 → Fm_packFree_2 n y1 y2 σ k = some rs → (∀ {τ : St}, k τ = some rs → J φ τ 24 [(0, .inr 133), (1, .inl y1)] []) → J φ σ 2 [(0, .inr 133), (1, .inl y1), (2, .inl y2)] [] := by
  intro n
  induction n with
  | zero =>
    intro _ _ _ _ _ _ h
    exact absurd h (by rw [Fm_packFree_2.eq_1]; exact fun q => by cases q)
  | succ n ih =>
    intro y1 y2 σ k r1 r2 h hk
    rw [Fm_packFree_2.eq_2] at h
    refine gm_ok (fun hO => ?_)
    refine gm_iload_n hG 2 d_m_packFree_2 rfl rfl ?_
    refine gm_aload_n hG 0 d_m_packFree_3 rfl rfl ?_
    refine gm_getR (t := 148) hG gmF_6_53 gmKc_133 rfl d_m_packFree_4 ?_
    refine gm_alen hG gmKc_148 d_m_packFree_7 ?_
    rw [gmLc_148]
    refine gm_icmp_ge (tgt := 24) hG d_m_packFree_8 (by decide) r2 (by decide) (fun c1 => ?_) (fun c1 => ?_)
    · replace h := gmI_pos c1 h
      refine gm_sub [0, 1] rfl ?_
      exact hk h
    · replace h := gmI_neg c1 h
      refine gm_aload_n hG 0 d_m_packFree_11 rfl rfl ?_
      refine gm_getR (t := 148) hG gmF_6_53 gmKc_133 rfl d_m_packFree_12 ?_
      refine gm_iload_n hG 2 d_m_packFree_15 rfl rfl ?_
      refine gm_iconst hG d_m_packFree_16 ?_
      obtain ⟨g2, h⟩ := gmG_of h
      obtain ⟨s3, es3, h⟩ := gmL_of h
      refine gm_iast (t := (y2).toNat) hG gmKc_148 gmLc_148 g2 rfl (by decide) es3 d_m_packFree_17 ?_
      refine gm_ok (fun hOs3 => ?_)
      refine gm_iinc (lv' := [(2, .inl (y2 + 1)), (0, .inr 133), (1, .inl y1)]) hG 2 d_m_packFree_18 rfl (by decide) rfl ?_
      refine gm_goto (tgt := 2) hG d_m_packFree_21 (by decide) ?_
      obtain ⟨g4, h⟩ := gmG_of h
      refine gm_sub [1, 2, 0] rfl ?_
      exact ih r1 g4 h hk
set_option maxRecDepth 100000 in
set_option maxHeartbeats 4000000 in
theorem Wm_packFree_54 {φ : Fx} {rs : St} (hG : Good φ "GarmentMarkerModel" prog_8_method_42_code 7 2 51) (hF : FinV φ prog_8_method_42_code rs) : ∀ (n : Nat) {y1 : Int} {y2 : Int} {y3 : Int} {y4 : Int} {y5 : Int} {σ : St} {k : Int → Int → St → Option St}, gmR y1 → gmR y2 → gmR y3 → gmR y4 → gmR y5 → Fm_packFree_54 n y1 y2 y3 y4 y5 σ k = some rs → (∀ {z4 : Int} {z5 : Int} {τ : St}, gmR z4 → gmR z5 → k z4 z5 τ = some rs → J φ τ 75 [(0, .inr 133), (1, .inl y1), (2, .inl y2), (3, .inl y3), (4, .inl z4), (5, .inl z5)] []) → J φ σ 54 [(0, .inr 133), (1, .inl y1), (2, .inl y2), (3, .inl y3), (4, .inl y4), (5, .inl y5)] [] := by
  intro n
  induction n with
  | zero =>
    intro _ _ _ _ _ _ _ _ _ _ _ _ h
    exact absurd h (by rw [Fm_packFree_54.eq_1]; exact fun q => by cases q)
  | succ n ih =>
    intro y1 y2 y3 y4 y5 σ k r1 r2 r3 r4 r5 h hk
    rw [Fm_packFree_54.eq_2] at h
    refine gm_ok (fun hO => ?_)
    refine gm_iload hG 5 d_m_packFree_54 rfl ?_
    refine gm_if_ge (tgt := 75) hG d_m_packFree_56 (by decide) r5 (fun c11 => ?_) (fun c11 => ?_)
    · replace h := gmI_pos c11 h
      refine gm_sub [0, 1, 2, 3, 4, 5] rfl ?_
      exact hk r4 r5 h
    · replace h := gmI_neg c11 h
      refine gm_iinc (lv' := [(4, .inl (y4 + 1)), (0, .inr 133), (1, .inl y1), (2, .inl y2), (3, .inl y3), (5, .inl y5)]) hG 4 d_m_packFree_59 rfl (by decide) rfl ?_
      refine gm_aload_n hG 1 d_m_packFree_62 rfl rfl ?_
      refine gm_iload_n hG 4 d_m_packFree_63 rfl rfl ?_
      refine gm_iload hG 0 d_m_packFree_64 rfl ?_
      refine gm_iload_n hG 2 d_m_packFree_66 rfl rfl ?_
      obtain ⟨g12, h⟩ := gmG_of h
      obtain ⟨r14, s13, es13, h⟩ := gmB_of h
      refine gm_callVi hG [.inl y3, .inl (y4 + 1), .inl y1] [] gmM_6_128 (Wm_freeAt r3 g12 r1 es13) gmKc_133 rfl (by decide) (Nat.le_of_ble_eq_true rfl) rfl d_m_packFree_67 (fun qr14 => ?_)
      refine gm_ok (fun hOs13 => ?_)
      refine gm_istore (lv' := [(5, .inl r14), (4, .inl (y4 + 1)), (0, .inr 133), (1, .inl y1), (2, .inl y2), (3, .inl y3)]) hG d_m_packFree_70 (by decide) rfl ?_
      refine gm_goto (tgt := 54) hG d_m_packFree_72 (by decide) ?_
      refine gm_sub [2, 3, 4, 5, 1, 0] rfl ?_
      exact ih r1 r2 r3 g12 qr14 h hk
set_option maxRecDepth 100000 in
set_option maxHeartbeats 4000000 in
theorem Wm_packFree_94 {φ : Fx} {rs : St} (hG : Good φ "GarmentMarkerModel" prog_8_method_42_code 7 2 51) (hF : FinV φ prog_8_method_42_code rs) : ∀ (n : Nat) {y1 : Int} {y2 : Int} {y3 : Int} {y4 : Int} {y5 : Int} {y6 : Int} {σ : St} {k : St → Option St}, gmR y1 → gmR y2 → gmR y3 → gmR y4 → gmR y5 → gmR y6 → Fm_packFree_94 n y1 y2 y3 y4 y5 y6 σ k = some rs → (∀ {τ : St}, k τ = some rs → J φ τ 137 [(0, .inr 133), (1, .inl y1), (2, .inl y2)] []) → J φ σ 94 [(0, .inr 133), (1, .inl y1), (2, .inl y2), (3, .inl y3), (4, .inl y4), (5, .inl y5), (6, .inl y6)] [] := by
  intro n
  induction n with
  | zero =>
    intro _ _ _ _ _ _ _ _ _ _ _ _ _ _ h
    exact absurd h (by rw [Fm_packFree_94.eq_1]; exact fun q => by cases q)
  | succ n ih =>
    intro y1 y2 y3 y4 y5 y6 σ k r1 r2 r3 r4 r5 r6 h hk
    rw [Fm_packFree_94.eq_2] at h
    refine gm_ok (fun hO => ?_)
    refine gm_iload hG 6 d_m_packFree_94 rfl ?_
    refine gm_aload_n hG 0 d_m_packFree_96 rfl rfl ?_
    refine gm_getR (t := 140) hG gmF_6_29 gmKc_133 rfl d_m_packFree_97 ?_
    refine gm_iload_n hG 3 d_m_packFree_100 rfl rfl ?_
    obtain ⟨g21, h⟩ := gmG_of h
    refine gm_iald (t := (y3).toNat) hG gmKc_140 gmLc_140 g21 rfl d_m_packFree_101 (fun _ => ?_)
    refine gm_icmp_ge (tgt := 137) hG d_m_packFree_102 (by decide) r6 (hO 140 (y3).toNat) (fun c22 => ?_) (fun c22 => ?_)
    · replace h := gmI_pos c22 h
      refine gm_sub [0, 1, 2] rfl ?_
      exact hk h
    · replace h := gmI_neg c22 h
      refine gm_aload_n hG 0 d_m_packFree_105 rfl rfl ?_
      refine gm_getR (t := 148) hG gmF_6_53 gmKc_133 rfl d_m_packFree_106 ?_
      refine gm_iload hG 4 d_m_packFree_109 rfl ?_
      refine gm_iload hG 6 d_m_packFree_111 rfl ?_
      refine gm_iadd hG d_m_packFree_113 ?_
      refine gm_dup2 hG d_m_packFree_114 ?_
      obtain ⟨g23, h⟩ := gmG_of h
      refine gm_iald (t := ((y4 + y6)).toNat) hG gmKc_148 gmLc_148 g23 rfl d_m_packFree_115 (fun _ => ?_)
      refine gm_iconst hG d_m_packFree_116 ?_
      refine gm_aload_n hG 0 d_m_packFree_117 rfl rfl ?_
      refine gm_getR (t := 139) hG gmF_6_26 gmKc_133 rfl d_m_packFree_118 ?_
      refine gm_iload_n hG 3 d_m_packFree_121 rfl rfl ?_
      refine gm_iald (t := (y3).toNat) hG gmKc_139 gmLc_139 g21 rfl d_m_packFree_122 (fun _ => ?_)
      obtain ⟨g24, h⟩ := gmG_of h
      refine gm_ishl hG d_m_packFree_123 g24 (fun _ => ?_)
      refine gm_iconst hG d_m_packFree_124 ?_
      refine gm_isub hG d_m_packFree_125 ?_
      refine gm_iload hG 5 d_m_packFree_126 rfl ?_
      obtain ⟨g25, h⟩ := gmG_of h
      refine gm_ishl hG d_m_packFree_128 g25 (fun _ => ?_)
      obtain ⟨g26, h⟩ := gmG_of h
      refine gm_ior hG d_m_packFree_129 (hO 148 ((y4 + y6)).toNat) (gm_kshl g25) g26 (fun _ => ?_)
      obtain ⟨s27, es27, h⟩ := gmL_of h
      refine gm_iast (t := ((y4 + y6)).toNat) hG gmKc_148 gmLc_148 g23 rfl (gm_kor (hO 148 ((y4 + y6)).toNat) (gm_kshl g25) g26) es27 d_m_packFree_130 ?_
      refine gm_ok (fun hOs27 => ?_)
      refine gm_iinc (lv' := [(6, .inl (y6 + 1)), (0, .inr 133), (1, .inl y1), (2, .inl y2), (3, .inl y3), (4, .inl y4), (5, .inl y5)]) hG 6 d_m_packFree_131 rfl (by decide) rfl ?_
      refine gm_goto (tgt := 94) hG d_m_packFree_134 (by decide) ?_
      obtain ⟨g28, h⟩ := gmG_of h
      refine gm_sub [1, 2, 3, 4, 5, 6, 0] rfl ?_
      exact ih r1 r2 r3 r4 r5 g28 h hk
set_option maxRecDepth 100000 in
set_option maxHeartbeats 4000000 in
theorem Wm_packFree_26 {φ : Fx} {rs : St} (hG : Good φ "GarmentMarkerModel" prog_8_method_42_code 7 2 51) (hF : FinV φ prog_8_method_42_code rs) : ∀ (n : Nat) {y1 : Int} {y2 : Int} {σ : St} {k : St → Option St}, gmR y1 → gmR y2 → Fm_packFree_26 n y1 y2 σ k = some rs → (∀ {τ : St}, k τ = some rs → J φ τ 143 [] []) → J φ σ 26 [(0, .inr 133), (1, .inl y1), (2, .inl y2)] [] := by
  intro n
  induction n with
  | zero =>
    intro _ _ _ _ _ _ h
    exact absurd h (by rw [Fm_packFree_26.eq_1]; exact fun q => by cases q)
  | succ n ih =>
    intro y1 y2 σ k r1 r2 h hk
    rw [Fm_packFree_26.eq_2] at h
    refine gm_ok (fun hO => ?_)
    refine gm_iload_n hG 2 d_m_packFree_26 rfl rfl ?_
    refine gm_aload_n hG 0 d_m_packFree_27 rfl rfl ?_
    refine gm_getI hG gmF_6_102 gmKc_133 rfl d_m_packFree_28 (fun _ => ?_)
    refine gm_icmp_ge (tgt := 143) hG d_m_packFree_31 (by decide) r2 (hO 133 8) (fun c6 => ?_) (fun c6 => ?_)
    · replace h := gmI_pos c6 h
      refine gm_sub [] rfl ?_
      exact hk h
    · replace h := gmI_neg c6 h
      refine gm_aload_n hG 0 d_m_packFree_34 rfl rfl ?_
      refine gm_getR (t := 142) hG gmF_6_35 gmKc_133 rfl d_m_packFree_35 ?_
      refine gm_iload_n hG 2 d_m_packFree_38 rfl rfl ?_
      obtain ⟨g7, h⟩ := gmG_of h
      refine gm_iald (t := (y2).toNat) hG gmKc_142 gmLc_142 g7 rfl d_m_packFree_39 (fun _ => ?_)
      obtain ⟨x8, ex8, h⟩ := gmL_of h
      refine gm_top ex8 ?_
      refine gm_istore_n (lv' := [(3, .inl x8), (0, .inr 133), (1, .inl y1), (2, .inl y2)]) hG d_m_packFree_40 rfl (by decide) rfl ?_
      refine gm_iconst hG d_m_packFree_41 ?_
      refine gm_istore (lv' := [(4, .inl 0), (3, .inl x8), (0, .inr 133), (1, .inl y1), (2, .inl y2)]) hG d_m_packFree_42 (by decide) rfl ?_
      refine gm_aload_n hG 2 d_m_packFree_44 rfl rfl ?_
      refine gm_iload_n hG 1 d_m_packFree_45 rfl rfl ?_
      refine gm_iload hG 0 d_m_packFree_46 rfl ?_
      refine gm_iload_n hG 3 d_m_packFree_48 rfl rfl ?_
      obtain ⟨r10, s9, es9, h⟩ := gmB_of h
      refine gm_callVi hG [.inl x8, .inl 0, .inl y1] [] gmM_6_128 (Wm_freeAt (gm_kr ex8 (hO 142 (y2).toNat)) (by decide) r1 es9) gmKc_133 rfl (by decide) (Nat.le_of_ble_eq_true rfl) rfl d_m_packFree_49 (fun qr10 => ?_)
      refine gm_ok (fun hOs9 => ?_)
      refine gm_istore (lv' := [(5, .inl r10), (4, .inl 0), (3, .inl x8), (0, .inr 133), (1, .inl y1), (2, .inl y2)]) hG d_m_packFree_52 (by decide) rfl ?_
      refine gm_sub [3, 4, 5, 2, 1, 0] rfl ?_
      refine Wm_packFree_54 hG hF gmN r1 r2 (gm_kr ex8 (hO 142 (y2).toNat)) (by decide) qr10 h (fun {x15} {x16} {s17} qx15 qx16 h => ?_)
      refine gm_ok (fun hOs17 => ?_)
      refine gm_aload_n hG 0 d_m_packFree_75 rfl rfl ?_
      refine gm_getR (t := 143) hG gmF_6_38 gmKc_133 rfl d_m_packFree_76 ?_
      refine gm_iload_n hG 3 d_m_packFree_79 rfl rfl ?_
      refine gm_iload hG 4 d_m_packFree_80 rfl ?_
      obtain ⟨g18, h⟩ := gmG_of h
      obtain ⟨s19, es19, h⟩ := gmL_of h
      refine gm_iast (t := (x8).toNat) hG gmKc_143 gmLc_143 g18 rfl qx15 es19 d_m_packFree_82 ?_
      refine gm_ok (fun hOs19 => ?_)
      refine gm_aload_n hG 0 d_m_packFree_83 rfl rfl ?_
      refine gm_getR (t := 144) hG gmF_6_41 gmKc_133 rfl d_m_packFree_84 ?_
      refine gm_iload_n hG 3 d_m_packFree_87 rfl rfl ?_
      refine gm_iload hG 5 d_m_packFree_88 rfl ?_
      obtain ⟨s20, es20, h⟩ := gmL_of h
      refine gm_iast (t := (x8).toNat) hG gmKc_144 gmLc_144 g18 rfl qx16 es20 d_m_packFree_90 ?_
      refine gm_ok (fun hOs20 => ?_)
      refine gm_iconst hG d_m_packFree_91 ?_
      refine gm_istore (lv' := [(6, .inl 0), (0, .inr 133), (1, .inl y1), (2, .inl y2), (3, .inl x8), (4, .inl x15), (5, .inl x16)]) hG d_m_packFree_92 (by decide) rfl ?_
      refine gm_sub [1, 2, 3, 4, 5, 6, 0] rfl ?_
      refine Wm_packFree_94 hG hF gmN r1 r2 (gm_kr ex8 (hO 142 (y2).toNat)) qx15 qx16 (by decide) h (fun  {s29}  h => ?_)
      refine gm_ok (fun hOs29 => ?_)
      refine gm_iinc (lv' := [(2, .inl (y2 + 1)), (0, .inr 133), (1, .inl y1)]) hG 2 d_m_packFree_137 rfl (by decide) rfl ?_
      refine gm_goto (tgt := 26) hG d_m_packFree_140 (by decide) ?_
      obtain ⟨g30, h⟩ := gmG_of h
      refine gm_sub [1, 2, 0] rfl ?_
      exact ih r1 g30 h hk
set_option maxRecDepth 100000 in
set_option maxHeartbeats 4000000 in
theorem Wm_packFree {a0 : Int} {σ : St} {rs : St} (ra0 : gmR a0) (h : Fm_packFree a0 σ = some rs) : Ctr gmY6_packFree prog_8_method_42_code 7 none 2 51 [.inr 133, .inl a0] σ none rs := by
  refine Ctr.ofV (own := "GarmentMarkerModel") (by decide +kernel) rfl (Nat.le_of_ble_eq_true rfl) (fun φ hG hF => ?_)
  unfold Fm_packFree at h
  refine gm_lv (l2 := [(0, .inr 133), (1, .inl a0)]) rfl ?_
  refine gm_ok (fun hO => ?_)
  refine gm_iconst hG d_m_packFree_0 ?_
  refine gm_istore_n (lv' := [(2, .inl 0), (0, .inr 133), (1, .inl a0)]) hG d_m_packFree_1 rfl (by decide) rfl ?_
  refine gm_sub [1, 2, 0] rfl ?_
  refine Wm_packFree_2 hG hF gmN ra0 (by decide) h (fun  {s5}  h => ?_)
  refine gm_ok (fun hOs5 => ?_)
  refine gm_iconst hG d_m_packFree_24 ?_
  refine gm_istore_n (lv' := [(2, .inl 0), (0, .inr 133), (1, .inl a0)]) hG d_m_packFree_25 rfl (by decide) rfl ?_
  refine gm_sub [1, 2, 0] rfl ?_
  refine Wm_packFree_26 hG hF gmN ra0 (by decide) h (fun  {s31}  h => ?_)
  refine gm_ok (fun hOs31 => ?_)
  exact gm_vret' hF h d_m_packFree_143
def Fm_pack_12 : Nat → Int → Int → Int → Int → St → (St → Option (Int × St)) → Option (Int × St)
  | 0, _, _, _, _, _, _ => none
  | n + 1, y1, y2, y3, y4, σ, k => if (σ 133 8) ≤ y4 then k σ else gmG (0 ≤ y4 ∧ y4 < 72) (if (σ 139 (y4).toNat) ≤ y3 then gmG (gmR (y4 + 1)) (Fm_pack_12 n y1 y2 y3 (y4 + 1) σ k) else some (0, σ))
def Fm_pack (a0 : Int) (a1 : Int) (σ : St) : Option (Int × St) := gmBv (Fm_layParts σ) (fun s1 => gmB (Fm_stripWidth s1) (fun r3 s2 => Fm_pack_12 gmN a0 a1 r3 0 s2 (fun s8 => gmBv (Fm_layOrder a1 s8) (fun s9 => if a0 = 0 then gmBv (Fm_packShelves r3 s9) (fun s12 => some (1, s12)) else gmBv (Fm_packFree r3 s9) (fun s11 => some (1, s11))))))
set_option maxRecDepth 100000 in
set_option maxHeartbeats 4000000 in
theorem Wm_pack_12 {φ : Fx} {rv : Int} {rs : St} (hG : Good φ "GarmentMarkerModel" prog_8_method_43_code 5 3 77) (hF : FinZ φ prog_8_method_43_code rv rs) : ∀ (n : Nat) {y1 : Int} {y2 : Int} {y3 : Int} {y4 : Int} {σ : St} {k : St → Option (Int × St)}, gmR y1 → gmR y2 → gmR y3 → gmR y4 → Fm_pack_12 n y1 y2 y3 y4 σ k = some (rv, rs) → (∀ {τ : St}, k τ = some (rv, rs) → J φ τ 40 [(0, .inr 133), (1, .inl y1), (2, .inl y2), (3, .inl y3)] []) → J φ σ 12 [(0, .inr 133), (1, .inl y1), (2, .inl y2), (3, .inl y3), (4, .inl y4)] [] := by
  intro n
  induction n with
  | zero =>
    intro _ _ _ _ _ _ _ _ _ _ h
    exact absurd h (by rw [Fm_pack_12.eq_1]; exact fun q => by cases q)
  | succ n ih =>
    intro y1 y2 y3 y4 σ k r1 r2 r3 r4 h hk
    rw [Fm_pack_12.eq_2] at h
    refine gm_ok (fun hO => ?_)
    refine gm_iload hG 4 d_m_pack_12 rfl ?_
    refine gm_aload_n hG 0 d_m_pack_14 rfl rfl ?_
    refine gm_getI hG gmF_6_102 gmKc_133 rfl d_m_pack_15 (fun _ => ?_)
    refine gm_icmp_ge (tgt := 40) hG d_m_pack_18 (by decide) r4 (hO 133 8) (fun c4 => ?_) (fun c4 => ?_)
    · replace h := gmI_pos c4 h
      refine gm_sub [0, 1, 2, 3] rfl ?_
      exact hk h
    · replace h := gmI_neg c4 h
      refine gm_aload_n hG 0 d_m_pack_21 rfl rfl ?_
      refine gm_getR (t := 139) hG gmF_6_26 gmKc_133 rfl d_m_pack_22 ?_
      refine gm_iload hG 4 d_m_pack_25 rfl ?_
      obtain ⟨g5, h⟩ := gmG_of h
      refine gm_iald (t := (y4).toNat) hG gmKc_139 gmLc_139 g5 rfl d_m_pack_27 (fun _ => ?_)
      refine gm_iload_n hG 3 d_m_pack_28 rfl rfl ?_
      refine gm_icmp_le (tgt := 34) hG d_m_pack_29 (by decide) (hO 139 (y4).toNat) r3 (fun c6 => ?_) (fun c6 => ?_)
      · replace h := gmI_pos c6 h
        refine gm_iinc (lv' := [(4, .inl (y4 + 1)), (0, .inr 133), (1, .inl y1), (2, .inl y2), (3, .inl y3)]) hG 4 d_m_pack_34 rfl (by decide) rfl ?_
        refine gm_goto (tgt := 12) hG d_m_pack_37 (by decide) ?_
        obtain ⟨g7, h⟩ := gmG_of h
        refine gm_sub [1, 2, 3, 4, 0] rfl ?_
        exact ih r1 r2 r3 g7 h hk
      · replace h := gmI_neg c6 h
        refine gm_iconst hG d_m_pack_32 ?_
        exact gm_zret' hF h (Or.inl rfl) d_m_pack_33
set_option maxRecDepth 100000 in
set_option maxHeartbeats 4000000 in
theorem Wm_pack {a0 : Int} {a1 : Int} {σ : St} {rv : Int} {rs : St} (ra0 : gmR a0) (ra1 : gmR a1) (h : Fm_pack a0 a1 σ = some (rv, rs)) : Ctr gmY6_pack prog_8_method_43_code 5 (some .boolean) 3 77 [.inr 133, .inl a0, .inl a1] σ (some rv) rs := by
  refine Ctr.ofZ (own := "GarmentMarkerModel") (by decide +kernel) rfl (Nat.le_of_ble_eq_true rfl) (fun φ hG hF => ?_)
  unfold Fm_pack at h
  refine gm_lv (l2 := [(0, .inr 133), (1, .inl a0), (2, .inl a1)]) rfl ?_
  refine gm_ok (fun hO => ?_)
  refine gm_aload_n hG 0 d_m_pack_0 rfl rfl ?_
  obtain ⟨s1, es1, h⟩ := gmBv_of h
  refine gm_callVv hG [] [] gmM_6_110 (Wm_layParts es1) gmKc_133 rfl (by decide) (Nat.le_of_ble_eq_true rfl) rfl d_m_pack_1 ?_
  refine gm_ok (fun hOs1 => ?_)
  refine gm_aload_n hG 0 d_m_pack_4 rfl rfl ?_
  obtain ⟨r3, s2, es2, h⟩ := gmB_of h
  refine gm_callVi hG [] [] gmM_6_98 (Wm_stripWidth es2) gmKc_133 rfl (by decide) (Nat.le_of_ble_eq_true rfl) rfl d_m_pack_5 (fun qr3 => ?_)
  refine gm_ok (fun hOs2 => ?_)
  refine gm_istore_n (lv' := [(3, .inl r3), (0, .inr 133), (1, .inl a0), (2, .inl a1)]) hG d_m_pack_8 rfl (by decide) rfl ?_
  refine gm_iconst hG d_m_pack_9 ?_
  refine gm_istore (lv' := [(4, .inl 0), (3, .inl r3), (0, .inr 133), (1, .inl a0), (2, .inl a1)]) hG d_m_pack_10 (by decide) rfl ?_
  refine gm_sub [2, 3, 4, 1, 0] rfl ?_
  refine Wm_pack_12 hG hF gmN ra0 ra1 qr3 (by decide) h (fun  {s8}  h => ?_)
  refine gm_ok (fun hOs8 => ?_)
  refine gm_aload_n hG 0 d_m_pack_40 rfl rfl ?_
  refine gm_iload_n hG 2 d_m_pack_41 rfl rfl ?_
  obtain ⟨s9, es9, h⟩ := gmBv_of h
  refine gm_callVv hG [.inl a1] [] gmM_6_131 (Wm_layOrder ra1 es9) gmKc_133 rfl (by decide) (Nat.le_of_ble_eq_true rfl) rfl d_m_pack_42 ?_
  refine gm_ok (fun hOs9 => ?_)
  refine gm_iload_n hG 1 d_m_pack_45 rfl rfl ?_
  refine gm_if_ne (tgt := 57) hG d_m_pack_46 (by decide) ra0 (fun c10 => ?_) (fun c10 => ?_)
  · replace h := gmI_neg c10 h
    refine gm_aload_n hG 0 d_m_pack_57 rfl rfl ?_
    refine gm_iload_n hG 3 d_m_pack_58 rfl rfl ?_
    obtain ⟨s11, es11, h⟩ := gmBv_of h
    refine gm_callVv hG [.inl r3] [] gmM_6_137 (Wm_packFree qr3 es11) gmKc_133 rfl (by decide) (Nat.le_of_ble_eq_true rfl) rfl d_m_pack_59 ?_
    refine gm_ok (fun hOs11 => ?_)
    refine gm_iconst hG d_m_pack_62 ?_
    exact gm_zret' hF h (Or.inr rfl) d_m_pack_63
  · replace h := gmI_pos c10 h
    refine gm_aload_n hG 0 d_m_pack_49 rfl rfl ?_
    refine gm_iload_n hG 3 d_m_pack_50 rfl rfl ?_
    obtain ⟨s12, es12, h⟩ := gmBv_of h
    refine gm_callVv hG [.inl r3] [] gmM_6_134 (Wm_packShelves qr3 es12) gmKc_133 rfl (by decide) (Nat.le_of_ble_eq_true rfl) rfl d_m_pack_51 ?_
    refine gm_ok (fun hOs12 => ?_)
    refine gm_goto (tgt := 62) hG d_m_pack_54 (by decide) ?_
    refine gm_iconst hG d_m_pack_62 ?_
    exact gm_zret' hF h (Or.inr rfl) d_m_pack_63
def Fm_packNow (σ : St) : Option (Int × St) := gmB (Fm_pack (σ 134 73) (σ 134 74) σ) (fun r2 s1 => gmG (r2 = 0 ∨ r2 = 1) (some (r2, s1)))
set_option maxRecDepth 100000 in
set_option maxHeartbeats 4000000 in
theorem Wm_packNow {σ : St} {rv : Int} {rs : St} (h : Fm_packNow σ = some (rv, rs)) : Ctr gmY6_packNow prog_8_method_44_code 1 (some .boolean) 4 101 [.inr 133] σ (some rv) rs := by
  refine Ctr.ofZ (own := "GarmentMarkerModel") (by decide +kernel) rfl (Nat.le_of_ble_eq_true rfl) (fun φ hG hF => ?_)
  unfold Fm_packNow at h
  refine gm_lv (l2 := [(0, .inr 133)]) rfl ?_
  refine gm_ok (fun hO => ?_)
  refine gm_aload_n hG 0 d_m_packNow_0 rfl rfl ?_
  refine gm_aload_n hG 0 d_m_packNow_1 rfl rfl ?_
  refine gm_getR (t := 134) hG gmF_6_7 gmKc_133 rfl d_m_packNow_2 ?_
  refine gm_bipush hG d_m_packNow_5 (by decide) ?_
  refine gm_iald (t := 73) hG gmKc_134 gmLc_134 (by decide) rfl d_m_packNow_7 (fun _ => ?_)
  refine gm_aload_n hG 0 d_m_packNow_8 rfl rfl ?_
  refine gm_getR (t := 134) hG gmF_6_7 gmKc_133 rfl d_m_packNow_9 ?_
  refine gm_bipush hG d_m_packNow_12 (by decide) ?_
  refine gm_iald (t := 74) hG gmKc_134 gmLc_134 (by decide) rfl d_m_packNow_14 (fun _ => ?_)
  obtain ⟨r2, s1, es1, h⟩ := gmB_of h
  refine gm_callVi hG [.inl (σ 134 73), .inl (σ 134 74)] [] gmM_6_140 (Wm_pack (hO 134 73) (hO 134 74) es1) gmKc_133 rfl (by decide) (Nat.le_of_ble_eq_true rfl) rfl d_m_packNow_15 (fun qr2 => ?_)
  refine gm_ok (fun hOs1 => ?_)
  obtain ⟨g3, h⟩ := gmG_of h
  exact gm_zret' hF h g3 d_m_packNow_18
def Fm_packedLength_4 : Nat → Int → Int → St → (Int → St → Option (Int × St)) → Option (Int × St)
  | 0, _, _, _, _ => none
  | n + 1, y1, y2, σ, k => if (σ 133 8) ≤ y2 then k y1 σ else gmG (0 ≤ y2 ∧ y2 < 72) (gmG (gmR ((σ 143 (y2).toNat) + (σ 140 (y2).toNat))) (gmL ((if ((σ 143 (y2).toNat) + (σ 140 (y2).toNat)) ≤ y1 then y1 else ((σ 143 (y2).toNat) + (σ 140 (y2).toNat))) : Int) (fun x5 => gmG (gmR x5) (gmG (gmR (y2 + 1)) (Fm_packedLength_4 n x5 (y2 + 1) σ k)))))
def Fm_packedLength (σ : St) : Option (Int × St) := Fm_packedLength_4 gmN 0 0 σ (fun x8 s9 => some (x8, s9))
set_option maxRecDepth 100000 in
set_option maxHeartbeats 4000000 in
theorem Wm_packedLength_4 {φ : Fx} {rv : Int} {rs : St} (hG : Good φ "GarmentMarkerModel" prog_8_method_45_code 3 0 0) (hF : FinI φ prog_8_method_45_code rv rs) : ∀ (n : Nat) {y1 : Int} {y2 : Int} {σ : St} {k : Int → St → Option (Int × St)}, gmR y1 → gmR y2 → Fm_packedLength_4 n y1 y2 σ k = some (rv, rs) → (∀ {z1 : Int} {τ : St}, gmR z1 → k z1 τ = some (rv, rs) → J φ τ 53 [(1, .inl z1)] []) → J φ σ 4 [(0, .inr 133), (1, .inl y1), (2, .inl y2)] [] := by
  intro n
  induction n with
  | zero =>
    intro _ _ _ _ _ _ h
    exact absurd h (by rw [Fm_packedLength_4.eq_1]; exact fun q => by cases q)
  | succ n ih =>
    intro y1 y2 σ k r1 r2 h hk
    rw [Fm_packedLength_4.eq_2] at h
    refine gm_ok (fun hO => ?_)
    refine gm_iload_n hG 2 d_m_packedLength_4 rfl rfl ?_
    refine gm_aload_n hG 0 d_m_packedLength_5 rfl rfl ?_
    refine gm_getI hG gmF_6_102 gmKc_133 rfl d_m_packedLength_6 (fun _ => ?_)
    refine gm_icmp_ge (tgt := 53) hG d_m_packedLength_9 (by decide) r2 (hO 133 8) (fun c1 => ?_) (fun c1 => ?_)
    · replace h := gmI_pos c1 h
      refine gm_sub [1] rfl ?_
      exact hk r1 h
    · replace h := gmI_neg c1 h
      refine gm_aload_n hG 0 d_m_packedLength_12 rfl rfl ?_
      refine gm_getR (t := 143) hG gmF_6_38 gmKc_133 rfl d_m_packedLength_13 ?_
      refine gm_iload_n hG 2 d_m_packedLength_16 rfl rfl ?_
      obtain ⟨g2, h⟩ := gmG_of h
      refine gm_iald (t := (y2).toNat) hG gmKc_143 gmLc_143 g2 rfl d_m_packedLength_17 (fun _ => ?_)
      refine gm_aload_n hG 0 d_m_packedLength_18 rfl rfl ?_
      refine gm_getR (t := 140) hG gmF_6_29 gmKc_133 rfl d_m_packedLength_19 ?_
      refine gm_iload_n hG 2 d_m_packedLength_22 rfl rfl ?_
      refine gm_iald (t := (y2).toNat) hG gmKc_140 gmLc_140 g2 rfl d_m_packedLength_23 (fun _ => ?_)
      refine gm_iadd hG d_m_packedLength_24 ?_
      refine gm_iload_n hG 1 d_m_packedLength_25 rfl rfl ?_
      obtain ⟨g3, h⟩ := gmG_of h
      suffices hj : J φ σ 46 [(0, .inr 133), (1, .inl y1), (2, .inl y2)] [.inl (if ((σ 143 (y2).toNat) + (σ 140 (y2).toNat)) ≤ y1 then y1 else ((σ 143 (y2).toNat) + (σ 140 (y2).toNat)))] by
        refine gm_icmp_le (tgt := 45) hG d_m_packedLength_26 (by decide) g3 r1 (fun c4 => ?_) (fun c4 => ?_)
        · replace hj := gmJ_pos c4 hj
          refine gm_iload_n hG 1 d_m_packedLength_45 rfl rfl ?_
          exact hj
        · replace hj := gmJ_neg c4 hj
          refine gm_aload_n hG 0 d_m_packedLength_29 rfl rfl ?_
          refine gm_getR (t := 143) hG gmF_6_38 gmKc_133 rfl d_m_packedLength_30 ?_
          refine gm_iload_n hG 2 d_m_packedLength_33 rfl rfl ?_
          refine gm_iald (t := (y2).toNat) hG gmKc_143 gmLc_143 g2 rfl d_m_packedLength_34 (fun _ => ?_)
          refine gm_aload_n hG 0 d_m_packedLength_35 rfl rfl ?_
          refine gm_getR (t := 140) hG gmF_6_29 gmKc_133 rfl d_m_packedLength_36 ?_
          refine gm_iload_n hG 2 d_m_packedLength_39 rfl rfl ?_
          refine gm_iald (t := (y2).toNat) hG gmKc_140 gmLc_140 g2 rfl d_m_packedLength_40 (fun _ => ?_)
          refine gm_iadd hG d_m_packedLength_41 ?_
          refine gm_goto (tgt := 46) hG d_m_packedLength_42 (by decide) ?_
          exact hj
      obtain ⟨x5, ex5, h⟩ := gmL_of h
      refine gm_top ex5 ?_
      refine gm_istore_n (lv' := [(1, .inl x5), (0, .inr 133), (2, .inl y2)]) hG d_m_packedLength_46 rfl (by decide) rfl ?_
      refine gm_iinc (lv' := [(2, .inl (y2 + 1)), (1, .inl x5), (0, .inr 133)]) hG 2 d_m_packedLength_47 rfl (by decide) rfl ?_
      refine gm_goto (tgt := 4) hG d_m_packedLength_50 (by decide) ?_
      obtain ⟨g6, h⟩ := gmG_of h
      obtain ⟨g7, h⟩ := gmG_of h
      refine gm_sub [2, 1, 0] rfl ?_
      exact ih g6 g7 h hk
set_option maxRecDepth 100000 in
set_option maxHeartbeats 4000000 in
theorem Wm_packedLength {σ : St} {rv : Int} {rs : St} (h : Fm_packedLength σ = some (rv, rs)) : Ctr gmY6_packedLength prog_8_method_45_code 3 (some .int) 0 0 [.inr 133] σ (some rv) rs := by
  refine Ctr.ofI (own := "GarmentMarkerModel") (by decide +kernel) rfl (Nat.le_of_ble_eq_true rfl) (fun φ hG hF => ?_)
  unfold Fm_packedLength at h
  refine gm_lv (l2 := [(0, .inr 133)]) rfl ?_
  refine gm_ok (fun hO => ?_)
  refine gm_iconst hG d_m_packedLength_0 ?_
  refine gm_istore_n (lv' := [(1, .inl 0), (0, .inr 133)]) hG d_m_packedLength_1 rfl (by decide) rfl ?_
  refine gm_iconst hG d_m_packedLength_2 ?_
  refine gm_istore_n (lv' := [(2, .inl 0), (1, .inl 0), (0, .inr 133)]) hG d_m_packedLength_3 rfl (by decide) rfl ?_
  refine gm_sub [2, 1, 0] rfl ?_
  refine Wm_packedLength_4 hG hF gmN (by decide) (by decide) h (fun {x8} {s9} qx8 h => ?_)
  refine gm_ok (fun hOs9 => ?_)
  refine gm_iload_n hG 0 d_m_packedLength_53 rfl rfl ?_
  exact gm_iret' hF h qx8 d_m_packedLength_54
def Fm_lengthBy (a0 : Int) (a1 : Int) (σ : St) : Option (Int × St) := gmB (Fm_pack a0 a1 σ) (fun r2 s1 => if r2 = 0 then some ((-1007), s1) else gmB (Fm_packedLength s1) (fun r5 s4 => some (r5, s4)))
set_option maxRecDepth 100000 in
set_option maxHeartbeats 4000000 in
theorem Wm_lengthBy {a0 : Int} {a1 : Int} {σ : St} {rv : Int} {rs : St} (ra0 : gmR a0) (ra1 : gmR a1) (h : Fm_lengthBy a0 a1 σ = some (rv, rs)) : Ctr gmY6_lengthBy prog_8_method_46_code 3 (some .int) 4 101 [.inr 133, .inl a0, .inl a1] σ (some rv) rs := by
  refine Ctr.ofI (own := "GarmentMarkerModel") (by decide +kernel) rfl (Nat.le_of_ble_eq_true rfl) (fun φ hG hF => ?_)
  unfold Fm_lengthBy at h
  refine gm_lv (l2 := [(0, .inr 133), (1, .inl a0), (2, .inl a1)]) rfl ?_
  refine gm_ok (fun hO => ?_)
  refine gm_aload_n hG 0 d_m_lengthBy_0 rfl rfl ?_
  refine gm_iload_n hG 1 d_m_lengthBy_1 rfl rfl ?_
  refine gm_iload_n hG 2 d_m_lengthBy_2 rfl rfl ?_
  obtain ⟨r2, s1, es1, h⟩ := gmB_of h
  refine gm_callVi hG [.inl a0, .inl a1] [] gmM_6_140 (Wm_pack ra0 ra1 es1) gmKc_133 rfl (by decide) (Nat.le_of_ble_eq_true rfl) rfl d_m_lengthBy_3 (fun qr2 => ?_)
  refine gm_ok (fun hOs1 => ?_)
  refine gm_if_eq (tgt := 16) hG d_m_lengthBy_6 (by decide) qr2 (fun c3 => ?_) (fun c3 => ?_)
  · replace h := gmI_pos c3 h
    refine gm_sipush hG d_m_lengthBy_16 (by decide) ?_
    exact gm_iret' hF h (by decide) d_m_lengthBy_19
  · replace h := gmI_neg c3 h
    refine gm_aload_n hG 0 d_m_lengthBy_9 rfl rfl ?_
    obtain ⟨r5, s4, es4, h⟩ := gmB_of h
    refine gm_callVi hG [] [] gmM_6_143 (Wm_packedLength es4) gmKc_133 rfl (by decide) (Nat.le_of_ble_eq_true rfl) rfl d_m_lengthBy_10 (fun qr5 => ?_)
    refine gm_ok (fun hOs4 => ?_)
    refine gm_goto (tgt := 19) hG d_m_lengthBy_13 (by decide) ?_
    exact gm_iret' hF h qr5 d_m_lengthBy_19
def Fm_lengthNow (σ : St) : Option (Int × St) := gmB (Fm_lengthBy (σ 134 73) (σ 134 74) σ) (fun r2 s1 => some (r2, s1))
set_option maxRecDepth 100000 in
set_option maxHeartbeats 4000000 in
theorem Wm_lengthNow {σ : St} {rv : Int} {rs : St} (h : Fm_lengthNow σ = some (rv, rs)) : Ctr gmY6_lengthNow prog_8_method_47_code 1 (some .int) 5 123 [.inr 133] σ (some rv) rs := by
  refine Ctr.ofI (own := "GarmentMarkerModel") (by decide +kernel) rfl (Nat.le_of_ble_eq_true rfl) (fun φ hG hF => ?_)
  unfold Fm_lengthNow at h
  refine gm_lv (l2 := [(0, .inr 133)]) rfl ?_
  refine gm_ok (fun hO => ?_)
  refine gm_aload_n hG 0 d_m_lengthNow_0 rfl rfl ?_
  refine gm_aload_n hG 0 d_m_lengthNow_1 rfl rfl ?_
  refine gm_getR (t := 134) hG gmF_6_7 gmKc_133 rfl d_m_lengthNow_2 ?_
  refine gm_bipush hG d_m_lengthNow_5 (by decide) ?_
  refine gm_iald (t := 73) hG gmKc_134 gmLc_134 (by decide) rfl d_m_lengthNow_7 (fun _ => ?_)
  refine gm_aload_n hG 0 d_m_lengthNow_8 rfl rfl ?_
  refine gm_getR (t := 134) hG gmF_6_7 gmKc_133 rfl d_m_lengthNow_9 ?_
  refine gm_bipush hG d_m_lengthNow_12 (by decide) ?_
  refine gm_iald (t := 74) hG gmKc_134 gmLc_134 (by decide) rfl d_m_lengthNow_14 (fun _ => ?_)
  obtain ⟨r2, s1, es1, h⟩ := gmB_of h
  refine gm_callVi hG [.inl (σ 134 73), .inl (σ 134 74)] [] gmM_6_146 (Wm_lengthBy (hO 134 73) (hO 134 74) es1) gmKc_133 rfl (by decide) (Nat.le_of_ble_eq_true rfl) rfl d_m_lengthNow_15 (fun qr2 => ?_)
  refine gm_ok (fun hOs1 => ?_)
  exact gm_iret' hF h qr2 d_m_lengthNow_18
def Fm_partAlong (a0 : Int) (σ : St) : Option (Int × St) := gmB (Fm_isPart a0 σ) (fun r2 s1 => if r2 = 0 then some ((-1004), s1) else gmB (Fm_packNow s1) (fun r5 s4 => gmG ((¬ r5 = 0) → 0 ≤ a0 ∧ a0 < 72) (some ((if r5 = 0 then (-1007) else (s4 143 (a0).toNat)), s4))))
set_option maxRecDepth 100000 in
set_option maxHeartbeats 4000000 in
theorem Wm_partAlong {a0 : Int} {σ : St} {rv : Int} {rs : St} (ra0 : gmR a0) (h : Fm_partAlong a0 σ = some (rv, rs)) : Ctr gmY6_partAlong prog_8_method_48_code 2 (some .int) 5 121 [.inr 133, .inl a0] σ (some rv) rs := by
  refine Ctr.ofI (own := "GarmentMarkerModel") (by decide +kernel) rfl (Nat.le_of_ble_eq_true rfl) (fun φ hG hF => ?_)
  unfold Fm_partAlong at h
  refine gm_lv (l2 := [(0, .inr 133), (1, .inl a0)]) rfl ?_
  refine gm_ok (fun hO => ?_)
  refine gm_aload_n hG 0 d_m_partAlong_0 rfl rfl ?_
  refine gm_iload_n hG 1 d_m_partAlong_1 rfl rfl ?_
  obtain ⟨r2, s1, es1, h⟩ := gmB_of h
  refine gm_callVi hG [.inl a0] [] gmM_6_113 (Wm_isPart ra0 es1) gmKc_133 rfl (by decide) (Nat.le_of_ble_eq_true rfl) rfl d_m_partAlong_2 (fun qr2 => ?_)
  refine gm_ok (fun hOs1 => ?_)
  refine gm_if_ne (tgt := 12) hG d_m_partAlong_5 (by decide) qr2 (fun c3 => ?_) (fun c3 => ?_)
  · replace h := gmI_neg c3 h
    refine gm_aload_n hG 0 d_m_partAlong_12 rfl rfl ?_
    obtain ⟨r5, s4, es4, h⟩ := gmB_of h
    refine gm_callVi hG [] [] gmM_6_149 (Wm_packNow es4) gmKc_133 rfl (by decide) (Nat.le_of_ble_eq_true rfl) rfl d_m_partAlong_13 (fun qr5 => ?_)
    refine gm_ok (fun hOs4 => ?_)
    obtain ⟨g7, h⟩ := gmG_of h
    suffices hj : J φ s4 31 [(0, .inr 133), (1, .inl a0)] [.inl (if r5 = 0 then (-1007) else (s4 143 (a0).toNat))] by
      refine gm_if_eq (tgt := 28) hG d_m_partAlong_16 (by decide) qr5 (fun c6 => ?_) (fun c6 => ?_)
      · replace hj := gmJ_pos c6 hj
        refine gm_sipush hG d_m_partAlong_28 (by decide) ?_
        exact hj
      · replace hj := gmJ_neg c6 hj
        refine gm_aload_n hG 0 d_m_partAlong_19 rfl rfl ?_
        refine gm_getR (t := 143) hG gmF_6_38 gmKc_133 rfl d_m_partAlong_20 ?_
        refine gm_iload_n hG 1 d_m_partAlong_23 rfl rfl ?_
        refine gm_iald (t := (a0).toNat) hG gmKc_143 gmLc_143 (g7 c6) rfl d_m_partAlong_24 (fun _ => ?_)
        refine gm_goto (tgt := 31) hG d_m_partAlong_25 (by decide) ?_
        exact hj
    exact gm_iret' hF h (gmR_ite (fun c6 => (by decide)) (fun c6 => (hOs4 143 (a0).toNat))) d_m_partAlong_31
  · replace h := gmI_pos c3 h
    refine gm_sipush hG d_m_partAlong_8 (by decide) ?_
    exact gm_iret' hF h (by decide) d_m_partAlong_11
def Fm_partAcross (a0 : Int) (σ : St) : Option (Int × St) := gmB (Fm_isPart a0 σ) (fun r2 s1 => if r2 = 0 then some ((-1004), s1) else gmB (Fm_packNow s1) (fun r5 s4 => gmG ((¬ r5 = 0) → 0 ≤ a0 ∧ a0 < 72) (some ((if r5 = 0 then (-1007) else (s4 144 (a0).toNat)), s4))))
set_option maxRecDepth 100000 in
set_option maxHeartbeats 4000000 in
theorem Wm_partAcross {a0 : Int} {σ : St} {rv : Int} {rs : St} (ra0 : gmR a0) (h : Fm_partAcross a0 σ = some (rv, rs)) : Ctr gmY6_partAcross prog_8_method_49_code 2 (some .int) 5 121 [.inr 133, .inl a0] σ (some rv) rs := by
  refine Ctr.ofI (own := "GarmentMarkerModel") (by decide +kernel) rfl (Nat.le_of_ble_eq_true rfl) (fun φ hG hF => ?_)
  unfold Fm_partAcross at h
  refine gm_lv (l2 := [(0, .inr 133), (1, .inl a0)]) rfl ?_
  refine gm_ok (fun hO => ?_)
  refine gm_aload_n hG 0 d_m_partAcross_0 rfl rfl ?_
  refine gm_iload_n hG 1 d_m_partAcross_1 rfl rfl ?_
  obtain ⟨r2, s1, es1, h⟩ := gmB_of h
  refine gm_callVi hG [.inl a0] [] gmM_6_113 (Wm_isPart ra0 es1) gmKc_133 rfl (by decide) (Nat.le_of_ble_eq_true rfl) rfl d_m_partAcross_2 (fun qr2 => ?_)
  refine gm_ok (fun hOs1 => ?_)
  refine gm_if_ne (tgt := 12) hG d_m_partAcross_5 (by decide) qr2 (fun c3 => ?_) (fun c3 => ?_)
  · replace h := gmI_neg c3 h
    refine gm_aload_n hG 0 d_m_partAcross_12 rfl rfl ?_
    obtain ⟨r5, s4, es4, h⟩ := gmB_of h
    refine gm_callVi hG [] [] gmM_6_149 (Wm_packNow es4) gmKc_133 rfl (by decide) (Nat.le_of_ble_eq_true rfl) rfl d_m_partAcross_13 (fun qr5 => ?_)
    refine gm_ok (fun hOs4 => ?_)
    obtain ⟨g7, h⟩ := gmG_of h
    suffices hj : J φ s4 31 [(0, .inr 133), (1, .inl a0)] [.inl (if r5 = 0 then (-1007) else (s4 144 (a0).toNat))] by
      refine gm_if_eq (tgt := 28) hG d_m_partAcross_16 (by decide) qr5 (fun c6 => ?_) (fun c6 => ?_)
      · replace hj := gmJ_pos c6 hj
        refine gm_sipush hG d_m_partAcross_28 (by decide) ?_
        exact hj
      · replace hj := gmJ_neg c6 hj
        refine gm_aload_n hG 0 d_m_partAcross_19 rfl rfl ?_
        refine gm_getR (t := 144) hG gmF_6_41 gmKc_133 rfl d_m_partAcross_20 ?_
        refine gm_iload_n hG 1 d_m_partAcross_23 rfl rfl ?_
        refine gm_iald (t := (a0).toNat) hG gmKc_144 gmLc_144 (g7 c6) rfl d_m_partAcross_24 (fun _ => ?_)
        refine gm_goto (tgt := 31) hG d_m_partAcross_25 (by decide) ?_
        exact hj
    exact gm_iret' hF h (gmR_ite (fun c6 => (by decide)) (fun c6 => (hOs4 144 (a0).toNat))) d_m_partAcross_31
  · replace h := gmI_pos c3 h
    refine gm_sipush hG d_m_partAcross_8 (by decide) ?_
    exact gm_iret' hF h (by decide) d_m_partAcross_11
def Fm_partAlongExtent (a0 : Int) (σ : St) : Option (Int × St) := gmB (Fm_isPart a0 σ) (fun r2 s1 => gmG ((¬ r2 = 0) → 0 ≤ a0 ∧ a0 < 72) (some ((if r2 = 0 then (-1004) else (s1 140 (a0).toNat)), s1)))
set_option maxRecDepth 100000 in
set_option maxHeartbeats 4000000 in
theorem Wm_partAlongExtent {a0 : Int} {σ : St} {rv : Int} {rs : St} (ra0 : gmR a0) (h : Fm_partAlongExtent a0 σ = some (rv, rs)) : Ctr gmY6_partAlongExtent prog_8_method_50_code 2 (some .int) 4 95 [.inr 133, .inl a0] σ (some rv) rs := by
  refine Ctr.ofI (own := "GarmentMarkerModel") (by decide +kernel) rfl (Nat.le_of_ble_eq_true rfl) (fun φ hG hF => ?_)
  unfold Fm_partAlongExtent at h
  refine gm_lv (l2 := [(0, .inr 133), (1, .inl a0)]) rfl ?_
  refine gm_ok (fun hO => ?_)
  refine gm_aload_n hG 0 d_m_partAlongExtent_0 rfl rfl ?_
  refine gm_iload_n hG 1 d_m_partAlongExtent_1 rfl rfl ?_
  obtain ⟨r2, s1, es1, h⟩ := gmB_of h
  refine gm_callVi hG [.inl a0] [] gmM_6_113 (Wm_isPart ra0 es1) gmKc_133 rfl (by decide) (Nat.le_of_ble_eq_true rfl) rfl d_m_partAlongExtent_2 (fun qr2 => ?_)
  refine gm_ok (fun hOs1 => ?_)
  obtain ⟨g4, h⟩ := gmG_of h
  suffices hj : J φ s1 20 [(0, .inr 133), (1, .inl a0)] [.inl (if r2 = 0 then (-1004) else (s1 140 (a0).toNat))] by
    refine gm_if_eq (tgt := 17) hG d_m_partAlongExtent_5 (by decide) qr2 (fun c3 => ?_) (fun c3 => ?_)
    · replace hj := gmJ_pos c3 hj
      refine gm_sipush hG d_m_partAlongExtent_17 (by decide) ?_
      exact hj
    · replace hj := gmJ_neg c3 hj
      refine gm_aload_n hG 0 d_m_partAlongExtent_8 rfl rfl ?_
      refine gm_getR (t := 140) hG gmF_6_29 gmKc_133 rfl d_m_partAlongExtent_9 ?_
      refine gm_iload_n hG 1 d_m_partAlongExtent_12 rfl rfl ?_
      refine gm_iald (t := (a0).toNat) hG gmKc_140 gmLc_140 (g4 c3) rfl d_m_partAlongExtent_13 (fun _ => ?_)
      refine gm_goto (tgt := 20) hG d_m_partAlongExtent_14 (by decide) ?_
      exact hj
  exact gm_iret' hF h (gmR_ite (fun c3 => (by decide)) (fun c3 => (hOs1 140 (a0).toNat))) d_m_partAlongExtent_20
def Fm_partAcrossExtent (a0 : Int) (σ : St) : Option (Int × St) := gmB (Fm_isPart a0 σ) (fun r2 s1 => gmG ((¬ r2 = 0) → 0 ≤ a0 ∧ a0 < 72) (some ((if r2 = 0 then (-1004) else (s1 139 (a0).toNat)), s1)))
set_option maxRecDepth 100000 in
set_option maxHeartbeats 4000000 in
theorem Wm_partAcrossExtent {a0 : Int} {σ : St} {rv : Int} {rs : St} (ra0 : gmR a0) (h : Fm_partAcrossExtent a0 σ = some (rv, rs)) : Ctr gmY6_partAcrossExtent prog_8_method_51_code 2 (some .int) 4 95 [.inr 133, .inl a0] σ (some rv) rs := by
  refine Ctr.ofI (own := "GarmentMarkerModel") (by decide +kernel) rfl (Nat.le_of_ble_eq_true rfl) (fun φ hG hF => ?_)
  unfold Fm_partAcrossExtent at h
  refine gm_lv (l2 := [(0, .inr 133), (1, .inl a0)]) rfl ?_
  refine gm_ok (fun hO => ?_)
  refine gm_aload_n hG 0 d_m_partAcrossExtent_0 rfl rfl ?_
  refine gm_iload_n hG 1 d_m_partAcrossExtent_1 rfl rfl ?_
  obtain ⟨r2, s1, es1, h⟩ := gmB_of h
  refine gm_callVi hG [.inl a0] [] gmM_6_113 (Wm_isPart ra0 es1) gmKc_133 rfl (by decide) (Nat.le_of_ble_eq_true rfl) rfl d_m_partAcrossExtent_2 (fun qr2 => ?_)
  refine gm_ok (fun hOs1 => ?_)
  obtain ⟨g4, h⟩ := gmG_of h
  suffices hj : J φ s1 20 [(0, .inr 133), (1, .inl a0)] [.inl (if r2 = 0 then (-1004) else (s1 139 (a0).toNat))] by
    refine gm_if_eq (tgt := 17) hG d_m_partAcrossExtent_5 (by decide) qr2 (fun c3 => ?_) (fun c3 => ?_)
    · replace hj := gmJ_pos c3 hj
      refine gm_sipush hG d_m_partAcrossExtent_17 (by decide) ?_
      exact hj
    · replace hj := gmJ_neg c3 hj
      refine gm_aload_n hG 0 d_m_partAcrossExtent_8 rfl rfl ?_
      refine gm_getR (t := 139) hG gmF_6_26 gmKc_133 rfl d_m_partAcrossExtent_9 ?_
      refine gm_iload_n hG 1 d_m_partAcrossExtent_12 rfl rfl ?_
      refine gm_iald (t := (a0).toNat) hG gmKc_139 gmLc_139 (g4 c3) rfl d_m_partAcrossExtent_13 (fun _ => ?_)
      refine gm_goto (tgt := 20) hG d_m_partAcrossExtent_14 (by decide) ?_
      exact hj
  exact gm_iret' hF h (gmR_ite (fun c3 => (by decide)) (fun c3 => (hOs1 139 (a0).toNat))) d_m_partAcrossExtent_20
def Fm_markerLength (σ : St) : Option (Int × St) := gmB (Fm_lengthNow σ) (fun r2 s1 => some (r2, s1))
set_option maxRecDepth 100000 in
set_option maxHeartbeats 4000000 in
theorem Wm_markerLength {σ : St} {rv : Int} {rs : St} (h : Fm_markerLength σ = some (rv, rs)) : Ctr gmY6_markerLength prog_8_method_52_code 1 (some .int) 6 143 [.inr 133] σ (some rv) rs := by
  refine Ctr.ofI (own := "GarmentMarkerModel") (by decide +kernel) rfl (Nat.le_of_ble_eq_true rfl) (fun φ hG hF => ?_)
  unfold Fm_markerLength at h
  refine gm_lv (l2 := [(0, .inr 133)]) rfl ?_
  refine gm_ok (fun hO => ?_)
  refine gm_aload_n hG 0 d_m_markerLength_0 rfl rfl ?_
  obtain ⟨r2, s1, es1, h⟩ := gmB_of h
  refine gm_callVi hG [] [] gmM_6_153 (Wm_lengthNow es1) gmKc_133 rfl (by decide) (Nat.le_of_ble_eq_true rfl) rfl d_m_markerLength_1 (fun qr2 => ?_)
  refine gm_ok (fun hOs1 => ?_)
  exact gm_iret' hF h qr2 d_m_markerLength_4
def Fm_wastedArea_22 : Nat → Int → Int → St → (Int → St → Option (Int × St)) → Option (Int × St)
  | 0, _, _, _, _ => none
  | n + 1, y2, y3, σ, k => if (σ 133 8) ≤ y3 then k y2 σ else gmG (0 ≤ y3 ∧ y3 < 72) (gmL ((y2 - ((σ 140 (y3).toNat) * (σ 139 (y3).toNat))) : Int) (fun x9 => gmG (gmR x9) (gmG (gmR (y3 + 1)) (Fm_wastedArea_22 n x9 (y3 + 1) σ k))))
def Fm_wastedArea (σ : St) : Option (Int × St) := gmB (Fm_lengthNow σ) (fun r2 s1 => if 0 ≤ r2 then gmB (Fm_stripWidth s1) (fun r5 s4 => gmL ((r5 * r2) : Int) (fun x6 => gmG (gmR x6) (Fm_wastedArea_22 gmN x6 0 s4 (fun x13 s14 => some (x13, s14))))) else some ((-1007), s1))
set_option maxRecDepth 100000 in
set_option maxHeartbeats 4000000 in
theorem Wm_wastedArea_22 {φ : Fx} {rv : Int} {rs : St} (hG : Good φ "GarmentMarkerModel" prog_8_method_53_code 4 6 143) (hF : FinI φ prog_8_method_53_code rv rs) : ∀ (n : Nat) {y2 : Int} {y3 : Int} {σ : St} {k : Int → St → Option (Int × St)}, gmR y2 → gmR y3 → Fm_wastedArea_22 n y2 y3 σ k = some (rv, rs) → (∀ {z2 : Int} {τ : St}, gmR z2 → k z2 τ = some (rv, rs) → J φ τ 52 [(2, .inl z2)] []) → J φ σ 22 [(0, .inr 133), (2, .inl y2), (3, .inl y3)] [] := by
  intro n
  induction n with
  | zero =>
    intro _ _ _ _ _ _ h
    exact absurd h (by rw [Fm_wastedArea_22.eq_1]; exact fun q => by cases q)
  | succ n ih =>
    intro y2 y3 σ k r2 r3 h hk
    rw [Fm_wastedArea_22.eq_2] at h
    refine gm_ok (fun hO => ?_)
    refine gm_iload_n hG 2 d_m_wastedArea_22 rfl rfl ?_
    refine gm_aload_n hG 0 d_m_wastedArea_23 rfl rfl ?_
    refine gm_getI hG gmF_6_102 gmKc_133 rfl d_m_wastedArea_24 (fun _ => ?_)
    refine gm_icmp_ge (tgt := 52) hG d_m_wastedArea_27 (by decide) r3 (hO 133 8) (fun c7 => ?_) (fun c7 => ?_)
    · replace h := gmI_pos c7 h
      refine gm_sub [1] rfl ?_
      exact hk r2 h
    · replace h := gmI_neg c7 h
      refine gm_iload_n hG 1 d_m_wastedArea_30 rfl rfl ?_
      refine gm_aload_n hG 0 d_m_wastedArea_31 rfl rfl ?_
      refine gm_getR (t := 140) hG gmF_6_29 gmKc_133 rfl d_m_wastedArea_32 ?_
      refine gm_iload_n hG 2 d_m_wastedArea_35 rfl rfl ?_
      obtain ⟨g8, h⟩ := gmG_of h
      refine gm_iald (t := (y3).toNat) hG gmKc_140 gmLc_140 g8 rfl d_m_wastedArea_36 (fun _ => ?_)
      refine gm_aload_n hG 0 d_m_wastedArea_37 rfl rfl ?_
      refine gm_getR (t := 139) hG gmF_6_26 gmKc_133 rfl d_m_wastedArea_38 ?_
      refine gm_iload_n hG 2 d_m_wastedArea_41 rfl rfl ?_
      refine gm_iald (t := (y3).toNat) hG gmKc_139 gmLc_139 g8 rfl d_m_wastedArea_42 (fun _ => ?_)
      refine gm_imul hG d_m_wastedArea_43 ?_
      refine gm_isub hG d_m_wastedArea_44 ?_
      obtain ⟨x9, ex9, h⟩ := gmL_of h
      refine gm_top ex9 ?_
      refine gm_istore_n (lv' := [(2, .inl x9), (0, .inr 133), (3, .inl y3)]) hG d_m_wastedArea_45 rfl (by decide) rfl ?_
      refine gm_iinc (lv' := [(3, .inl (y3 + 1)), (2, .inl x9), (0, .inr 133)]) hG 2 d_m_wastedArea_46 rfl (by decide) rfl ?_
      refine gm_goto (tgt := 22) hG d_m_wastedArea_49 (by decide) ?_
      obtain ⟨g10, h⟩ := gmG_of h
      obtain ⟨g11, h⟩ := gmG_of h
      refine gm_sub [2, 1, 0] rfl ?_
      exact ih g10 g11 h hk
set_option maxRecDepth 100000 in
set_option maxHeartbeats 4000000 in
theorem Wm_wastedArea {σ : St} {rv : Int} {rs : St} (h : Fm_wastedArea σ = some (rv, rs)) : Ctr gmY6_wastedArea prog_8_method_53_code 4 (some .int) 6 143 [.inr 133] σ (some rv) rs := by
  refine Ctr.ofI (own := "GarmentMarkerModel") (by decide +kernel) rfl (Nat.le_of_ble_eq_true rfl) (fun φ hG hF => ?_)
  unfold Fm_wastedArea at h
  refine gm_lv (l2 := [(0, .inr 133)]) rfl ?_
  refine gm_ok (fun hO => ?_)
  refine gm_aload_n hG 0 d_m_wastedArea_0 rfl rfl ?_
  obtain ⟨r2, s1, es1, h⟩ := gmB_of h
  refine gm_callVi hG [] [] gmM_6_153 (Wm_lengthNow es1) gmKc_133 rfl (by decide) (Nat.le_of_ble_eq_true rfl) rfl d_m_wastedArea_1 (fun qr2 => ?_)
  refine gm_ok (fun hOs1 => ?_)
  refine gm_istore_n (lv' := [(1, .inl r2), (0, .inr 133)]) hG d_m_wastedArea_4 rfl (by decide) rfl ?_
  refine gm_iload_n hG 0 d_m_wastedArea_5 rfl rfl ?_
  refine gm_if_ge (tgt := 13) hG d_m_wastedArea_6 (by decide) qr2 (fun c3 => ?_) (fun c3 => ?_)
  · replace h := gmI_pos c3 h
    refine gm_aload_n hG 1 d_m_wastedArea_13 rfl rfl ?_
    obtain ⟨r5, s4, es4, h⟩ := gmB_of h
    refine gm_callVi hG [] [] gmM_6_98 (Wm_stripWidth es4) gmKc_133 rfl (by decide) (Nat.le_of_ble_eq_true rfl) rfl d_m_wastedArea_14 (fun qr5 => ?_)
    refine gm_ok (fun hOs4 => ?_)
    refine gm_iload_n hG 0 d_m_wastedArea_17 rfl rfl ?_
    refine gm_imul hG d_m_wastedArea_18 ?_
    obtain ⟨x6, ex6, h⟩ := gmL_of h
    refine gm_top ex6 ?_
    refine gm_istore_n (lv' := [(2, .inl x6), (1, .inl r2), (0, .inr 133)]) hG d_m_wastedArea_19 rfl (by decide) rfl ?_
    refine gm_iconst hG d_m_wastedArea_20 ?_
    refine gm_istore_n (lv' := [(3, .inl 0), (2, .inl x6), (1, .inl r2), (0, .inr 133)]) hG d_m_wastedArea_21 rfl (by decide) rfl ?_
    obtain ⟨g12, h⟩ := gmG_of h
    refine gm_sub [3, 1, 0] rfl ?_
    refine Wm_wastedArea_22 hG hF gmN g12 (by decide) h (fun {x13} {s14} qx13 h => ?_)
    refine gm_ok (fun hOs14 => ?_)
    refine gm_iload_n hG 0 d_m_wastedArea_52 rfl rfl ?_
    exact gm_iret' hF h qx13 d_m_wastedArea_53
  · replace h := gmI_neg c3 h
    refine gm_sipush hG d_m_wastedArea_9 (by decide) ?_
    exact gm_iret' hF h (by decide) d_m_wastedArea_12
def Fm_markerLengthWith (a0 : Int) (a1 : Int) (σ : St) : Option (Int × St) := gmB (Fm_isPacking a0 a1 σ) (fun r2 s1 => if r2 = 0 then some ((-1005), s1) else gmB (Fm_lengthBy a0 a1 s1) (fun r5 s4 => some (r5, s4)))
set_option maxRecDepth 100000 in
set_option maxHeartbeats 4000000 in
theorem Wm_markerLengthWith {a0 : Int} {a1 : Int} {σ : St} {rv : Int} {rs : St} (ra0 : gmR a0) (ra1 : gmR a1) (h : Fm_markerLengthWith a0 a1 σ = some (rv, rs)) : Ctr gmY6_markerLengthWith prog_8_method_54_code 3 (some .int) 5 123 [.inr 133, .inl a0, .inl a1] σ (some rv) rs := by
  refine Ctr.ofI (own := "GarmentMarkerModel") (by decide +kernel) rfl (Nat.le_of_ble_eq_true rfl) (fun φ hG hF => ?_)
  unfold Fm_markerLengthWith at h
  refine gm_lv (l2 := [(0, .inr 133), (1, .inl a0), (2, .inl a1)]) rfl ?_
  refine gm_ok (fun hO => ?_)
  refine gm_iload_n hG 1 d_m_markerLengthWith_0 rfl rfl ?_
  refine gm_iload_n hG 2 d_m_markerLengthWith_1 rfl rfl ?_
  obtain ⟨r2, s1, es1, h⟩ := gmB_of h
  refine gm_callSi hG [.inl a0, .inl a1] [] gmM_6_94 (Wm_isPacking ra0 ra1 es1) rfl (by decide) (Nat.le_of_ble_eq_true rfl) rfl d_m_markerLengthWith_2 (fun qr2 => ?_)
  refine gm_ok (fun hOs1 => ?_)
  refine gm_if_eq (tgt := 17) hG d_m_markerLengthWith_5 (by decide) qr2 (fun c3 => ?_) (fun c3 => ?_)
  · replace h := gmI_pos c3 h
    refine gm_sipush hG d_m_markerLengthWith_17 (by decide) ?_
    exact gm_iret' hF h (by decide) d_m_markerLengthWith_20
  · replace h := gmI_neg c3 h
    refine gm_aload_n hG 0 d_m_markerLengthWith_8 rfl rfl ?_
    refine gm_iload_n hG 1 d_m_markerLengthWith_9 rfl rfl ?_
    refine gm_iload_n hG 2 d_m_markerLengthWith_10 rfl rfl ?_
    obtain ⟨r5, s4, es4, h⟩ := gmB_of h
    refine gm_callVi hG [.inl a0, .inl a1] [] gmM_6_146 (Wm_lengthBy ra0 ra1 es4) gmKc_133 rfl (by decide) (Nat.le_of_ble_eq_true rfl) rfl d_m_markerLengthWith_11 (fun qr5 => ?_)
    refine gm_ok (fun hOs4 => ?_)
    refine gm_goto (tgt := 20) hG d_m_markerLengthWith_14 (by decide) ?_
    exact gm_iret' hF h qr5 d_m_markerLengthWith_20
def Fm_findBest_6 : Nat → Int → Int → St → (Int → St → Option (Int × St)) → Option (Int × St)
  | 0, _, _, _, _ => none
  | n + 1, y1, y2, σ, k => if 8 ≤ y2 then k y1 σ else gmG (0 ≤ y2 ∧ y2 < 2147483648) (gmB (Fm_lengthBy (y2 / 4) (y2 % 4) σ) (fun r4 s3 => if r4 < 0 then gmG (gmR (y2 + 1)) (Fm_findBest_6 n y1 (y2 + 1) s3 k) else if y1 < 0 then gmG (gmR ((10 * (y2 / 4)) + (y2 % 4))) (gmL (gmUp s3 133 17 ((10 * (y2 / 4)) + (y2 % 4))) (fun s9 => gmG (gmR (y2 + 1)) (Fm_findBest_6 n r4 (y2 + 1) s9 k))) else if y1 ≤ r4 then gmG (gmR (y2 + 1)) (Fm_findBest_6 n y1 (y2 + 1) s3 k) else gmG (gmR ((10 * (y2 / 4)) + (y2 % 4))) (gmL (gmUp s3 133 17 ((10 * (y2 / 4)) + (y2 % 4))) (fun s14 => gmG (gmR (y2 + 1)) (Fm_findBest_6 n r4 (y2 + 1) s14 k)))))
def Fm_findBest (σ : St) : Option (Int × St) := Fm_findBest_6 gmN (-1007) 0 σ (fun x16 s17 => some (x16, s17))
set_option maxRecDepth 100000 in
set_option maxHeartbeats 4000000 in
theorem Wm_findBest_6 {φ : Fx} {rv : Int} {rs : St} (hG : Good φ "GarmentMarkerModel" prog_8_method_55_code 4 5 123) (hF : FinI φ prog_8_method_55_code rv rs) : ∀ (n : Nat) {y1 : Int} {y2 : Int} {σ : St} {k : Int → St → Option (Int × St)}, gmR y1 → gmR y2 → Fm_findBest_6 n y1 y2 σ k = some (rv, rs) → (∀ {z1 : Int} {τ : St}, gmR z1 → k z1 τ = some (rv, rs) → J φ τ 58 [(1, .inl z1)] []) → J φ σ 6 [(0, .inr 133), (1, .inl y1), (2, .inl y2)] [] := by
  intro n
  induction n with
  | zero =>
    intro _ _ _ _ _ _ h
    exact absurd h (by rw [Fm_findBest_6.eq_1]; exact fun q => by cases q)
  | succ n ih =>
    intro y1 y2 σ k r1 r2 h hk
    rw [Fm_findBest_6.eq_2] at h
    refine gm_ok (fun hO => ?_)
    refine gm_iload_n hG 2 d_m_findBest_6 rfl rfl ?_
    refine gm_bipush hG d_m_findBest_7 (by decide) ?_
    refine gm_icmp_ge (tgt := 58) hG d_m_findBest_9 (by decide) r2 (by decide) (fun c1 => ?_) (fun c1 => ?_)
    · replace h := gmI_pos c1 h
      refine gm_sub [1] rfl ?_
      exact hk r1 h
    · replace h := gmI_neg c1 h
      refine gm_aload_n hG 0 d_m_findBest_12 rfl rfl ?_
      refine gm_iload_n hG 2 d_m_findBest_13 rfl rfl ?_
      refine gm_iconst hG d_m_findBest_14 ?_
      obtain ⟨g2, h⟩ := gmG_of h
      refine gm_idiv hG d_m_findBest_15 g2 (by decide) (fun _ => ?_)
      refine gm_iload_n hG 2 d_m_findBest_16 rfl rfl ?_
      refine gm_iconst hG d_m_findBest_17 ?_
      refine gm_irem hG d_m_findBest_18 g2 (by decide) (fun _ => ?_)
      obtain ⟨r4, s3, es3, h⟩ := gmB_of h
      refine gm_callVi hG [.inl (y2 / 4), .inl (y2 % 4)] [] gmM_6_146 (Wm_lengthBy (gm_kdiv g2 (by decide)) (gm_krem (x := y2) (by decide)) es3) gmKc_133 rfl (by decide) (Nat.le_of_ble_eq_true rfl) rfl d_m_findBest_19 (fun qr4 => ?_)
      refine gm_ok (fun hOs3 => ?_)
      refine gm_istore_n (lv' := [(3, .inl r4), (0, .inr 133), (1, .inl y1), (2, .inl y2)]) hG d_m_findBest_22 rfl (by decide) rfl ?_
      refine gm_iload_n hG 0 d_m_findBest_23 rfl rfl ?_
      refine gm_if_lt (tgt := 52) hG d_m_findBest_24 (by decide) qr4 (fun c5 => ?_) (fun c5 => ?_)
      · replace h := gmI_pos c5 h
        refine gm_iinc (lv' := [(2, .inl (y2 + 1)), (3, .inl r4), (0, .inr 133), (1, .inl y1)]) hG 3 d_m_findBest_52 rfl (by decide) rfl ?_
        refine gm_goto (tgt := 6) hG d_m_findBest_55 (by decide) ?_
        obtain ⟨g6, h⟩ := gmG_of h
        refine gm_sub [2, 3, 0] rfl ?_
        exact ih r1 g6 h hk
      · replace h := gmI_neg c5 h
        refine gm_iload_n hG 2 d_m_findBest_27 rfl rfl ?_
        refine gm_if_lt (tgt := 36) hG d_m_findBest_28 (by decide) r1 (fun c7 => ?_) (fun c7 => ?_)
        · replace h := gmI_pos c7 h
          refine gm_iload_n hG 0 d_m_findBest_36 rfl rfl ?_
          refine gm_istore_n (lv' := [(1, .inl r4), (3, .inl r4), (0, .inr 133), (2, .inl y2)]) hG d_m_findBest_37 rfl (by decide) rfl ?_
          refine gm_aload_n hG 2 d_m_findBest_38 rfl rfl ?_
          refine gm_bipush hG d_m_findBest_39 (by decide) ?_
          refine gm_iload_n hG 3 d_m_findBest_41 rfl rfl ?_
          refine gm_iconst hG d_m_findBest_42 ?_
          refine gm_idiv hG d_m_findBest_43 g2 (by decide) (fun _ => ?_)
          refine gm_imul hG d_m_findBest_44 ?_
          refine gm_iload_n hG 3 d_m_findBest_45 rfl rfl ?_
          refine gm_iconst hG d_m_findBest_46 ?_
          refine gm_irem hG d_m_findBest_47 g2 (by decide) (fun _ => ?_)
          refine gm_iadd hG d_m_findBest_48 ?_
          obtain ⟨g8, h⟩ := gmG_of h
          obtain ⟨s9, es9, h⟩ := gmL_of h
          refine gm_putI hG gmF_6_156 gmKc_133 rfl rfl (by decide +kernel) g8 es9 d_m_findBest_49 ?_
          refine gm_ok (fun hOs9 => ?_)
          refine gm_iinc (lv' := [(2, .inl (y2 + 1)), (1, .inl r4), (3, .inl r4), (0, .inr 133)]) hG 3 d_m_findBest_52 rfl (by decide) rfl ?_
          refine gm_goto (tgt := 6) hG d_m_findBest_55 (by decide) ?_
          obtain ⟨g10, h⟩ := gmG_of h
          refine gm_sub [3, 1, 0] rfl ?_
          exact ih qr4 g10 h hk
        · replace h := gmI_neg c7 h
          refine gm_iload_n hG 0 d_m_findBest_31 rfl rfl ?_
          refine gm_iload_n hG 2 d_m_findBest_32 rfl rfl ?_
          refine gm_icmp_ge (tgt := 52) hG d_m_findBest_33 (by decide) qr4 r1 (fun c11 => ?_) (fun c11 => ?_)
          · replace h := gmI_pos c11 h
            refine gm_iinc (lv' := [(2, .inl (y2 + 1)), (3, .inl r4), (0, .inr 133), (1, .inl y1)]) hG 3 d_m_findBest_52 rfl (by decide) rfl ?_
            refine gm_goto (tgt := 6) hG d_m_findBest_55 (by decide) ?_
            obtain ⟨g12, h⟩ := gmG_of h
            refine gm_sub [2, 3, 0] rfl ?_
            exact ih r1 g12 h hk
          · replace h := gmI_neg c11 h
            refine gm_iload_n hG 0 d_m_findBest_36 rfl rfl ?_
            refine gm_istore_n (lv' := [(1, .inl r4), (3, .inl r4), (0, .inr 133), (2, .inl y2)]) hG d_m_findBest_37 rfl (by decide) rfl ?_
            refine gm_aload_n hG 2 d_m_findBest_38 rfl rfl ?_
            refine gm_bipush hG d_m_findBest_39 (by decide) ?_
            refine gm_iload_n hG 3 d_m_findBest_41 rfl rfl ?_
            refine gm_iconst hG d_m_findBest_42 ?_
            refine gm_idiv hG d_m_findBest_43 g2 (by decide) (fun _ => ?_)
            refine gm_imul hG d_m_findBest_44 ?_
            refine gm_iload_n hG 3 d_m_findBest_45 rfl rfl ?_
            refine gm_iconst hG d_m_findBest_46 ?_
            refine gm_irem hG d_m_findBest_47 g2 (by decide) (fun _ => ?_)
            refine gm_iadd hG d_m_findBest_48 ?_
            obtain ⟨g13, h⟩ := gmG_of h
            obtain ⟨s14, es14, h⟩ := gmL_of h
            refine gm_putI hG gmF_6_156 gmKc_133 rfl rfl (by decide +kernel) g13 es14 d_m_findBest_49 ?_
            refine gm_ok (fun hOs14 => ?_)
            refine gm_iinc (lv' := [(2, .inl (y2 + 1)), (1, .inl r4), (3, .inl r4), (0, .inr 133)]) hG 3 d_m_findBest_52 rfl (by decide) rfl ?_
            refine gm_goto (tgt := 6) hG d_m_findBest_55 (by decide) ?_
            obtain ⟨g15, h⟩ := gmG_of h
            refine gm_sub [3, 1, 0] rfl ?_
            exact ih qr4 g15 h hk
set_option maxRecDepth 100000 in
set_option maxHeartbeats 4000000 in
theorem Wm_findBest {σ : St} {rv : Int} {rs : St} (h : Fm_findBest σ = some (rv, rs)) : Ctr gmY6_findBest prog_8_method_55_code 4 (some .int) 5 123 [.inr 133] σ (some rv) rs := by
  refine Ctr.ofI (own := "GarmentMarkerModel") (by decide +kernel) rfl (Nat.le_of_ble_eq_true rfl) (fun φ hG hF => ?_)
  unfold Fm_findBest at h
  refine gm_lv (l2 := [(0, .inr 133)]) rfl ?_
  refine gm_ok (fun hO => ?_)
  refine gm_sipush hG d_m_findBest_0 (by decide) ?_
  refine gm_istore_n (lv' := [(1, .inl (-1007)), (0, .inr 133)]) hG d_m_findBest_3 rfl (by decide) rfl ?_
  refine gm_iconst hG d_m_findBest_4 ?_
  refine gm_istore_n (lv' := [(2, .inl 0), (1, .inl (-1007)), (0, .inr 133)]) hG d_m_findBest_5 rfl (by decide) rfl ?_
  refine gm_sub [2, 1, 0] rfl ?_
  refine Wm_findBest_6 hG hF gmN (by decide) (by decide) h (fun {x16} {s17} qx16 h => ?_)
  refine gm_ok (fun hOs17 => ?_)
  refine gm_iload_n hG 0 d_m_findBest_58 rfl rfl ?_
  exact gm_iret' hF h qx16 d_m_findBest_59
def Fm_bestLength (σ : St) : Option (Int × St) := gmB (Fm_findBest σ) (fun r2 s1 => some (r2, s1))
set_option maxRecDepth 100000 in
set_option maxHeartbeats 4000000 in
theorem Wm_bestLength {σ : St} {rv : Int} {rs : St} (h : Fm_bestLength σ = some (rv, rs)) : Ctr gmY6_bestLength prog_8_method_56_code 1 (some .int) 6 146 [.inr 133] σ (some rv) rs := by
  refine Ctr.ofI (own := "GarmentMarkerModel") (by decide +kernel) rfl (Nat.le_of_ble_eq_true rfl) (fun φ hG hF => ?_)
  unfold Fm_bestLength at h
  refine gm_lv (l2 := [(0, .inr 133)]) rfl ?_
  refine gm_ok (fun hO => ?_)
  refine gm_aload_n hG 0 d_m_bestLength_0 rfl rfl ?_
  obtain ⟨r2, s1, es1, h⟩ := gmB_of h
  refine gm_callVi hG [] [] gmM_6_159 (Wm_findBest es1) gmKc_133 rfl (by decide) (Nat.le_of_ble_eq_true rfl) rfl d_m_bestLength_1 (fun qr2 => ?_)
  refine gm_ok (fun hOs1 => ?_)
  exact gm_iret' hF h qr2 d_m_bestLength_4
def Fm_bestPacking (σ : St) : Option (Int × St) := gmB (Fm_findBest σ) (fun r2 s1 => some ((if 0 ≤ r2 then (s1 133 17) else (-1007)), s1))
set_option maxRecDepth 100000 in
set_option maxHeartbeats 4000000 in
theorem Wm_bestPacking {σ : St} {rv : Int} {rs : St} (h : Fm_bestPacking σ = some (rv, rs)) : Ctr gmY6_bestPacking prog_8_method_57_code 1 (some .int) 6 146 [.inr 133] σ (some rv) rs := by
  refine Ctr.ofI (own := "GarmentMarkerModel") (by decide +kernel) rfl (Nat.le_of_ble_eq_true rfl) (fun φ hG hF => ?_)
  unfold Fm_bestPacking at h
  refine gm_lv (l2 := [(0, .inr 133)]) rfl ?_
  refine gm_ok (fun hO => ?_)
  refine gm_aload_n hG 0 d_m_bestPacking_0 rfl rfl ?_
  obtain ⟨r2, s1, es1, h⟩ := gmB_of h
  refine gm_callVi hG [] [] gmM_6_159 (Wm_findBest es1) gmKc_133 rfl (by decide) (Nat.le_of_ble_eq_true rfl) rfl d_m_bestPacking_1 (fun qr2 => ?_)
  refine gm_ok (fun hOs1 => ?_)
  suffices hj : J φ s1 17 [(0, .inr 133)] [.inl (if 0 ≤ r2 then (s1 133 17) else (-1007))] by
    refine gm_if_ge (tgt := 13) hG d_m_bestPacking_4 (by decide) qr2 (fun c3 => ?_) (fun c3 => ?_)
    · replace hj := gmJ_pos c3 hj
      refine gm_aload_n hG 0 d_m_bestPacking_13 rfl rfl ?_
      refine gm_getI hG gmF_6_156 gmKc_133 rfl d_m_bestPacking_14 (fun _ => ?_)
      exact hj
    · replace hj := gmJ_neg c3 hj
      refine gm_sipush hG d_m_bestPacking_7 (by decide) ?_
      refine gm_goto (tgt := 17) hG d_m_bestPacking_10 (by decide) ?_
      exact hj
  exact gm_iret' hF h (gmR_ite (fun c3 => (hOs1 133 17)) (fun c3 => (by decide))) d_m_bestPacking_17
def Fm_setOrdered (a0 : Int) (a1 : Int) (σ : St) : Option (Int × St) := gmB (Fm_isSize a0 σ) (fun r2 s1 => if r2 = 0 then some ((-1002), s1) else gmB (Fm_in a1 0 99 s1) (fun r5 s4 => if r5 = 0 then some ((-1005), s4) else gmG (gmR (75 + a0)) (gmB (Fm_set (75 + a0) a1 s4) (fun r9 s8 => some (r9, s8)))))
set_option maxRecDepth 100000 in
set_option maxHeartbeats 4000000 in
theorem Wm_setOrdered {a0 : Int} {a1 : Int} {σ : St} {rv : Int} {rs : St} (ra0 : gmR a0) (ra1 : gmR a1) (h : Fm_setOrdered a0 a1 σ = some (rv, rs)) : Ctr gmY6_setOrdered prog_8_method_58_code 3 (some .int) 2 42 [.inr 133, .inl a0, .inl a1] σ (some rv) rs := by
  refine Ctr.ofI (own := "GarmentMarkerModel") (by decide +kernel) rfl (Nat.le_of_ble_eq_true rfl) (fun φ hG hF => ?_)
  unfold Fm_setOrdered at h
  refine gm_lv (l2 := [(0, .inr 133), (1, .inl a0), (2, .inl a1)]) rfl ?_
  refine gm_ok (fun hO => ?_)
  refine gm_iload_n hG 1 d_m_setOrdered_0 rfl rfl ?_
  obtain ⟨r2, s1, es1, h⟩ := gmB_of h
  refine gm_callSi hG [.inl a0] [] gmM_6_71 (Wm_isSize ra0 es1) rfl (by decide) (Nat.le_of_ble_eq_true rfl) rfl d_m_setOrdered_1 (fun qr2 => ?_)
  refine gm_ok (fun hOs1 => ?_)
  refine gm_if_ne (tgt := 11) hG d_m_setOrdered_4 (by decide) qr2 (fun c3 => ?_) (fun c3 => ?_)
  · replace h := gmI_neg c3 h
    refine gm_iload_n hG 2 d_m_setOrdered_11 rfl rfl ?_
    refine gm_iconst hG d_m_setOrdered_12 ?_
    refine gm_bipush hG d_m_setOrdered_13 (by decide) ?_
    obtain ⟨r5, s4, es4, h⟩ := gmB_of h
    refine gm_callSi hG [.inl a1, .inl 0, .inl 99] [] gmM_6_59 (Wm_in ra1 (by decide) (by decide) es4) rfl (by decide) (Nat.le_of_ble_eq_true rfl) rfl d_m_setOrdered_15 (fun qr5 => ?_)
    refine gm_ok (fun hOs4 => ?_)
    refine gm_if_eq (tgt := 33) hG d_m_setOrdered_18 (by decide) qr5 (fun c6 => ?_) (fun c6 => ?_)
    · replace h := gmI_pos c6 h
      refine gm_sipush hG d_m_setOrdered_33 (by decide) ?_
      exact gm_iret' hF h (by decide) d_m_setOrdered_36
    · replace h := gmI_neg c6 h
      refine gm_aload_n hG 0 d_m_setOrdered_21 rfl rfl ?_
      refine gm_bipush hG d_m_setOrdered_22 (by decide) ?_
      refine gm_iload_n hG 1 d_m_setOrdered_24 rfl rfl ?_
      refine gm_iadd hG d_m_setOrdered_25 ?_
      refine gm_iload_n hG 2 d_m_setOrdered_26 rfl rfl ?_
      obtain ⟨g7, h⟩ := gmG_of h
      obtain ⟨r9, s8, es8, h⟩ := gmB_of h
      refine gm_callVi hG [.inl (75 + a0), .inl a1] [] gmM_6_91 (Wm_set g7 ra1 es8) gmKc_133 rfl (by decide) (Nat.le_of_ble_eq_true rfl) rfl d_m_setOrdered_27 (fun qr9 => ?_)
      refine gm_ok (fun hOs8 => ?_)
      refine gm_goto (tgt := 36) hG d_m_setOrdered_30 (by decide) ?_
      exact gm_iret' hF h qr9 d_m_setOrdered_36
  · replace h := gmI_pos c3 h
    refine gm_sipush hG d_m_setOrdered_7 (by decide) ?_
    exact gm_iret' hF h (by decide) d_m_setOrdered_10
def Fm_pliesNow_4 : Nat → Int → Int → St → (Int → St → Option (Int × St)) → Option (Int × St)
  | 0, _, _, _, _ => none
  | n + 1, y1, y2, σ, k => if 3 ≤ y2 then k y1 σ else gmG (0 ≤ (75 + y2) ∧ (75 + y2) < 78) (gmL ((σ 134 ((75 + y2)).toNat) : Int) (fun x3 => gmG (0 ≤ (67 + y2) ∧ (67 + y2) < 78) (gmL ((σ 134 ((67 + y2)).toNat) : Int) (fun x5 => if x3 ≤ 0 then gmG ((¬ x5 = 0) → 0 < x5 ∧ x5 < 2147483648) (gmG ((¬ x5 = 0) → 0 ≤ ((x3 + x5) - 1) ∧ ((x3 + x5) - 1) < 2147483648) (gmL ((if x5 = 0 then 0 else (((x3 + x5) - 1) / x5)) : Int) (fun x10 => gmL ((if x10 ≤ y1 then y1 else x10) : Int) (fun x12 => gmG (gmR (y2 + 1)) (Fm_pliesNow_4 n x12 (y2 + 1) σ k))))) else if x5 = 0 then some ((-1008), σ) else gmG ((¬ x5 = 0) → 0 < x5 ∧ x5 < 2147483648) (gmG ((¬ x5 = 0) → 0 ≤ ((x3 + x5) - 1) ∧ ((x3 + x5) - 1) < 2147483648) (gmL ((if x5 = 0 then 0 else (((x3 + x5) - 1) / x5)) : Int) (fun x18 => gmL ((if x18 ≤ y1 then y1 else x18) : Int) (fun x20 => gmG (gmR (y2 + 1)) (Fm_pliesNow_4 n x20 (y2 + 1) σ k)))))))))
def Fm_pliesNow (σ : St) : Option (Int × St) := Fm_pliesNow_4 gmN 0 0 σ (fun x22 s23 => some (x22, s23))
set_option maxRecDepth 100000 in
set_option maxHeartbeats 4000000 in
theorem Wm_pliesNow_4 {φ : Fx} {rv : Int} {rs : St} (hG : Good φ "GarmentMarkerModel" prog_8_method_59_code 6 0 0) (hF : FinI φ prog_8_method_59_code rv rs) : ∀ (n : Nat) {y1 : Int} {y2 : Int} {σ : St} {k : Int → St → Option (Int × St)}, gmR y1 → gmR y2 → Fm_pliesNow_4 n y1 y2 σ k = some (rv, rs) → (∀ {z1 : Int} {τ : St}, gmR z1 → k z1 τ = some (rv, rs) → J φ τ 82 [(1, .inl z1)] []) → J φ σ 4 [(0, .inr 133), (1, .inl y1), (2, .inl y2)] [] := by
  intro n
  induction n with
  | zero =>
    intro _ _ _ _ _ _ h
    exact absurd h (by rw [Fm_pliesNow_4.eq_1]; exact fun q => by cases q)
  | succ n ih =>
    intro y1 y2 σ k r1 r2 h hk
    rw [Fm_pliesNow_4.eq_2] at h
    refine gm_ok (fun hO => ?_)
    refine gm_iload_n hG 2 d_m_pliesNow_4 rfl rfl ?_
    refine gm_iconst hG d_m_pliesNow_5 ?_
    refine gm_icmp_ge (tgt := 82) hG d_m_pliesNow_6 (by decide) r2 (by decide) (fun c1 => ?_) (fun c1 => ?_)
    · replace h := gmI_pos c1 h
      refine gm_sub [1] rfl ?_
      exact hk r1 h
    · replace h := gmI_neg c1 h
      refine gm_aload_n hG 0 d_m_pliesNow_9 rfl rfl ?_
      refine gm_getR (t := 134) hG gmF_6_7 gmKc_133 rfl d_m_pliesNow_10 ?_
      refine gm_bipush hG d_m_pliesNow_13 (by decide) ?_
      refine gm_iload_n hG 2 d_m_pliesNow_15 rfl rfl ?_
      refine gm_iadd hG d_m_pliesNow_16 ?_
      obtain ⟨g2, h⟩ := gmG_of h
      refine gm_iald (t := ((75 + y2)).toNat) hG gmKc_134 gmLc_134 g2 rfl d_m_pliesNow_17 (fun _ => ?_)
      obtain ⟨x3, ex3, h⟩ := gmL_of h
      refine gm_top ex3 ?_
      refine gm_istore_n (lv' := [(3, .inl x3), (0, .inr 133), (1, .inl y1), (2, .inl y2)]) hG d_m_pliesNow_18 rfl (by decide) rfl ?_
      refine gm_aload_n hG 1 d_m_pliesNow_19 rfl rfl ?_
      refine gm_getR (t := 134) hG gmF_6_7 gmKc_133 rfl d_m_pliesNow_20 ?_
      refine gm_bipush hG d_m_pliesNow_23 (by decide) ?_
      refine gm_iload_n hG 3 d_m_pliesNow_25 rfl rfl ?_
      refine gm_iadd hG d_m_pliesNow_26 ?_
      obtain ⟨g4, h⟩ := gmG_of h
      refine gm_iald (t := ((67 + y2)).toNat) hG gmKc_134 gmLc_134 g4 rfl d_m_pliesNow_27 (fun _ => ?_)
      obtain ⟨x5, ex5, h⟩ := gmL_of h
      refine gm_top ex5 ?_
      refine gm_istore (lv' := [(4, .inl x5), (3, .inl x3), (0, .inr 133), (1, .inl y1), (2, .inl y2)]) hG d_m_pliesNow_28 (by decide) rfl ?_
      refine gm_iload_n hG 1 d_m_pliesNow_30 rfl rfl ?_
      refine gm_if_le (tgt := 43) hG d_m_pliesNow_31 (by decide) (gm_kr ex3 (hO 134 ((75 + y2)).toNat)) (fun c6 => ?_) (fun c6 => ?_)
      · replace h := gmI_pos c6 h
        refine gm_iload hG 0 d_m_pliesNow_43 rfl ?_
        obtain ⟨g8, h⟩ := gmG_of h
        obtain ⟨g9, h⟩ := gmG_of h
        suffices hj : J φ σ 61 [(4, .inl x5), (3, .inl x3), (0, .inr 133), (1, .inl y1), (2, .inl y2)] [.inl (if x5 = 0 then 0 else (((x3 + x5) - 1) / x5))] by
          refine gm_if_ne (tgt := 52) hG d_m_pliesNow_45 (by decide) (gm_kr ex5 (hO 134 ((67 + y2)).toNat)) (fun c7 => ?_) (fun c7 => ?_)
          · replace hj := gmJ_neg c7 hj
            refine gm_iload_n hG 1 d_m_pliesNow_52 rfl rfl ?_
            refine gm_iload hG 0 d_m_pliesNow_53 rfl ?_
            refine gm_iadd hG d_m_pliesNow_55 ?_
            refine gm_iconst hG d_m_pliesNow_56 ?_
            refine gm_isub hG d_m_pliesNow_57 ?_
            refine gm_iload hG 0 d_m_pliesNow_58 rfl ?_
            refine gm_idiv hG d_m_pliesNow_60 (g9 c7) (g8 c7) (fun _ => ?_)
            exact hj
          · replace hj := gmJ_pos c7 hj
            refine gm_iconst hG d_m_pliesNow_48 ?_
            refine gm_goto (tgt := 61) hG d_m_pliesNow_49 (by decide) ?_
            exact hj
        obtain ⟨x10, ex10, h⟩ := gmL_of h
        refine gm_top ex10 ?_
        refine gm_istore (lv' := [(5, .inl x10), (4, .inl x5), (3, .inl x3), (0, .inr 133), (1, .inl y1), (2, .inl y2)]) hG d_m_pliesNow_61 (by decide) rfl ?_
        refine gm_iload hG 0 d_m_pliesNow_63 rfl ?_
        refine gm_iload_n hG 4 d_m_pliesNow_65 rfl rfl ?_
        suffices hj : J φ σ 75 [(5, .inl x10), (4, .inl x5), (3, .inl x3), (0, .inr 133), (1, .inl y1), (2, .inl y2)] [.inl (if x10 ≤ y1 then y1 else x10)] by
          refine gm_icmp_le (tgt := 74) hG d_m_pliesNow_66 (by decide) (gm_kr ex10 (gmR_ite (fun c7 => (by decide)) (fun c7 => (gm_kdiv (g9 c7) (g8 c7))))) r1 (fun c11 => ?_) (fun c11 => ?_)
          · replace hj := gmJ_pos c11 hj
            refine gm_iload_n hG 4 d_m_pliesNow_74 rfl rfl ?_
            exact hj
          · replace hj := gmJ_neg c11 hj
            refine gm_iload hG 0 d_m_pliesNow_69 rfl ?_
            refine gm_goto (tgt := 75) hG d_m_pliesNow_71 (by decide) ?_
            exact hj
        obtain ⟨x12, ex12, h⟩ := gmL_of h
        refine gm_top ex12 ?_
        refine gm_istore_n (lv' := [(1, .inl x12), (5, .inl x10), (4, .inl x5), (3, .inl x3), (0, .inr 133), (2, .inl y2)]) hG d_m_pliesNow_75 rfl (by decide) rfl ?_
        refine gm_iinc (lv' := [(2, .inl (y2 + 1)), (1, .inl x12), (5, .inl x10), (4, .inl x5), (3, .inl x3), (0, .inr 133)]) hG 5 d_m_pliesNow_76 rfl (by decide) rfl ?_
        refine gm_goto (tgt := 4) hG d_m_pliesNow_79 (by decide) ?_
        obtain ⟨g13, h⟩ := gmG_of h
        refine gm_sub [5, 1, 0] rfl ?_
        exact ih (gm_kr ex12 (gmR_ite (fun c11 => r1) (fun c11 => (gm_kr ex10 (gmR_ite (fun c7 => (by decide)) (fun c7 => (gm_kdiv (g9 c7) (g8 c7)))))))) g13 h hk
      · replace h := gmI_neg c6 h
        refine gm_iload hG 0 d_m_pliesNow_34 rfl ?_
        refine gm_if_ne (tgt := 43) hG d_m_pliesNow_36 (by decide) (gm_kr ex5 (hO 134 ((67 + y2)).toNat)) (fun c14 => ?_) (fun c14 => ?_)
        · replace h := gmI_neg c14 h
          refine gm_iload hG 0 d_m_pliesNow_43 rfl ?_
          obtain ⟨g16, h⟩ := gmG_of h
          obtain ⟨g17, h⟩ := gmG_of h
          suffices hj : J φ σ 61 [(4, .inl x5), (3, .inl x3), (0, .inr 133), (1, .inl y1), (2, .inl y2)] [.inl (if x5 = 0 then 0 else (((x3 + x5) - 1) / x5))] by
            refine gm_if_ne (tgt := 52) hG d_m_pliesNow_45 (by decide) (gm_kr ex5 (hO 134 ((67 + y2)).toNat)) (fun c15 => ?_) (fun c15 => ?_)
            · replace hj := gmJ_neg c15 hj
              refine gm_iload_n hG 1 d_m_pliesNow_52 rfl rfl ?_
              refine gm_iload hG 0 d_m_pliesNow_53 rfl ?_
              refine gm_iadd hG d_m_pliesNow_55 ?_
              refine gm_iconst hG d_m_pliesNow_56 ?_
              refine gm_isub hG d_m_pliesNow_57 ?_
              refine gm_iload hG 0 d_m_pliesNow_58 rfl ?_
              refine gm_idiv hG d_m_pliesNow_60 (g17 c15) (g16 c15) (fun _ => ?_)
              exact hj
            · replace hj := gmJ_pos c15 hj
              refine gm_iconst hG d_m_pliesNow_48 ?_
              refine gm_goto (tgt := 61) hG d_m_pliesNow_49 (by decide) ?_
              exact hj
          obtain ⟨x18, ex18, h⟩ := gmL_of h
          refine gm_top ex18 ?_
          refine gm_istore (lv' := [(5, .inl x18), (4, .inl x5), (3, .inl x3), (0, .inr 133), (1, .inl y1), (2, .inl y2)]) hG d_m_pliesNow_61 (by decide) rfl ?_
          refine gm_iload hG 0 d_m_pliesNow_63 rfl ?_
          refine gm_iload_n hG 4 d_m_pliesNow_65 rfl rfl ?_
          suffices hj : J φ σ 75 [(5, .inl x18), (4, .inl x5), (3, .inl x3), (0, .inr 133), (1, .inl y1), (2, .inl y2)] [.inl (if x18 ≤ y1 then y1 else x18)] by
            refine gm_icmp_le (tgt := 74) hG d_m_pliesNow_66 (by decide) (gm_kr ex18 (gmR_ite (fun c15 => (by decide)) (fun c15 => (gm_kdiv (g17 c15) (g16 c15))))) r1 (fun c19 => ?_) (fun c19 => ?_)
            · replace hj := gmJ_pos c19 hj
              refine gm_iload_n hG 4 d_m_pliesNow_74 rfl rfl ?_
              exact hj
            · replace hj := gmJ_neg c19 hj
              refine gm_iload hG 0 d_m_pliesNow_69 rfl ?_
              refine gm_goto (tgt := 75) hG d_m_pliesNow_71 (by decide) ?_
              exact hj
          obtain ⟨x20, ex20, h⟩ := gmL_of h
          refine gm_top ex20 ?_
          refine gm_istore_n (lv' := [(1, .inl x20), (5, .inl x18), (4, .inl x5), (3, .inl x3), (0, .inr 133), (2, .inl y2)]) hG d_m_pliesNow_75 rfl (by decide) rfl ?_
          refine gm_iinc (lv' := [(2, .inl (y2 + 1)), (1, .inl x20), (5, .inl x18), (4, .inl x5), (3, .inl x3), (0, .inr 133)]) hG 5 d_m_pliesNow_76 rfl (by decide) rfl ?_
          refine gm_goto (tgt := 4) hG d_m_pliesNow_79 (by decide) ?_
          obtain ⟨g21, h⟩ := gmG_of h
          refine gm_sub [5, 1, 0] rfl ?_
          exact ih (gm_kr ex20 (gmR_ite (fun c19 => r1) (fun c19 => (gm_kr ex18 (gmR_ite (fun c15 => (by decide)) (fun c15 => (gm_kdiv (g17 c15) (g16 c15)))))))) g21 h hk
        · replace h := gmI_pos c14 h
          refine gm_sipush hG d_m_pliesNow_39 (by decide) ?_
          exact gm_iret' hF h (by decide) d_m_pliesNow_42
set_option maxRecDepth 100000 in
set_option maxHeartbeats 4000000 in
theorem Wm_pliesNow {σ : St} {rv : Int} {rs : St} (h : Fm_pliesNow σ = some (rv, rs)) : Ctr gmY6_pliesNow prog_8_method_59_code 6 (some .int) 0 0 [.inr 133] σ (some rv) rs := by
  refine Ctr.ofI (own := "GarmentMarkerModel") (by decide +kernel) rfl (Nat.le_of_ble_eq_true rfl) (fun φ hG hF => ?_)
  unfold Fm_pliesNow at h
  refine gm_lv (l2 := [(0, .inr 133)]) rfl ?_
  refine gm_ok (fun hO => ?_)
  refine gm_iconst hG d_m_pliesNow_0 ?_
  refine gm_istore_n (lv' := [(1, .inl 0), (0, .inr 133)]) hG d_m_pliesNow_1 rfl (by decide) rfl ?_
  refine gm_iconst hG d_m_pliesNow_2 ?_
  refine gm_istore_n (lv' := [(2, .inl 0), (1, .inl 0), (0, .inr 133)]) hG d_m_pliesNow_3 rfl (by decide) rfl ?_
  refine gm_sub [2, 1, 0] rfl ?_
  refine Wm_pliesNow_4 hG hF gmN (by decide) (by decide) h (fun {x22} {s23} qx22 h => ?_)
  refine gm_ok (fun hOs23 => ?_)
  refine gm_iload_n hG 0 d_m_pliesNow_82 rfl rfl ?_
  exact gm_iret' hF h qx22 d_m_pliesNow_83
def Fm_plies (σ : St) : Option (Int × St) := gmB (Fm_pliesNow σ) (fun r2 s1 => some (r2, s1))
set_option maxRecDepth 100000 in
set_option maxHeartbeats 4000000 in
theorem Wm_plies {σ : St} {rv : Int} {rs : St} (h : Fm_plies σ = some (rv, rs)) : Ctr gmY6_plies prog_8_method_60_code 1 (some .int) 1 25 [.inr 133] σ (some rv) rs := by
  refine Ctr.ofI (own := "GarmentMarkerModel") (by decide +kernel) rfl (Nat.le_of_ble_eq_true rfl) (fun φ hG hF => ?_)
  unfold Fm_plies at h
  refine gm_lv (l2 := [(0, .inr 133)]) rfl ?_
  refine gm_ok (fun hO => ?_)
  refine gm_aload_n hG 0 d_m_plies_0 rfl rfl ?_
  obtain ⟨r2, s1, es1, h⟩ := gmB_of h
  refine gm_callVi hG [] [] gmM_6_162 (Wm_pliesNow es1) gmKc_133 rfl (by decide) (Nat.le_of_ble_eq_true rfl) rfl d_m_plies_1 (fun qr2 => ?_)
  refine gm_ok (fun hOs1 => ?_)
  exact gm_iret' hF h qr2 d_m_plies_4
def Fm_clothNow (σ : St) : Option (Int × St) := gmB (Fm_pliesNow σ) (fun r2 s1 => if 0 ≤ r2 then gmB (Fm_lengthNow s1) (fun r5 s4 => gmG (gmR (if 0 ≤ r5 then (r2 * r5) else (-1007))) (some ((if 0 ≤ r5 then (r2 * r5) else (-1007)), s4))) else some ((-1008), s1))
set_option maxRecDepth 100000 in
set_option maxHeartbeats 4000000 in
theorem Wm_clothNow {σ : St} {rv : Int} {rs : St} (h : Fm_clothNow σ = some (rv, rs)) : Ctr gmY6_clothNow prog_8_method_61_code 3 (some .int) 6 143 [.inr 133] σ (some rv) rs := by
  refine Ctr.ofI (own := "GarmentMarkerModel") (by decide +kernel) rfl (Nat.le_of_ble_eq_true rfl) (fun φ hG hF => ?_)
  unfold Fm_clothNow at h
  refine gm_lv (l2 := [(0, .inr 133)]) rfl ?_
  refine gm_ok (fun hO => ?_)
  refine gm_aload_n hG 0 d_m_clothNow_0 rfl rfl ?_
  obtain ⟨r2, s1, es1, h⟩ := gmB_of h
  refine gm_callVi hG [] [] gmM_6_162 (Wm_pliesNow es1) gmKc_133 rfl (by decide) (Nat.le_of_ble_eq_true rfl) rfl d_m_clothNow_1 (fun qr2 => ?_)
  refine gm_ok (fun hOs1 => ?_)
  refine gm_istore_n (lv' := [(1, .inl r2), (0, .inr 133)]) hG d_m_clothNow_4 rfl (by decide) rfl ?_
  refine gm_iload_n hG 0 d_m_clothNow_5 rfl rfl ?_
  refine gm_if_ge (tgt := 13) hG d_m_clothNow_6 (by decide) qr2 (fun c3 => ?_) (fun c3 => ?_)
  · replace h := gmI_pos c3 h
    refine gm_aload_n hG 1 d_m_clothNow_13 rfl rfl ?_
    obtain ⟨r5, s4, es4, h⟩ := gmB_of h
    refine gm_callVi hG [] [] gmM_6_153 (Wm_lengthNow es4) gmKc_133 rfl (by decide) (Nat.le_of_ble_eq_true rfl) rfl d_m_clothNow_14 (fun qr5 => ?_)
    refine gm_ok (fun hOs4 => ?_)
    refine gm_istore_n (lv' := [(2, .inl r5), (1, .inl r2), (0, .inr 133)]) hG d_m_clothNow_17 rfl (by decide) rfl ?_
    refine gm_iload_n hG 0 d_m_clothNow_18 rfl rfl ?_
    suffices hj : J φ s4 31 [(2, .inl r5), (1, .inl r2), (0, .inr 133)] [.inl (if 0 ≤ r5 then (r2 * r5) else (-1007))] by
      refine gm_if_ge (tgt := 28) hG d_m_clothNow_19 (by decide) qr5 (fun c6 => ?_) (fun c6 => ?_)
      · replace hj := gmJ_pos c6 hj
        refine gm_iload_n hG 1 d_m_clothNow_28 rfl rfl ?_
        refine gm_iload_n hG 0 d_m_clothNow_29 rfl rfl ?_
        refine gm_imul hG d_m_clothNow_30 ?_
        exact hj
      · replace hj := gmJ_neg c6 hj
        refine gm_sipush hG d_m_clothNow_22 (by decide) ?_
        refine gm_goto (tgt := 31) hG d_m_clothNow_25 (by decide) ?_
        exact hj
    obtain ⟨g7, h⟩ := gmG_of h
    exact gm_iret' hF h g7 d_m_clothNow_31
  · replace h := gmI_neg c3 h
    refine gm_sipush hG d_m_clothNow_9 (by decide) ?_
    exact gm_iret' hF h (by decide) d_m_clothNow_12
