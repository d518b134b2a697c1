/-! HEAP ROWS, CALLS, ENTRY AND END, over the store -/
theorem gmKd_lt {k : Nat} (h : gmKd k < 99) : k < 150 := by
  by_cases h150 : k < 150
  · exact h150
  · exfalso
    have : gmKdL.length = 150 := by decide +kernel
    unfold gmKd at h
    rw [List.getD_eq_getElem?_getD, List.getElem?_eq_none (by omega)] at h
    exact absurd h (by decide)
theorem gmE_obj {G : GG} {σ : St} {k ci : Nat} (h : gmKd k = ci) (hc : ci < 7) : gmE G σ k = .inr (ci, (List.range (gmC ci).2.2).map (gmFv G σ k)) := by
  unfold gmE
  rw [if_pos (by omega), h]
theorem gmE_num {G : GG} {σ : St} {k c : Nat} (h : gmKd k = c + 10) (hc : c < 2) : gmE G σ k = .inl (G.2.2 (c + 10), gmLn k, .inl (fun i => Int32.ofInt (σ k i))) := by
  unfold gmE
  rw [if_neg (by omega), if_pos (by omega), h]
theorem gmE_ref {G : GG} {σ : St} {k c : Nat} (h : gmKd k = c + 10) (hc : 2 ≤ c) : gmE G σ k = .inl (G.2.2 (c + 10), gmLn k, .inr (.inr (.inr (.inr (fun i => some (G.2.1 (gmTg k i))))))) := by
  unfold gmE
  rw [if_neg (by omega), if_neg (by omega), h]
theorem gmUp_OK {σ : St} {k i : Nat} {v : Int} (hO : gmOK σ) (hR : gmR v) : gmOK (gmUp σ k i v) := by
  intro k' i'
  unfold gmUp
  by_cases h : k' = k ∧ i' = i
  · rw [if_pos h]; exact hR
  · rw [if_neg h]; exact hO k' i'
theorem gmFv_put {G : GG} {σ : St} {k i : Nat} {v : Int} {N : Nat} (hr : gmFr k i = none) : ((List.range N).map (gmFv G σ k)).set i (.int (Int32.ofInt v)) = (List.range N).map (gmFv G (gmUp σ k i v) k) := by
  apply List.ext_getElem?
  intro j
  rw [List.getElem?_set]
  by_cases hj : i = j
  · subst hj
    rw [if_pos rfl]
    by_cases hN : i < N
    · rw [if_pos (by simp [hN])]
      simp [hN, gmFv, hr, gmUp]
    · rw [if_neg (by simp [hN])]
      simp [hN]
  · rw [if_neg hj]
    by_cases hN : j < N
    · simp only [List.getElem?_map, List.getElem?_range hN, Option.map_some]
      unfold gmFv gmUp
      rw [if_neg (fun q => hj q.2.symm)]
    · simp [hN]
theorem gmUpd_put {σ : St} {k i : Nat} {v : Int} : upd (fun j => Int32.ofInt (σ k j)) i (Int32.ofInt v) = fun j => Int32.ofInt (gmUp σ k i v k j) := by
  funext j
  unfold upd gmUp
  by_cases h : j = i
  · rw [if_pos h, if_pos ⟨rfl, h⟩]
  · rw [if_neg h, if_neg (fun q => h q.2)]
theorem gm_01 {v : Int} (hv : v = 0 ∨ v = 1) : vp_nar .boolean (Int32.ofInt v) = Int32.ofInt v ∧ narrow .boolean (.int (Int32.ofInt v)) = .int (Int32.ofInt v) ∧ fits .boolean (.int (Int32.ofInt v)) = true := by
  rcases hv with rfl | rfl <;> exact ⟨by decide +kernel, by decide +kernel, by decide +kernel⟩
theorem gm_01R {v : Int} (hv : v = 0 ∨ v = 1) : gmR v := by
  rcases hv with rfl | rfl <;> decide
theorem gm_cat (G : GG) : ∀ st : List AV, ((st.map (gmV G)).map fun v => v.category).sum = st.length
  | [] => rfl
  | a :: t => by
    simp only [List.map_cons, List.sum_cons, gmV_cat, List.length_cons]
    have := gm_cat G t
    omega
section GH
variable {φ : Fx} {own : String} {cc : ByteArray} {nl fr lo : Nat} {σ σ' : St} {pc : Nat} {lv : List (Nat × AV)} {st : List AV}
theorem gm_getI (hG : Good φ own cc nl fr lo) {idx ci i k : Nat} (hf : gmFL own idx ci i) (hk : gmKd k = ci) (hr : gmFr k i = none) (hd : decode cc pc = .ok (.getfield idx, 3)) (kk : gmR (σ k i) → J φ σ (pc + 3) lv (.inl (σ k i) :: st)) : J φ σ pc lv (.inr k :: st) := by
  obtain ⟨p, l, e, R, s, m, args, below, meth, c, Q, G, A, cells, slots, nL⟩ := φ
  obtain ⟨hx, hb, hml, hown, hts, hK, -⟩ := hG
  obtain ⟨h7, hi, hl⟩ := hf
  intro H locs ls hW h
  obtain ⟨hO, hP, hD, hS⟩ := id hW
  have he := gmW_at G σ (gmKd_lt (by omega : gmKd k < 99))
  rw [gmE_obj hk h7] at he
  exact va_get (D := G.1) (cl := gmCl) (C := (gmC ci).1) (T := (gmC ci).2.1) (N := (gmC ci).2.2) (ci := ci) (v := .int (Int32.ofInt (σ k i))) hx hb hts (gmU h7) hown hK hP k he (gmCl_at h7) i hi (hts _ hl) (fun _ q => q) (by simp [hi, gmFv, hr]) hd (kk (hO k i) H locs ls hW h)
theorem gm_getR (hG : Good φ own cc nl fr lo) {idx ci i k t : Nat} (hf : gmFL own idx ci i) (hk : gmKd k = ci) (hr : gmFr k i = some t) (hd : decode cc pc = .ok (.getfield idx, 3)) (kk : J φ σ (pc + 3) lv (.inr t :: st)) : J φ σ pc lv (.inr k :: st) := by
  obtain ⟨p, l, e, R, s, m, args, below, meth, c, Q, G, A, cells, slots, nL⟩ := φ
  obtain ⟨hx, hb, hml, hown, hts, hK, -⟩ := hG
  obtain ⟨h7, hi, hl⟩ := hf
  intro H locs ls hW h
  obtain ⟨hO, hP, hD, hS⟩ := id hW
  have he := gmW_at G σ (gmKd_lt (by omega : gmKd k < 99))
  rw [gmE_obj hk h7] at he
  exact va_get (D := G.1) (cl := gmCl) (C := (gmC ci).1) (T := (gmC ci).2.1) (N := (gmC ci).2.2) (ci := ci) (v := .ref (G.2.1 t)) hx hb hts (gmU h7) hown hK hP k he (gmCl_at h7) i hi (hts _ hl) (fun _ q => q) (by simp [hi, gmFv, hr]) hd (kk H locs ls hW h)
theorem gm_putI (hG : Good φ own cc nl fr lo) {idx ci i k : Nat} {v : Int} (hf : gmFL own idx ci i) (hk : gmKd k = ci) (hr : gmFr k i = none) (hfin : ((gmC ci).2.1 i).2.2.2 = false) (hty : gmTy0 ci i = .int) (hR : gmR v) (e : σ' = gmUp σ k i v) (hd : decode cc pc = .ok (.putfield idx, 3)) (kk : J φ σ' (pc + 3) lv st) : J φ σ pc lv (.inl v :: .inr k :: st) := by
  obtain ⟨p, l, e0, R, s, m, args, below, meth, c, Q, G, A, cells, slots, nL⟩ := φ
  obtain ⟨hx, hb, hml, hown, hts, hK, -⟩ := hG
  obtain ⟨h7, hi, hl⟩ := hf
  subst e
  intro H locs ls hW h
  obtain ⟨hO, hP, hD, hS⟩ := id hW
  have hk1 := gmKd_lt (by omega : gmKd k < 99)
  have he := gmW_at G σ hk1
  rw [gmE_obj hk h7] at he
  have hd0 := gmTy0_ok ci h7 i hi
  rw [hty] at hd0
  refine va_put (D := G.1) (cl := gmCl) (C := (gmC ci).1) (T := (gmC ci).2.1) (N := (gmC ci).2.2) (ci := ci) (v := .int (Int32.ofInt v)) (ty := .int) hx hb hts (gmU h7) (gmTy0 ci) (gmTy0_ok ci h7) (gmNm_ok ci h7) hown hK hP hD hS k he (gmCl_at h7) i hi (hts _ hl) (fun _ q => q) hfin hd0 rfl rfl (by simp [hi]) hd (fun H1 locs1 hP1 hD1 hS1 => ?_)
  rw [gmFv_put hr, gmW_set hk1 (gmE_obj hk h7).symm gmUp_ne] at hP1 hD1
  exact kk H1 locs1 ls ⟨gmUp_OK hO hR, hP1, hD1, hS1⟩ h
theorem gm_putZ (hG : Good φ own cc nl fr lo) {idx ci i k : Nat} {v : Int} (hf : gmFL own idx ci i) (hk : gmKd k = ci) (hr : gmFr k i = none) (hfin : ((gmC ci).2.1 i).2.2.2 = false) (hty : gmTy0 ci i = .boolean) (hv : v = 0 ∨ v = 1) (e : σ' = gmUp σ k i v) (hd : decode cc pc = .ok (.putfield idx, 3)) (kk : J φ σ' (pc + 3) lv st) : J φ σ pc lv (.inl v :: .inr k :: st) := by
  obtain ⟨p, l, e0, R, s, m, args, below, meth, c, Q, G, A, cells, slots, nL⟩ := φ
  obtain ⟨hx, hb, hml, hown, hts, hK, -⟩ := hG
  obtain ⟨h7, hi, hl⟩ := hf
  subst e
  intro H locs ls hW h
  obtain ⟨hO, hP, hD, hS⟩ := id hW
  have hk1 := gmKd_lt (by omega : gmKd k < 99)
  have he := gmW_at G σ hk1
  rw [gmE_obj hk h7] at he
  have hd0 := gmTy0_ok ci h7 i hi
  rw [hty] at hd0
  refine va_put (D := G.1) (cl := gmCl) (C := (gmC ci).1) (T := (gmC ci).2.1) (N := (gmC ci).2.2) (ci := ci) (v := .int (Int32.ofInt v)) (ty := .boolean) hx hb hts (gmU h7) (gmTy0 ci) (gmTy0_ok ci h7) (gmNm_ok ci h7) hown hK hP hD hS k he (gmCl_at h7) i hi (hts _ hl) (fun _ q => q) hfin hd0 (gm_01 hv).2.1 (gm_01 hv).2.2 (by simp [hi]) hd (fun H1 locs1 hP1 hD1 hS1 => ?_)
  rw [gmFv_put hr, gmW_set hk1 (gmE_obj hk h7).symm gmUp_ne] at hP1 hD1
  exact kk H1 locs1 ls ⟨gmUp_OK hO (gm_01R hv), hP1, hD1, hS1⟩ h
theorem gm_iald (hG : Good φ own cc nl fr lo) {k : Nat} {i : Int} (hk : gmKd k = 10) {n : Int} {t : Nat} (hn : (gmLn k : Int) = n) (hi : 0 ≤ i ∧ i < n) (ht : i.toNat = t) (hd : decode cc pc = .ok (.iaload, 1)) (kk : gmR (σ k t) → J φ σ (pc + 1) lv (.inl (σ k t) :: st)) : J φ σ pc lv (.inl i :: .inr k :: st) := by
  subst hn
  subst ht
  obtain ⟨p, l, e, R, s, m, args, below, meth, c, Q, G, A, cells, slots, nL⟩ := φ
  obtain ⟨hx, hb, hml, hown, hts, hK, -⟩ := hG
  intro H locs ls hW h
  obtain ⟨hO, hP, hD, hS⟩ := id hW
  have he := gmW_at G σ (gmKd_lt (by omega : gmKd k < 99))
  rw [gmE_num (c := 0) hk (by decide)] at he
  refine va_iald (D := G.1) (cl := gmCl) hx hb hK hP k 0 he (gmTy_at G (by decide)) (gmR_in hi (gmLn_lt k)) hd ?_
  rw [gmR_clamp hi (gmLn_lt k)]
  exact kk (hO k _) H locs ls hW h
theorem gm_bald (hG : Good φ own cc nl fr lo) {k : Nat} {i : Int} (hk : gmKd k = 11) {n : Int} {t : Nat} (hn : (gmLn k : Int) = n) (hi : 0 ≤ i ∧ i < n) (ht : i.toNat = t) (hd : decode cc pc = .ok (.baload, 1)) (kk : gmR (σ k t) → J φ σ (pc + 1) lv (.inl (σ k t) :: st)) : J φ σ pc lv (.inl i :: .inr k :: st) := by
  subst hn
  subst ht
  obtain ⟨p, l, e, R, s, m, args, below, meth, c, Q, G, A, cells, slots, nL⟩ := φ
  obtain ⟨hx, hb, hml, hown, hts, hK, -⟩ := hG
  intro H locs ls hW h
  obtain ⟨hO, hP, hD, hS⟩ := id hW
  have he := gmW_at G σ (gmKd_lt (by omega : gmKd k < 99))
  rw [gmE_num (c := 1) hk (by decide)] at he
  refine va_zald (D := G.1) (cl := gmCl) hx hb hK hP k 1 he (gmTy_at G (by decide)) (gmR_in hi (gmLn_lt k)) hd ?_
  rw [gmR_clamp hi (gmLn_lt k)]
  exact kk (hO k _) H locs ls hW h
theorem gm_iast (hG : Good φ own cc nl fr lo) {k : Nat} {i v : Int} (hk : gmKd k = 10) {n : Int} {t : Nat} (hn : (gmLn k : Int) = n) (hi : 0 ≤ i ∧ i < n) (ht : i.toNat = t) (hR : gmR v) (e : σ' = gmUp σ k t v) (hd : decode cc pc = .ok (.iastore, 1)) (kk : J φ σ' (pc + 1) lv st) : J φ σ pc lv (.inl v :: .inl i :: .inr k :: st) := by
  subst hn
  subst ht
  obtain ⟨p, l, e0, R, s, m, args, below, meth, c, Q, G, A, cells, slots, nL⟩ := φ
  obtain ⟨hx, hb, hml, hown, hts, hK, -⟩ := hG
  subst e
  intro H locs ls hW h
  obtain ⟨hO, hP, hD, hS⟩ := id hW
  have hk1 := gmKd_lt (by omega : gmKd k < 99)
  have he := gmW_at G σ hk1
  rw [gmE_num (c := 0) hk (by decide)] at he
  refine va_iast (D := G.1) (cl := gmCl) (x := Int32.ofInt v) hx hb hK hP hD hS k 0 he (gmTy_at G (by decide)) (gmR_in hi (gmLn_lt k)) hd (fun H1 locs1 hP1 hD1 hS1 => ?_)
  rw [gmR_clamp hi (gmLn_lt k), gmUpd_put, gmW_set hk1 (gmE_num (c := 0) hk (by decide)).symm gmUp_ne] at hP1 hD1
  exact kk H1 locs1 ls ⟨gmUp_OK hO hR, hP1, hD1, hS1⟩ h
theorem gm_bast (hG : Good φ own cc nl fr lo) {k : Nat} {i v : Int} (hk : gmKd k = 11) {n : Int} {t : Nat} (hn : (gmLn k : Int) = n) (hi : 0 ≤ i ∧ i < n) (ht : i.toNat = t) (hv : v = 0 ∨ v = 1) (e : σ' = gmUp σ k t v) (hd : decode cc pc = .ok (.bastore, 1)) (kk : J φ σ' (pc + 1) lv st) : J φ σ pc lv (.inl v :: .inl i :: .inr k :: st) := by
  subst hn
  subst ht
  obtain ⟨p, l, e0, R, s, m, args, below, meth, c, Q, G, A, cells, slots, nL⟩ := φ
  obtain ⟨hx, hb, hml, hown, hts, hK, -⟩ := hG
  subst e
  intro H locs ls hW h
  obtain ⟨hO, hP, hD, hS⟩ := id hW
  have hk1 := gmKd_lt (by omega : gmKd k < 99)
  have he := gmW_at G σ hk1
  rw [gmE_num (c := 1) hk (by decide)] at he
  refine va_zast (D := G.1) (cl := gmCl) (x := Int32.ofInt v) hx hb hK hP hD hS k 1 he (gmTy_at G (by decide)) (gmR_in hi (gmLn_lt k)) hd (fun H1 locs1 hP1 hD1 hS1 => ?_)
  rw [gmR_clamp hi (gmLn_lt k), (gm_01 hv).1, gmUpd_put, gmW_set hk1 (gmE_num (c := 1) hk (by decide)).symm gmUp_ne] at hP1 hD1
  exact kk H1 locs1 ls ⟨gmUp_OK hO (gm_01R hv), hP1, hD1, hS1⟩ h
theorem gm_aald (hG : Good φ own cc nl fr lo) {k : Nat} (c0 : Nat) {C : String} {i : Int} (hk : gmKd k = c0 + 10) (h2 : 2 ≤ c0) (h6 : c0 < 6) (hC : gmTyF c0 = .object C) {n : Int} {t : Nat} (hn : (gmLn k : Int) = n) (hi : 0 ≤ i ∧ i < n) (ht : i.toNat = t) (hd : decode cc pc = .ok (.aaload, 1)) (kk : J φ σ (pc + 1) lv (.inr (gmTg k t) :: st)) : J φ σ pc lv (.inl i :: .inr k :: st) := by
  subst hn
  subst ht
  obtain ⟨p, l, e, R, s, m, args, below, meth, c, Q, G, A, cells, slots, nL⟩ := φ
  obtain ⟨hx, hb, hml, hown, hts, hK, -⟩ := hG
  intro H locs ls hW h
  obtain ⟨hO, hP, hD, hS⟩ := id hW
  have he := gmW_at G σ (gmKd_lt (by omega : gmKd k < 99))
  rw [gmE_ref hk h2] at he
  have ht := gmTy_at G h6
  rw [hC] at ht
  refine va_aldq (D := G.1) (cl := gmCl) hx hb hK hP k c0 he ht (gmR_in hi (gmLn_lt k)) hd ?_
  rw [gmR_clamp hi (gmLn_lt k)]
  exact kk H locs ls hW h
theorem gm_alen (hG : Good φ own cc nl fr lo) {k : Nat} (hk : gmKd k = 10) (hd : decode cc pc = .ok (.arraylength, 1)) (kk : J φ σ (pc + 1) lv (.inl (gmLn k) :: st)) : J φ σ pc lv (.inr k :: st) := by
  obtain ⟨p, l, e, R, s, m, args, below, meth, c, Q, G, A, cells, slots, nL⟩ := φ
  obtain ⟨hx, hb, hml, hown, hts, hK, -⟩ := hG
  intro H locs ls hW h
  obtain ⟨hO, hP, hD, hS⟩ := id hW
  have he := gmW_at G σ (gmKd_lt (by omega : gmKd k < 99))
  rw [gmE_num (c := 0) hk (by decide)] at he
  exact va_alen (D := G.1) (cl := gmCl) hx hb hK hP k 0 he (gmTy_at G (by decide)) (v := Int32.ofInt (gmLn k)) Int32.ofInt_eq_ofNat.symm hd (kk H locs ls hW h)
theorem gm_max (hG : Good φ own cc nl fr lo) {idx : Nat} {x y : Int} (hl : Cond.methodLink own idx Lib.Math.max.name ∈ gmT) (hs : Cond.static Lib.Math.max.name ∈ gmT) (hi : Cond.initialized "java/lang/Math" ∈ gmT) (hc : Cond.code Lib.Math.max.name Lib.Math.max.code 2 (some .int) ∈ gmT) (hR : 1 ≤ fr ∧ st.length + 13 ≤ lo) (h1 : gmR x) (h2 : gmR y) (hd : decode cc pc = .ok (.invokestatic idx, 3)) (kk : gmR (if x < y then y else x) → J φ σ (pc + 3) lv (.inl (if x < y then y else x) :: st)) : J φ σ pc lv (.inl y :: .inl x :: st) := by
  obtain ⟨p, l, e, R, s, m, args, below, meth, c, Q, G, A, cells, slots, nL⟩ := φ
  obtain ⟨hx, hb, hml, hown, hts, hK, hN, hA, hfr, hlo, hcl, hsl, rfl⟩ := hG
  intro H locs ls hW h
  have hcat := gm_cat G st
  have hb2 : gmR (if x < y then y else x) := by split <;> assumption
  refine va_mmax (x := Int32.ofInt x) (y := Int32.ofInt y) hx hb (hml.trans h.1.symm) hown (hts _ hl) (hts _ hs) (hts _ hi) (hts _ hc) (by omega) (by rw [hcat]; omega) hcl hsl hd ?_
  have e2 : (if Int32.ofInt x < Int32.ofInt y then Int32.ofInt y else Int32.ofInt x) = Int32.ofInt (if x < y then y else x) := by
    by_cases q : x < y
    · rw [if_pos q, if_pos ((gmR_lt h1 h2).mpr q)]
    · rw [if_neg q, if_neg (fun z => q ((gmR_lt h1 h2).mp z))]
  rw [e2]
  exact kk hb2 H locs ls hW h
/-- what a copy leaves -/
def gmCp (σ : St) (k0 k1 : Nat) (sp dp n : Int) : St := fun k i => if k = k1 ∧ dp.toNat ≤ i ∧ i < dp.toNat + n.toNat then σ k0 (sp.toNat + (i - dp.toNat)) else σ k i
theorem gm_copy (hG : Good φ own cc nl fr lo) {idx k0 k1 : Nat} {sp dp n : Int} (hl : Cond.methodLink own idx arraycopyName ∈ gmT) (hs : Cond.static arraycopyName ∈ gmT) (hn : Cond.native arraycopyName ∈ gmT) (hi : Cond.initialized "java/lang/System" ∈ gmT) (hR : 1 ≤ fr ∧ st.length + (nativeFrameWords "java/lang/System" "arraycopy" 5 + 11) ≤ lo) (hk0 : gmKd k0 = 10) (hk1 : gmKd k1 = 10) (h1 : 0 ≤ sp ∧ 0 ≤ n ∧ sp + n ≤ gmLn k0) (h2 : 0 ≤ dp ∧ dp + n ≤ gmLn k1) (e : σ' = gmCp σ k0 k1 sp dp n) (hd : decode cc pc = .ok (.invokestatic idx, 3)) (kk : J φ σ' (pc + 3) lv st) : J φ σ pc lv (.inl n :: .inl dp :: .inr k1 :: .inl sp :: .inr k0 :: st) := by
  obtain ⟨p, l, e0, R, s, m, args, below, meth, c, Q, G, A, cells, slots, nL⟩ := φ
  obtain ⟨hx, hb, hml, hown, hts, hK, hN, hA, hfr, hlo, hcl, hsl, rfl⟩ := hG
  subst e
  intro H locs ls hW h
  obtain ⟨hO, hP, hD, hS⟩ := id hW
  have q0 := gmKd_lt (by omega : gmKd k0 < 99)
  have q1 := gmKd_lt (by omega : gmKd k1 < 99)
  have he0 := gmW_at G σ q0
  have he1 := gmW_at G σ q1
  rw [gmE_num (c := 0) hk0 (by decide)] at he0
  rw [gmE_num (c := 0) hk1 (by decide)] at he1
  have l0 := gmLn_lt k0
  have l1 := gmLn_lt k1
  have hcat := gm_cat G st
  have nn : ∀ {x : Int}, 0 ≤ x → x < 2147483648 → ¬ Int32.ofInt x < 0 := by
    intro x a b z
    have := (gmR_lt ⟨by omega, b⟩ gmR_0).mp z
    omega
  have cl : ∀ {x : Int}, 0 ≤ x → x < 2147483648 → (Int32.ofInt x).toNatClampNeg = x.toNat := fun a b => Int32.toNatClampNeg_ofInt_of_le (by omega) (by omega)
  have c1 := cl h1.1 (by omega)
  have c2 := cl h2.1 (by omega)
  have c3 := cl h1.2.1 (by omega)
  refine va_copyi (D := G.1) (cl := gmCl) (sp := Int32.ofInt sp) (dp := Int32.ofInt dp) (n := Int32.ofInt n) (ty := .int) hx hb (hml.trans h.1.symm) hown (hts _ hl) (hts _ hn) (hts _ hs) (hts _ hi) hK hP hD hS k0 k1 0 0 he0 he1 (gmTy_at G (by decide)) (gmTy_at G (by decide)) rfl (nn h1.1 (by omega)) (nn h2.1 (by omega)) (nn h1.2.1 (by omega)) (by rw [c1, c3]; omega) (by rw [c2, c3]; omega) (fun _ _ => rfl) (by omega) (by rw [hcat]; omega) hd (fun H1 locs1 hP1 hD1 hS1 => ?_)
  have key : va_cpy (fun i => Int32.ofInt (σ k0 i)) (fun i => Int32.ofInt (σ k1 i)) sp.toNat dp.toNat n.toNat = fun i => Int32.ofInt (gmCp σ k0 k1 sp dp n k1 i) := by
    funext i
    unfold va_cpy gmCp
    by_cases q : dp.toNat ≤ i ∧ i < dp.toNat + n.toNat
    · rw [if_pos q, if_pos ⟨rfl, q⟩]
    · rw [if_neg q, if_neg (fun z => q z.2)]
  have hO' : gmOK (gmCp σ k0 k1 sp dp n) := by
    intro k i
    unfold gmCp
    split
    · exact hO _ _
    · exact hO _ _
  rw [c1, c2, c3, key, gmW_set q1 (gmE_num (c := 0) hk1 (by decide)).symm (fun j i hj => by unfold gmCp; rw [if_neg (fun z => hj z.1)])] at hP1 hD1
  exact kk H1 locs1 ls ⟨hO', hP1, hD1, hS1⟩ h
/-! calls -/
theorem gm_goodIn {y : MethodName} {bc : ByteArray} {nL : Nat} {ret : Option FieldType} (h : Cond.code y bc nL ret ∈ gmT) : GoodIn gmT (.code y bc nL ret :: gmT) := fun w hw => by
  have hm : w ∈ gmT := by
    rcases List.mem_cons.mp hw with q | q
    · rw [q]; exact h
    · exact q
  exact ⟨hm, good_of_word (gmT_good w hm)⟩
theorem gm_blind {as : List Value} {G : GG} {σ : St} {sz : Nat} : FrameBlind (va_Pc as (gmPre G σ sz)) := fun a U g mk q => by
  obtain ⟨q0, q1, q2, qP, qK, qD, qN⟩ := q
  exact ⟨q0, q1, q2, qP, va_K.moved (u := U) (U := U.calling g mk a) (Vm.Alike.refl U.vm) qK, qD, fun w hw => va_Nw.same (u := U) (U := U.calling g mk a) rfl rfl (qN w hw)⟩
theorem gm_pre {s U : State} {G : GG} {σ : St} {A : Nat → Prop} {H0 H : Heap} {locs : List Loc} {as : List Value} (hW : gmWd G A H0 σ H locs) (hK : va_K G.1 gmCl (gmTy G) s) (hN : gmNw s) (hU : U.heap = H) (hwm : s.WarmedH U.vm) : va_Pc as (gmPre G σ H.size) as.toArray U :=
  ⟨rfl, by rw [hU], hW.1, by rw [hU]; exact hW.2.1, va_K.moved hwm.alike hK, gmD_to hW.2.2.1 (fun _ _ _ => trivial), fun w hw => va_Nw.warmM hwm (hN w hw)⟩
theorem gm_free {G : GG} {σ : St} {A : Nat → Prop} {H0 H : Heap} {locs : List Loc} (hD : va_D A (gmW G σ)) (hS : va_S A H0 H locs) (hA : ∀ q, H0.size ≤ q → A q) : ∀ q, gmA G H.size q → A q := by
  intro q h
  rcases h with ⟨k, hk, rfl⟩ | h
  · exact hD.2 k _ (gmW_at G σ hk)
  · exact hA q (Nat.le_trans hS.1 h)
theorem gm_callVi (hG : Good φ own cc nl fr lo) {idx nL n ci k f lo' : Nat} {y : MethodName} {bc : ByteArray} {ret : Option FieldType} (as st : List AV) {stk : List AV} {v : Int} (hM : gmMV own idx y bc nL ret n ci) (hC : Ctr y bc nL ret f lo' (.inr k :: as) σ (some v) σ') (hk : gmKd k = ci) (hn : as.length = n) (hR : f + 1 ≤ fr ∧ 8 + (nL + 11) + lo' ≤ lo) (hst : st.length ≤ 8) (hstk : stk = as.reverse ++ .inr k :: st) (hd : decode cc pc = .ok (.invokevirtual idx, 3)) (kk : gmR v → J φ σ' (pc + 3) lv (.inl v :: st)) : J φ σ pc lv stk := by
  obtain ⟨p, l, e0, R, s, m, args, below, meth, c, Q, G, A, cells, slots, nL0⟩ := φ
  obtain ⟨hx, hb, hml, hown, hts, hK, hN, hA, hfr, hlo, hcl, hsl, rfl⟩ := hG
  obtain ⟨h7, hyc, w1, w2, w3, w4, w5, hy1, hy2, hy3⟩ := hM
  intro H locs ls hW h
  obtain ⟨hO, hP, hD, hS⟩ := id hW
  have hM' : Met l y (.code y bc nL ret :: gmT) { frames := f, cells := 0, slots := 0, locals := lo' } (va_Pc (.ref (G.2.1 k) :: as.map (gmV G)) (gmPre G σ H.size)) (va_Qi (S := Unit) (fun r' _ => r' = Int32.ofInt v ∧ gmR v ∧ gmOK σ') (fun _ t => va_P G.1 gmCl (gmW G σ') t.heap) (gmA G H.size)) 0 0 (gmA G H.size) := hC hO l G H.size
  have he := gmW_at G σ (gmKd_lt (by omega : gmKd k < 99))
  rw [gmE_obj hk h7] at he
  have cb : CallB R s args own idx y bc nL ret (.code y bc nL ret :: gmT) { frames := f, cells := 0, slots := 0, locals := lo' } 0 0 n := callB_of n hts (gm_goodIn w5) rfl rfl rfl (hts _ w4) (hts _ w1) ⟨hy1, hy2, hy3⟩ ⟨Nat.le_trans hR.1 hfr, Nat.le_trans hR.2 hlo⟩
  have cw : CallW R s args own y.cls idx y bc nL ret (.code y bc nL ret :: gmT) { frames := f, cells := 0, slots := 0, locals := lo' } 0 0 n := ⟨cb, hts _ w2, hts _ w3⟩
  have hrecv : ∃ cellB : Cell, H[G.2.1 k]? = some cellB ∧ cellB.vm.isStatics = false ∧ s.vm.findClass y.cls = some cellB.cls := by
    rw [hyc]
    exact va_recv hK hP (gmCl_at h7) he
  have hfree := gm_free hD hS hA
  have hcat := gm_cat G st
  refine va_calli (mc := 0) (ms := 0) (rest := st.map (gmV G)) (va_runV (As := as.map (gmV G)) (rest := st.map (gmV G)) ⟨hx, hb, hml, hown, hts⟩ hM' cw ⟨gm_blind, hrecv, fun U hU hwm => gm_pre hW hK hN hU hwm⟩ rfl (by rw [List.length_map]; exact hn) h.1 (by show stk.map (gmV G) = _; rw [hstk, List.map_append, List.map_reverse]; rfl) (lv_room (by rw [hcat]; exact hst)) hd ⟨hcl, hsl⟩) hS (fun q _ q2 => hfree q q2) hfree (fun r u t H1 locs1 ht hvm hw hB hz1 hk1 hS1 => ?_)
  obtain ⟨rfl, hv, hO'⟩ := hw
  rw [ht] at hB
  exact kk hv H1 locs1 ls ⟨hO', hB, gmD_to hD (fun _ _ q => q), hS1⟩ h
theorem gm_callVv (hG : Good φ own cc nl fr lo) {idx nL n ci k f lo' : Nat} {y : MethodName} {bc : ByteArray} (as st : List AV) {stk : List AV} (hM : gmMV own idx y bc nL none n ci) (hC : Ctr y bc nL none f lo' (.inr k :: as) σ none σ') (hk : gmKd k = ci) (hn : as.length = n) (hR : f + 1 ≤ fr ∧ 8 + (nL + 11) + lo' ≤ lo) (hst : st.length ≤ 8) (hstk : stk = as.reverse ++ .inr k :: st) (hd : decode cc pc = .ok (.invokevirtual idx, 3)) (kk : J φ σ' (pc + 3) lv st) : J φ σ pc lv stk := by
  obtain ⟨p, l, e0, R, s, m, args, below, meth, c, Q, G, A, cells, slots, nL0⟩ := φ
  obtain ⟨hx, hb, hml, hown, hts, hK, hN, hA, hfr, hlo, hcl, hsl, rfl⟩ := hG
  obtain ⟨h7, hyc, w1, w2, w3, w4, w5, hy1, hy2, hy3⟩ := hM
  intro H locs ls hW h
  obtain ⟨hO, hP, hD, hS⟩ := id hW
  have hM' : Met l y (.code y bc nL none :: gmT) { frames := f, cells := 0, slots := 0, locals := lo' } (va_Pc (.ref (G.2.1 k) :: as.map (gmV G)) (gmPre G σ H.size)) (va_Qv (S := Unit) (fun _ => gmOK σ') (fun _ t => va_P G.1 gmCl (gmW G σ') t.heap) (gmA G H.size)) 0 0 (gmA G H.size) := hC hO l G H.size
  have he := gmW_at G σ (gmKd_lt (by omega : gmKd k < 99))
  rw [gmE_obj hk h7] at he
  have cb : CallB R s args own idx y bc nL none (.code y bc nL none :: gmT) { frames := f, cells := 0, slots := 0, locals := lo' } 0 0 n := callB_of n hts (gm_goodIn w5) rfl rfl rfl (hts _ w4) (hts _ w1) ⟨hy1, hy2, hy3⟩ ⟨Nat.le_trans hR.1 hfr, Nat.le_trans hR.2 hlo⟩
  have cw : CallW R s args own y.cls idx y bc nL none (.code y bc nL none :: gmT) { frames := f, cells := 0, slots := 0, locals := lo' } 0 0 n := ⟨cb, hts _ w2, hts _ w3⟩
  have hrecv : ∃ cellB : Cell, H[G.2.1 k]? = some cellB ∧ cellB.vm.isStatics = false ∧ s.vm.findClass y.cls = some cellB.cls := by
    rw [hyc]
    exact va_recv hK hP (gmCl_at h7) he
  have hfree := gm_free hD hS hA
  have hcat := gm_cat G st
  refine va_callv (mc := 0) (ms := 0) (rest := st.map (gmV G)) (va_runV (As := as.map (gmV G)) (rest := st.map (gmV G)) ⟨hx, hb, hml, hown, hts⟩ hM' cw ⟨gm_blind, hrecv, fun U hU hwm => gm_pre hW hK hN hU hwm⟩ rfl (by rw [List.length_map]; exact hn) h.1 (by show stk.map (gmV G) = _; rw [hstk, List.map_append, List.map_reverse]; rfl) (lv_room (by rw [hcat]; exact hst)) hd ⟨hcl, hsl⟩) hS (fun q _ q2 => hfree q q2) hfree (fun u t H1 locs1 ht hvm hw hB hz1 hk1 hS1 => ?_)
  rw [ht] at hB
  exact kk H1 locs1 ls ⟨hw, hB, gmD_to hD (fun _ _ q => q), hS1⟩ h
theorem gm_callSi (hG : Good φ own cc nl fr lo) {idx nL n f lo' : Nat} {y : MethodName} {bc : ByteArray} {ret : Option FieldType} (as st : List AV) {stk : List AV} {v : Int} (hM : gmMS own idx y bc nL ret n) (hC : Ctr y bc nL ret f lo' as σ (some v) σ') (hn : as.length = n) (hR : f + 1 ≤ fr ∧ 8 + (nL + 11) + lo' ≤ lo) (hst : st.length ≤ 8) (hstk : stk = as.reverse ++ st) (hd : decode cc pc = .ok (.invokestatic idx, 3)) (kk : gmR v → J φ σ' (pc + 3) lv (.inl v :: st)) : J φ σ pc lv stk := by
  obtain ⟨p, l, e0, R, s, m, args, below, meth, c, Q, G, A, cells, slots, nL0⟩ := φ
  obtain ⟨hx, hb, hml, hown, hts, hK, hN, hA, hfr, hlo, hcl, hsl, rfl⟩ := hG
  obtain ⟨hyc, w1, w2, w4, w5, hy1, hy2, hy3⟩ := hM
  intro H locs ls hW h
  obtain ⟨hO, hP, hD, hS⟩ := id hW
  have hM' : Met l y (.code y bc nL ret :: gmT) { frames := f, cells := 0, slots := 0, locals := lo' } (va_Pc (as.map (gmV G)) (gmPre G σ H.size)) (va_Qi (S := Unit) (fun r' _ => r' = Int32.ofInt v ∧ gmR v ∧ gmOK σ') (fun _ t => va_P G.1 gmCl (gmW G σ') t.heap) (gmA G H.size)) 0 0 (gmA G H.size) := hC hO l G H.size
  have cb : CallB R s args own idx y bc nL ret (.code y bc nL ret :: gmT) { frames := f, cells := 0, slots := 0, locals := lo' } 0 0 n := callB_of n hts (gm_goodIn w5) rfl rfl rfl (hts _ w4) (hts _ w1) ⟨hy1, hy2, hy3⟩ ⟨Nat.le_trans hR.1 hfr, Nat.le_trans hR.2 hlo⟩
  have hfree := gm_free hD hS hA
  have hcat := gm_cat G st
  refine va_calli (mc := 0) (ms := 0) (rest := st.map (gmV G)) (va_runS (As := as.map (gmV G)) (rest := st.map (gmV G)) ⟨hx, hb, hml, hown, hts⟩ hM' ⟨cb, hts _ w2⟩ ⟨gm_blind, fun U hU hwm => gm_pre hW hK hN hU hwm⟩ rfl (by rw [List.length_map]; exact hn) h.1 (by show stk.map (gmV G) = _; rw [hstk, List.map_append, List.map_reverse]) (lv_room (by rw [hcat]; exact hst)) hd ⟨hcl, hsl⟩) hS (fun q _ q2 => hfree q q2) hfree (fun r u t H1 locs1 ht hvm hw hB hz1 hk1 hS1 => ?_)
  obtain ⟨rfl, hv, hO'⟩ := hw
  rw [ht] at hB
  exact kk hv H1 locs1 ls ⟨hO', hB, gmD_to hD (fun _ _ q => q), hS1⟩ h
theorem gm_callNi (hG : Good φ own cc nl fr lo) {idx nL n f lo' : Nat} {y : MethodName} {host : String} {bc : ByteArray} {ret : Option FieldType} (as st : List AV) {stk : List AV} {v : Int} (hM : gmMN own idx y host bc nL ret n) (hC : Ctr y bc nL ret f lo' as σ (some v) σ') (hn : as.length = n) (hR : f + 1 ≤ fr ∧ 8 + (nL + 11) + lo' ≤ lo) (hst : st.length ≤ 8) (hstk : stk = as.reverse ++ st) (hd : decode cc pc = .ok (.invokestatic idx, 3)) (kk : gmR v → J φ σ' (pc + 3) lv (.inl v :: st)) : J φ σ pc lv stk := by
  obtain ⟨p, l, e0, R, s, m, args, below, meth, c, Q, G, A, cells, slots, nL0⟩ := φ
  obtain ⟨hx, hb, hml, hown, hts, hK, hN, hA, hfr, hlo, hcl, hsl, rfl⟩ := hG
  obtain ⟨w1, w2, w4, w5, hy1, hy2, hy3⟩ := hM
  intro H locs ls hW h
  obtain ⟨hO, hP, hD, hS⟩ := id hW
  have hM' : Met l y (.code y bc nL ret :: gmT) { frames := f, cells := 0, slots := 0, locals := lo' } (va_Pc (as.map (gmV G)) (gmPre G σ H.size)) (va_Qi (S := Unit) (fun r' _ => r' = Int32.ofInt v ∧ gmR v ∧ gmOK σ') (fun _ t => va_P G.1 gmCl (gmW G σ') t.heap) (gmA G H.size)) 0 0 (gmA G H.size) := hC hO l G H.size
  have cn : va_CN R s args own idx y host bc nL ret (.code y bc nL ret :: gmT) { frames := f, cells := 0, slots := 0, locals := lo' } 0 0 n := va_cnB n hts (gm_goodIn w5) rfl rfl rfl (hN _ w1) (hts _ w4) ⟨hy1, hy2, hy3⟩ ⟨Nat.le_trans hR.1 hfr, Nat.le_trans hR.2 hlo⟩
  have hfree := gm_free hD hS hA
  have hcat := gm_cat G st
  refine va_calli (mc := 0) (ms := 0) (rest := st.map (gmV G)) (va_runSN (As := as.map (gmV G)) (rest := st.map (gmV G)) ⟨hx, hb, hml, hown, hts⟩ hM' ⟨cn, hts _ w2, trivial⟩ ⟨gm_blind, fun U hU hwm => gm_pre hW hK hN hU hwm⟩ rfl (by rw [List.length_map]; exact hn) h.1 (by show stk.map (gmV G) = _; rw [hstk, List.map_append, List.map_reverse]) (lv_room (by rw [hcat]; exact hst)) hd ⟨hcl, hsl⟩) hS (fun q _ q2 => hfree q q2) hfree (fun r u t H1 locs1 ht hvm hw hB hz1 hk1 hS1 => ?_)
  obtain ⟨rfl, hv, hO'⟩ := hw
  rw [ht] at hB
  exact kk hv H1 locs1 ls ⟨hO', hB, gmD_to hD (fun _ _ q => q), hS1⟩ h
end GH
/-! entry and end -/
def FinI (φ : Fx) (cc : ByteArray) (v : Int) (σ' : St) : Prop := match φ with
  | (p, l, e, R, s, m, args, below, meth, c, Q, G, A, cells, slots, nL) => ∀ (pc : Nat) (H : Heap) (locs : List Loc) (ls : Array Slot), decode cc pc = .ok (.ireturn, 1) → gmR v → gmWd G A s.heap σ' H locs → W p l e R s m args below meth c H locs cells slots Q (F0 m pc ls [.int (Int32.ofInt v)])
def FinZ (φ : Fx) (cc : ByteArray) (v : Int) (σ' : St) : Prop := match φ with
  | (p, l, e, R, s, m, args, below, meth, c, Q, G, A, cells, slots, nL) => ∀ (pc : Nat) (H : Heap) (locs : List Loc) (ls : Array Slot), decode cc pc = .ok (.ireturn, 1) → (v = 0 ∨ v = 1) → gmWd G A s.heap σ' H locs → W p l e R s m args below meth c H locs cells slots Q (F0 m pc ls [.int (Int32.ofInt v)])
def FinV (φ : Fx) (cc : ByteArray) (σ' : St) : Prop := match φ with
  | (p, l, e, R, s, m, args, below, meth, c, Q, G, A, cells, slots, nL) => ∀ (pc : Nat) (H : Heap) (locs : List Loc) (ls : Array Slot), decode cc pc = .ok (.return_, 1) → gmWd G A s.heap σ' H locs → W p l e R s m args below meth c H locs cells slots Q (F0 m pc ls [])
theorem gm_iret {φ : Fx} {cc : ByteArray} {v : Int} {σ : St} {pc : Nat} {lv : List (Nat × AV)} (hF : FinI φ cc v σ) (hR : gmR v) (hd : decode cc pc = .ok (.ireturn, 1)) : J φ σ pc lv [.inl v] := by
  obtain ⟨p, l, e0, R, s, m, args, below, meth, c, Q, G, A, cells, slots, nL0⟩ := φ
  intro H locs ls hW h
  exact hF pc H locs ls hd hR hW
theorem gm_zret {φ : Fx} {cc : ByteArray} {v : Int} {σ : St} {pc : Nat} {lv : List (Nat × AV)} (hF : FinZ φ cc v σ) (hR : v = 0 ∨ v = 1) (hd : decode cc pc = .ok (.ireturn, 1)) : J φ σ pc lv [.inl v] := by
  obtain ⟨p, l, e0, R, s, m, args, below, meth, c, Q, G, A, cells, slots, nL0⟩ := φ
  intro H locs ls hW h
  exact hF pc H locs ls hd hR hW
theorem gm_vret {φ : Fx} {cc : ByteArray} {σ : St} {pc : Nat} {lv : List (Nat × AV)} (hF : FinV φ cc σ) (hd : decode cc pc = .ok (.return_, 1)) : J φ σ pc lv [] := by
  obtain ⟨p, l, e0, R, s, m, args, below, meth, c, Q, G, A, cells, slots, nL0⟩ := φ
  intro H locs ls hW h
  exact hF pc H locs ls hd hW
def gmArgs : Nat → List AV → List (Nat × AV)
  | _, [] => []
  | i, v :: vs => (i, v) :: gmArgs (i + 1) vs
theorem gmArgs_lv (G : GG) : ∀ (as : List AV) (i : Nat), lv_args i (as.map (gmV G)) = (gmArgs i as).map fun q => (q.1, gmV G q.2)
  | [], _ => rfl
  | v :: vs, i => by
    show (i, gmV G v) :: lv_args (if (gmV G v).category = 2 then i + 2 else i + 1) (vs.map (gmV G)) = (i, gmV G v) :: _
    rw [if_neg (by rw [gmV_cat]; decide), gmArgs_lv G vs (i + 1)]
theorem gmSl_len (G : GG) : ∀ as : List AV, (lg_sl (as.map (gmV G))).length = as.length
  | [] => rfl
  | v :: vs => by
    have ih := gmSl_len G vs
    unfold lg_sl at ih ⊢
    rw [List.map_cons, List.flatMap_cons, if_neg (by rw [gmV_cat]; decide), List.length_append, ih]
    simp only [List.length_cons, List.length_nil]
    omega
theorem Ctr.ofI {y : MethodName} {bc : ByteArray} {nL f lo : Nat} {as : List AV} {σ σ' : St} {v : Int} {own : String} (hpl : plainName y.cls = true) (hown : y.cls = own) (hlen : as.length ≤ nL) (body : ∀ φ, Good φ own bc nL f lo → FinI φ bc v σ' → J φ σ 0 (gmArgs 0 as) []) : Ctr y bc nL (some .int) f lo as σ (some v) σ' := by
  intro hO l G sz
  refine Met.ofW (cc := bc) (maxL := nL) (ret := some .int) hpl rfl ?_
  intro p e s m args below meth c s₁ B hml hv
  obtain ⟨rfl, hsz, -, hP, hK, hD0, hN⟩ := hv
  subst hsz
  have hx := B.exec
  have hb := B.bytes
  have hr := B.returns
  have hts := atoms_spec (ws := .code y bc nL (some .int) :: gmT) B.pre
  have hown' : s.vm.findClass own = some m.cls := by rw [← hown]; exact findClass_of_methodNamed B.named
  have hlocks := B.notSynchronized
  have hl := lv_entry (as.map (gmV G)) (n := nL) (by rw [gmSl_len]; exact hlen)
  rw [gmArgs_lv] at hl
  rw [lg_entry_eq]
  exact body (p, l, e, { frames := f, cells := 0, slots := 0, locals := lo }, s, m, (as.map (gmV G)).toArray, below, meth, c, MQ below (gmPost G (some v) σ' s.heap.size) (as.map (gmV G)).toArray s 0 0 (gmA G s.heap.size), G, gmA G s.heap.size, 0, 0, nL)
    ⟨hx, hb, hml, hown', fun w hw => hts w (List.mem_cons_of_mem _ hw), hK, hN, fun q h => Or.inr h, Nat.le_refl _, Nat.le_refl _, Nat.le_refl _, Nat.le_refl _, rfl⟩
    (fun pc H locs ls hd hv hW => W.iret hx hb hr (fun t ht hwm => ⟨⟨Int32.ofInt v, (), rfl, ⟨rfl, hv, hW.1⟩, by show va_P G.1 gmCl (gmW G σ') t.heap; rw [ht]; exact hW.2.1⟩, hW.2.2.2.F ht⟩) hW.2.2.2.2.2 hd)
    s.heap [] _ ⟨hO, hP, gmD_to hD0 (fun k hk _ => Or.inl ⟨k, hk, rfl⟩), va_S.rf⟩ hl
theorem Ctr.ofZ {y : MethodName} {bc : ByteArray} {nL f lo : Nat} {as : List AV} {σ σ' : St} {v : Int} {own : String} (hpl : plainName y.cls = true) (hown : y.cls = own) (hlen : as.length ≤ nL) (body : ∀ φ, Good φ own bc nL f lo → FinZ φ bc v σ' → J φ σ 0 (gmArgs 0 as) []) : Ctr y bc nL (some .boolean) f lo as σ (some v) σ' := by
  intro hO l G sz
  refine Met.ofW (cc := bc) (maxL := nL) (ret := some .boolean) hpl rfl ?_
  intro p e s m args below meth c s₁ B hml hv
  obtain ⟨rfl, hsz, -, hP, hK, hD0, hN⟩ := hv
  subst hsz
  have hx := B.exec
  have hb := B.bytes
  have hr := B.returns
  have hts := atoms_spec (ws := .code y bc nL (some .boolean) :: gmT) B.pre
  have hown' : s.vm.findClass own = some m.cls := by rw [← hown]; exact findClass_of_methodNamed B.named
  have hlocks := B.notSynchronized
  have hl := lv_entry (as.map (gmV G)) (n := nL) (by rw [gmSl_len]; exact hlen)
  rw [gmArgs_lv] at hl
  rw [lg_entry_eq]
  exact body (p, l, e, { frames := f, cells := 0, slots := 0, locals := lo }, s, m, (as.map (gmV G)).toArray, below, meth, c, MQ below (gmPost G (some v) σ' s.heap.size) (as.map (gmV G)).toArray s 0 0 (gmA G s.heap.size), G, gmA G s.heap.size, 0, 0, nL)
    ⟨hx, hb, hml, hown', fun w hw => hts w (List.mem_cons_of_mem _ hw), hK, hN, fun q h => Or.inr h, Nat.le_refl _, Nat.le_refl _, Nat.le_refl _, Nat.le_refl _, rfl⟩
    (fun pc H locs ls hd hv hW => W.zret hx hb hr (gm_01 hv).2.1 (fun t ht hwm => ⟨⟨Int32.ofInt v, (), rfl, ⟨rfl, gm_01R hv, hW.1⟩, by show va_P G.1 gmCl (gmW G σ') t.heap; rw [ht]; exact hW.2.1⟩, hW.2.2.2.F ht⟩) hW.2.2.2.2.2 hd)
    s.heap [] _ ⟨hO, hP, gmD_to hD0 (fun k hk _ => Or.inl ⟨k, hk, rfl⟩), va_S.rf⟩ hl
theorem Ctr.ofV {y : MethodName} {bc : ByteArray} {nL f lo : Nat} {as : List AV} {σ σ' : St} {own : String} (hpl : plainName y.cls = true) (hown : y.cls = own) (hlen : as.length ≤ nL) (body : ∀ φ, Good φ own bc nL f lo → FinV φ bc σ' → J φ σ 0 (gmArgs 0 as) []) : Ctr y bc nL none f lo as σ none σ' := by
  intro hO l G sz
  refine Met.ofW (cc := bc) (maxL := nL) (ret := none) hpl rfl ?_
  intro p e s m args below meth c s₁ B hml hv
  obtain ⟨rfl, hsz, -, hP, hK, hD0, hN⟩ := hv
  subst hsz
  have hx := B.exec
  have hb := B.bytes
  have hr := B.returns
  have hts := atoms_spec (ws := .code y bc nL none :: gmT) B.pre
  have hown' : s.vm.findClass own = some m.cls := by rw [← hown]; exact findClass_of_methodNamed B.named
  have hlocks := B.notSynchronized
  have hl := lv_entry (as.map (gmV G)) (n := nL) (by rw [gmSl_len]; exact hlen)
  rw [gmArgs_lv] at hl
  rw [lg_entry_eq]
  exact body (p, l, e, { frames := f, cells := 0, slots := 0, locals := lo }, s, m, (as.map (gmV G)).toArray, below, meth, c, MQ below (gmPost G none σ' s.heap.size) (as.map (gmV G)).toArray s 0 0 (gmA G s.heap.size), G, gmA G s.heap.size, 0, 0, nL)
    ⟨hx, hb, hml, hown', fun w hw => hts w (List.mem_cons_of_mem _ hw), hK, hN, fun q h => Or.inr h, Nat.le_refl _, Nat.le_refl _, Nat.le_refl _, Nat.le_refl _, rfl⟩
    (fun pc H locs ls hd hW => W.vret hx hb hr (fun t ht hwm => ⟨⟨(), rfl, hW.1, by show va_P G.1 gmCl (gmW G σ') t.heap; rw [ht]; exact hW.2.1⟩, hW.2.2.2.F ht⟩) hW.2.2.2.2.2 hd)
    s.heap [] _ ⟨hO, hP, gmD_to hD0 (fun k hk _ => Or.inl ⟨k, hk, rfl⟩), va_S.rf⟩ hl
