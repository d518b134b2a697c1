/-! small laws for the printed walks -/
theorem gm_kdiv {x y : Int} (h1 : 0 ≤ x ∧ x < 2147483648) (h2 : 0 < y ∧ y < 2147483648) : gmR (x / y) := by
  have a1 : 0 ≤ x / y := Int.ediv_nonneg h1.1 (by omega)
  have a2 : x / y ≤ x := Int.ediv_le_self _ h1.1
  exact ⟨by omega, by omega⟩
theorem gm_krem {x y : Int} (h2 : 0 < y ∧ y < 2147483648) : gmR (x % y) := by
  have a1 : 0 ≤ x % y := Int.emod_nonneg _ (by omega)
  have a2 : x % y < y := Int.emod_lt_of_pos _ h2.1
  exact ⟨by omega, by omega⟩
theorem gm_k64 {x : Int} : gmR (x % 64) := gm_krem ⟨by decide, by decide⟩
theorem gm_kand {x y : Int} (h1 : gmR x) (hg : 0 ≤ x ∧ 0 ≤ y) : gmR ((x.toNat &&& y.toNat : Nat) : Int) := gm_b31 (gm_andlt (by omega))
theorem gm_kor {x y : Int} (h1 : gmR x) (h2 : gmR y) (hg : 0 ≤ x ∧ 0 ≤ y) : gmR ((x.toNat ||| y.toNat : Nat) : Int) := gm_b31 (gm_orlt (by omega) (by omega))
theorem gm_kshl {x y : Int} (hg : (0 ≤ x ∧ 0 ≤ y ∧ y < 32) ∧ x * 2 ^ y.toNat < 2147483648) : gmR (x * 2 ^ y.toNat) := by
  have : 0 ≤ x * 2 ^ y.toNat := Int.mul_nonneg hg.1.1 (Int.pow_nonneg (by decide))
  exact ⟨by omega, hg.2⟩
theorem gm_kshr {x y : Int} (h1 : gmR x) (hg : 0 ≤ x ∧ 0 ≤ y ∧ y < 32) : gmR (x / 2 ^ y.toNat) := by
  have a0 : (0 : Int) ≤ 2 ^ y.toNat := Int.pow_nonneg (by decide)
  have a1 : 0 ≤ x / 2 ^ y.toNat := Int.ediv_nonneg hg.1 a0
  have a2 : x / 2 ^ y.toNat ≤ x := Int.ediv_le_self _ hg.1
  exact ⟨by omega, by omega⟩
theorem gmJ_pos {φ : Fx} {σ : St} {pc : Nat} {lv : List (Nat × AV)} {st : List AV} {c : Prop} [Decidable c] {a b : Int} (hc : c) (h : J φ σ pc lv (.inl (if c then a else b) :: st)) : J φ σ pc lv (.inl a :: st) := by rw [if_pos hc] at h; exact h
theorem gmJ_neg {φ : Fx} {σ : St} {pc : Nat} {lv : List (Nat × AV)} {st : List AV} {c : Prop} [Decidable c] {a b : Int} (hc : ¬ c) (h : J φ σ pc lv (.inl (if c then a else b) :: st)) : J φ σ pc lv (.inl b :: st) := by rw [if_neg hc] at h; exact h
theorem gm_topR {φ : Fx} {σ : St} {pc : Nat} {lv : List (Nat × AV)} {st : List AV} {x y : Nat} (e : x = y) (k : J φ σ pc lv (.inr x :: st)) : J φ σ pc lv (.inr y :: st) := e ▸ k
theorem gm_kr {x y : Int} (e : x = y) (h : gmR y) : gmR x := e ▸ h
theorem gm_kz {x y : Int} (e : x = y) (h : y = 0 ∨ y = 1) : x = 0 ∨ x = 1 := e ▸ h
theorem gm_kd {x y c : Nat} (e : x = y) (h : gmKd y = c) : gmKd x = c := e ▸ h
theorem gm_mx1 : Cond.static Lib.Math.max.name ∈ gmT := gm_mem 439 (by decide +kernel) (by decide +kernel)
theorem gm_mx2 : Cond.initialized "java/lang/Math" ∈ gmT := gm_mem 8 (by decide +kernel) (by decide +kernel)
theorem gm_mx3 : Cond.code Lib.Math.max.name Lib.Math.max.code 2 (some .int) ∈ gmT := gm_mem 440 (by decide +kernel) (by decide +kernel)
theorem gm_mxM : Cond.methodLink "GarmentMarker$Marker" 114 Lib.Math.max.name ∈ gmT := gm_mem 438 (by decide +kernel) (by decide +kernel)
theorem gm_mxS : Cond.methodLink "GarmentMarker$State" 99 Lib.Math.max.name ∈ gmT := gm_mem 498 (by decide +kernel) (by decide +kernel)
theorem gm_ac1 : Cond.static arraycopyName ∈ gmT := gm_mem 536 (by decide +kernel) (by decide +kernel)
theorem gm_ac2 : Cond.native arraycopyName ∈ gmT := gm_mem 537 (by decide +kernel) (by decide +kernel)
theorem gm_ac3 : Cond.initialized "java/lang/System" ∈ gmT := gm_mem 9 (by decide +kernel) (by decide +kernel)
theorem gm_acX : Cond.methodLink "GarmentMarker" 219 arraycopyName ∈ gmT := gm_mem 535 (by decide +kernel) (by decide +kernel)
theorem gm_acS : Cond.methodLink "GarmentMarker$State" 52 arraycopyName ∈ gmT := gm_mem 550 (by decide +kernel) (by decide +kernel)
theorem gmKc_0 : gmKd 0 = 5 := rfl
theorem gmKc_1 : gmKd 1 = 4 := rfl
theorem gmKc_2 : gmKd 2 = 12 := rfl
theorem gmLc_2 : (gmLn 2 : Int) = 6 := rfl
theorem gmKc_3 : gmKd 3 = 2 := rfl
theorem gmKc_4 : gmKd 4 = 2 := rfl
theorem gmKc_5 : gmKd 5 = 2 := rfl
theorem gmKc_6 : gmKd 6 = 2 := rfl
theorem gmKc_7 : gmKd 7 = 2 := rfl
theorem gmKc_8 : gmKd 8 = 2 := rfl
theorem gmKc_9 : gmKd 9 = 13 := rfl
theorem gmLc_9 : (gmLn 9 : Int) = 6 := rfl
theorem gmKc_10 : gmKd 10 = 3 := rfl
theorem gmKc_11 : gmKd 11 = 3 := rfl
theorem gmKc_12 : gmKd 12 = 3 := rfl
theorem gmKc_13 : gmKd 13 = 3 := rfl
theorem gmKc_14 : gmKd 14 = 3 := rfl
theorem gmKc_15 : gmKd 15 = 3 := rfl
theorem gmKc_16 : gmKd 16 = 10 := rfl
theorem gmLc_16 : (gmLn 16 : Int) = 3 := rfl
theorem gmKc_17 : gmKd 17 = 10 := rfl
theorem gmLc_17 : (gmLn 17 : Int) = 3 := rfl
theorem gmKc_18 : gmKd 18 = 4 := rfl
theorem gmKc_19 : gmKd 19 = 12 := rfl
theorem gmLc_19 : (gmLn 19 : Int) = 6 := rfl
theorem gmKc_20 : gmKd 20 = 2 := rfl
theorem gmKc_21 : gmKd 21 = 2 := rfl
theorem gmKc_22 : gmKd 22 = 2 := rfl
theorem gmKc_23 : gmKd 23 = 2 := rfl
theorem gmKc_24 : gmKd 24 = 2 := rfl
theorem gmKc_25 : gmKd 25 = 2 := rfl
theorem gmKc_26 : gmKd 26 = 13 := rfl
theorem gmLc_26 : (gmLn 26 : Int) = 6 := rfl
theorem gmKc_27 : gmKd 27 = 3 := rfl
theorem gmKc_28 : gmKd 28 = 3 := rfl
theorem gmKc_29 : gmKd 29 = 3 := rfl
theorem gmKc_30 : gmKd 30 = 3 := rfl
theorem gmKc_31 : gmKd 31 = 3 := rfl
theorem gmKc_32 : gmKd 32 = 3 := rfl
theorem gmKc_33 : gmKd 33 = 10 := rfl
theorem gmLc_33 : (gmLn 33 : Int) = 3 := rfl
theorem gmKc_34 : gmKd 34 = 10 := rfl
theorem gmLc_34 : (gmLn 34 : Int) = 3 := rfl
theorem gmKc_35 : gmKd 35 = 4 := rfl
theorem gmKc_36 : gmKd 36 = 12 := rfl
theorem gmLc_36 : (gmLn 36 : Int) = 6 := rfl
theorem gmKc_37 : gmKd 37 = 2 := rfl
theorem gmKc_38 : gmKd 38 = 2 := rfl
theorem gmKc_39 : gmKd 39 = 2 := rfl
theorem gmKc_40 : gmKd 40 = 2 := rfl
theorem gmKc_41 : gmKd 41 = 2 := rfl
theorem gmKc_42 : gmKd 42 = 2 := rfl
theorem gmKc_43 : gmKd 43 = 13 := rfl
theorem gmLc_43 : (gmLn 43 : Int) = 6 := rfl
theorem gmKc_44 : gmKd 44 = 3 := rfl
theorem gmKc_45 : gmKd 45 = 3 := rfl
theorem gmKc_46 : gmKd 46 = 3 := rfl
theorem gmKc_47 : gmKd 47 = 3 := rfl
theorem gmKc_48 : gmKd 48 = 3 := rfl
theorem gmKc_49 : gmKd 49 = 3 := rfl
theorem gmKc_50 : gmKd 50 = 10 := rfl
theorem gmLc_50 : (gmLn 50 : Int) = 3 := rfl
theorem gmKc_51 : gmKd 51 = 10 := rfl
theorem gmLc_51 : (gmLn 51 : Int) = 3 := rfl
theorem gmKc_52 : gmKd 52 = 14 := rfl
theorem gmLc_52 : (gmLn 52 : Int) = 2 := rfl
theorem gmKc_53 : gmKd 53 = 11 := rfl
theorem gmLc_53 : (gmLn 53 : Int) = 2 := rfl
theorem gmKc_54 : gmKd 54 = 0 := rfl
theorem gmKc_55 : gmKd 55 = 15 := rfl
theorem gmLc_55 : (gmLn 55 : Int) = 72 := rfl
theorem gmKc_56 : gmKd 56 = 1 := rfl
theorem gmKc_128 : gmKd 128 = 10 := rfl
theorem gmLc_128 : (gmLn 128 : Int) = 72 := rfl
theorem gmKc_129 : gmKd 129 = 10 := rfl
theorem gmLc_129 : (gmLn 129 : Int) = 72 := rfl
theorem gmKc_130 : gmKd 130 = 10 := rfl
theorem gmLc_130 : (gmLn 130 : Int) = 72 := rfl
theorem gmKc_131 : gmKd 131 = 10 := rfl
theorem gmLc_131 : (gmLn 131 : Int) = 72 := rfl
theorem gmKc_132 : gmKd 132 = 10 := rfl
theorem gmLc_132 : (gmLn 132 : Int) = 3 := rfl
theorem gmKc_133 : gmKd 133 = 6 := rfl
theorem gmKc_134 : gmKd 134 = 10 := rfl
theorem gmLc_134 : (gmLn 134 : Int) = 78 := rfl
theorem gmKc_135 : gmKd 135 = 10 := rfl
theorem gmLc_135 : (gmLn 135 : Int) = 156 := rfl
theorem gmKc_136 : gmKd 136 = 11 := rfl
theorem gmLc_136 : (gmLn 136 : Int) = 2 := rfl
theorem gmKc_137 : gmKd 137 = 10 := rfl
theorem gmLc_137 : (gmLn 137 : Int) = 72 := rfl
theorem gmKc_138 : gmKd 138 = 10 := rfl
theorem gmLc_138 : (gmLn 138 : Int) = 72 := rfl
theorem gmKc_139 : gmKd 139 = 10 := rfl
theorem gmLc_139 : (gmLn 139 : Int) = 72 := rfl
theorem gmKc_140 : gmKd 140 = 10 := rfl
theorem gmLc_140 : (gmLn 140 : Int) = 72 := rfl
theorem gmKc_141 : gmKd 141 = 11 := rfl
theorem gmLc_141 : (gmLn 141 : Int) = 72 := rfl
theorem gmKc_142 : gmKd 142 = 10 := rfl
theorem gmLc_142 : (gmLn 142 : Int) = 72 := rfl
theorem gmKc_143 : gmKd 143 = 10 := rfl
theorem gmLc_143 : (gmLn 143 : Int) = 72 := rfl
theorem gmKc_144 : gmKd 144 = 10 := rfl
theorem gmLc_144 : (gmLn 144 : Int) = 72 := rfl
theorem gmKc_145 : gmKd 145 = 10 := rfl
theorem gmLc_145 : (gmLn 145 : Int) = 72 := rfl
theorem gmKc_146 : gmKd 146 = 10 := rfl
theorem gmLc_146 : (gmLn 146 : Int) = 72 := rfl
theorem gmKc_147 : gmKd 147 = 10 := rfl
theorem gmLc_147 : (gmLn 147 : Int) = 72 := rfl
theorem gmKc_148 : gmKd 148 = 10 := rfl
theorem gmLc_148 : (gmLn 148 : Int) = 1400 := rfl
theorem gmKc_149 : gmKd 149 = 10 := rfl
theorem gmLc_149 : (gmLn 149 : Int) = 3 := rfl
