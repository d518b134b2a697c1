/-! BITS, SWITCHES, KINDS, SMALL LAWS FOR THE PRINTED WALKS -/
theorem gm_nI {x : Int} (h : 0 ≤ x) : Int32.ofInt x = nI x.toNat := by
  have : x = ((x.toNat : Nat) : Int) := (Int.toNat_of_nonneg h).symm
  rw [this, Int32.ofInt_eq_ofNat]
  rfl
theorem gm_nIo (n : Nat) : Int32.ofInt (n : Int) = nI n := Int32.ofInt_eq_ofNat
theorem gm_nand (a b : Nat) : nI a &&& nI b = nI (a &&& b) := by
  apply Int32.toBitVec_inj.1
  show BitVec.ofNat 32 a &&& BitVec.ofNat 32 b = BitVec.ofNat 32 (a &&& b)
  rw [BitVec.ofNat_and]
theorem gm_nor (a b : Nat) : nI a ||| nI b = nI (a ||| b) := by
  apply Int32.toBitVec_inj.1
  show BitVec.ofNat 32 a ||| BitVec.ofNat 32 b = BitVec.ofNat 32 (a ||| b)
  rw [BitVec.ofNat_or]
theorem gm_sl : ∀ n, n < 32 → ((nI n &&& 31).toBitVec.smod 32).toNat = n := by decide +kernel
theorem gm_b31 {n : Nat} (h : n < 2147483648) : gmR (n : Int) := ⟨by omega, by omega⟩
theorem gm_orlt {a b : Nat} (ha : a < 2147483648) (hb : b < 2147483648) : a ||| b < 2147483648 := Nat.or_lt_two_pow (n := 31) ha hb
theorem gm_andlt {a b : Nat} (ha : a < 2147483648) : a &&& b < 2147483648 := Nat.lt_of_le_of_lt Nat.and_le_left ha
section GB
variable {φ : Fx} {own : String} {cc : ByteArray} {nl fr lo : Nat} {σ σ' : St} {pc : Nat} {lv : List (Nat × AV)} {st : List AV}
theorem gm_iand (hG : Good φ own cc nl fr lo) {x y : Int} (hd : decode cc pc = .ok (.iand, 1)) (h1 : gmR x) (h2 : gmR y) (hg : 0 ≤ x ∧ 0 ≤ y) (k : gmR ((x.toNat &&& y.toNat : Nat) : Int) → J φ σ (pc + 1) lv (.inl ((x.toNat &&& y.toNat : Nat) : Int) :: st)) : J φ σ pc lv (.inl y :: .inl x :: st) := by
  obtain ⟨p, l, e, R, s, m, args, below, meth, c, Q, G, A, cells, slots, nL⟩ := φ
  obtain ⟨hx, hb, -⟩ := hG
  intro H locs ls hW h
  refine lv_iand (x := Int32.ofInt x) (y := Int32.ofInt y) hx hb hd ?_
  rw [gm_nI hg.1, gm_nI hg.2, gm_nand, ← gm_nIo]
  exact k (gm_b31 (gm_andlt (by omega))) H locs ls hW h
theorem gm_ior (hG : Good φ own cc nl fr lo) {x y : Int} (hd : decode cc pc = .ok (.ior, 1)) (h1 : gmR x) (h2 : gmR y) (hg : 0 ≤ x ∧ 0 ≤ y) (k : gmR ((x.toNat ||| y.toNat : Nat) : Int) → J φ σ (pc + 1) lv (.inl ((x.toNat ||| y.toNat : Nat) : Int) :: st)) : J φ σ pc lv (.inl y :: .inl x :: st) := by
  obtain ⟨p, l, e, R, s, m, args, below, meth, c, Q, G, A, cells, slots, nL⟩ := φ
  obtain ⟨hx, hb, -⟩ := hG
  intro H locs ls hW h
  refine lv_ior (x := Int32.ofInt x) (y := Int32.ofInt y) hx hb hd ?_
  rw [gm_nI hg.1, gm_nI hg.2, gm_nor, ← gm_nIo]
  exact k (gm_b31 (gm_orlt (by omega) (by omega))) H locs ls hW h
theorem gm_iand63 (hG : Good φ own cc nl fr lo) {x : Int} (hd : decode cc pc = .ok (.iand, 1)) (k : gmR (x % 64) → J φ σ (pc + 1) lv (.inl (x % 64) :: st)) : J φ σ pc lv (.inl 63 :: .inl x :: st) := by
  obtain ⟨p, l, e, R, s, m, args, below, meth, c, Q, G, A, cells, slots, nL⟩ := φ
  obtain ⟨hx, hb, -⟩ := hG
  intro H locs ls hW h
  refine lv_iand (x := Int32.ofInt x) (y := Int32.ofInt 63) hx hb hd ?_
  have e1 : (Int32.ofInt x).toBitVec.toNat % 2 ^ 6 = (x % 64).toNat := by
    have : (Int32.ofInt x).toBitVec = BitVec.ofInt 32 x := rfl
    rw [this, BitVec.toNat_ofInt]
    omega
  rw [pk_and (Int32.ofInt x) (m := Int32.ofInt 63) 6 (by decide +kernel), e1, ← gm_nI (Int.emod_nonneg _ (by decide))]
  have a1 := Int.emod_nonneg x (show (64 : Int) ≠ 0 by decide)
  have a2 := Int.emod_lt_of_pos x (show (0 : Int) < 64 by decide)
  exact k ⟨by omega, by omega⟩ H locs ls hW h
theorem gm_ishl (hG : Good φ own cc nl fr lo) {x y : Int} (hd : decode cc pc = .ok (.ishl, 1)) (hg : (0 ≤ x ∧ 0 ≤ y ∧ y < 32) ∧ x * 2 ^ y.toNat < 2147483648) (k : gmR (x * 2 ^ y.toNat) → J φ σ (pc + 1) lv (.inl (x * 2 ^ y.toNat) :: st)) : J φ σ pc lv (.inl y :: .inl x :: st) := by
  obtain ⟨p, l, e, R, s, m, args, below, meth, c, Q, G, A, cells, slots, nL⟩ := φ
  obtain ⟨hx, hb, -⟩ := hG
  intro H locs ls hW h
  refine lv_ishl (x := Int32.ofInt x) (y := Int32.ofInt y) hx hb hd ?_
  obtain ⟨⟨g1, g2, g3⟩, g4⟩ := hg
  have e1 : x = ((x.toNat : Nat) : Int) := (Int.toNat_of_nonneg g1).symm
  have e2 : x * 2 ^ y.toNat = ((x.toNat * 2 ^ y.toNat : Nat) : Int) := by
    rw [Int.natCast_mul, Int.natCast_pow, ← e1]; rfl
  have hlt : x.toNat * 2 ^ y.toNat < 2147483648 := by omega
  rw [gm_nI g1, gm_nI g2, pk_shlN (nI y.toNat &&& 31) y.toNat (gm_sl _ (by omega)) (by omega), ← gm_nIo, ← e2]
  exact k (by rw [e2]; exact gm_b31 hlt) H locs ls hW h
theorem gm_ishr (hG : Good φ own cc nl fr lo) {x y : Int} (hd : decode cc pc = .ok (.ishr, 1)) (h1 : gmR x) (hg : 0 ≤ x ∧ 0 ≤ y ∧ y < 32) (k : gmR (x / 2 ^ y.toNat) → J φ σ (pc + 1) lv (.inl (x / 2 ^ y.toNat) :: st)) : J φ σ pc lv (.inl y :: .inl x :: st) := by
  obtain ⟨p, l, e, R, s, m, args, below, meth, c, Q, G, A, cells, slots, nL⟩ := φ
  obtain ⟨hx, hb, -⟩ := hG
  intro H locs ls hW h
  refine lv_ishr (x := Int32.ofInt x) (y := Int32.ofInt y) hx hb hd ?_
  obtain ⟨g1, g2, g3⟩ := hg
  have e1 : x = ((x.toNat : Nat) : Int) := (Int.toNat_of_nonneg g1).symm
  have e2 : x / 2 ^ y.toNat = ((x.toNat / 2 ^ y.toNat : Nat) : Int) := by
    rw [Int.natCast_ediv, Int.natCast_pow, ← e1]; rfl
  have hlt : x.toNat / 2 ^ y.toNat < 2147483648 := Nat.lt_of_le_of_lt (Nat.div_le_self _ _) (by omega)
  rw [gm_nI g1, gm_nI g2, pk_shrN (by omega) (nI y.toNat &&& 31) y.toNat (gm_sl _ (by omega)), ← gm_nIo, ← e2]
  exact k (by rw [e2]; exact gm_b31 hlt) H locs ls hW h
theorem gm_tswIn (hG : Good φ own cc nl fr lo) {x a b d off : Int} {offs : Array Int} {len tgt : Nat} (j : Int) (hx : x = j) (hj : a ≤ j ∧ j ≤ b ∧ gmR j) (ho : offs[(j - a).toNat]? = some off) (hd : decode cc pc = .ok (.tableswitch d a b offs, len)) (ht : (pc : Int) + off = (tgt : Int)) (k : J φ σ tgt lv st) : J φ σ pc lv (.inl x :: st) := by
  obtain ⟨p, l, e, R, s, m, args, below, meth, c, Q, G, A, cells, slots, nL⟩ := φ
  obtain ⟨hx0, hb, -⟩ := hG
  intro H locs ls hW h
  subst hx
  have e1 := gmR_toInt hj.2.2
  exact lv_tableIn (x := Int32.ofInt x) hx0 hb hd (by rw [e1]; omega) (by rw [e1]; omega) (by rw [e1]; exact ho) ht (k H locs ls hW h)
theorem gm_tswOut (hG : Good φ own cc nl fr lo) {x a b d : Int} {offs : Array Int} {len tgt : Nat} (hr : gmR x) (hx : x < a ∨ b < x) (hd : decode cc pc = .ok (.tableswitch d a b offs, len)) (ht : (pc : Int) + d = (tgt : Int)) (k : J φ σ tgt lv st) : J φ σ pc lv (.inl x :: st) := by
  obtain ⟨p, l, e, R, s, m, args, below, meth, c, Q, G, A, cells, slots, nL⟩ := φ
  obtain ⟨hx0, hb, -⟩ := hG
  intro H locs ls hW h
  exact lv_tableOut (x := Int32.ofInt x) hx0 hb hd (by rw [gmR_toInt hr]; exact hx) ht (k H locs ls hW h)
theorem gm_ok (k : gmOK σ → J φ σ pc lv st) : J φ σ pc lv st := by
  obtain ⟨p, l, e, R, s, m, args, below, meth, c, Q, G, A, cells, slots, nL⟩ := φ
  intro H locs ls hW h
  exact k hW.1 H locs ls hW h
theorem gm_top {x y : Int} (e : x = y) (k : J φ σ pc lv (.inl x :: st)) : J φ σ pc lv (.inl y :: st) := e ▸ k
theorem gm_lv {l2 : List (Nat × AV)} (e : l2 = lv) (k : J φ σ pc l2 st) : J φ σ pc lv st := e ▸ k
theorem gm_sto {σ2 : St} (e : σ2 = σ) (k : J φ σ2 pc lv st) : J φ σ pc lv st := e ▸ k
end GB
theorem gmI_pos {α : Type} {c : Prop} [Decidable c] (hc : c) {a b r : α} (h : (if c then a else b) = r) : a = r := by rw [if_pos hc] at h; exact h
theorem gmI_neg {α : Type} {c : Prop} [Decidable c] (hc : ¬ c) {a b r : α} (h : (if c then a else b) = r) : b = r := by rw [if_neg hc] at h; exact h
theorem gm_iret' {φ : Fx} {cc : ByteArray} {v x : Int} {σ σ' : St} {pc : Nat} {lv : List (Nat × AV)} (hF : FinI φ cc v σ') (h : some (x, σ) = some (v, σ')) (hR : gmR x) (hd : decode cc pc = .ok (.ireturn, 1)) : J φ σ pc lv [.inl x] := by
  cases h
  exact gm_iret hF hR hd
theorem gm_zret' {φ : Fx} {cc : ByteArray} {v x : Int} {σ σ' : St} {pc : Nat} {lv : List (Nat × AV)} (hF : FinZ φ cc v σ') (h : some (x, σ) = some (v, σ')) (hR : x = 0 ∨ x = 1) (hd : decode cc pc = .ok (.ireturn, 1)) : J φ σ pc lv [.inl x] := by
  cases h
  exact gm_zret hF hR hd
theorem gm_vret' {φ : Fx} {cc : ByteArray} {σ σ' : St} {pc : Nat} {lv : List (Nat × AV)} (hF : FinV φ cc σ') (h : some σ = some σ') (hd : decode cc pc = .ok (.return_, 1)) : J φ σ pc lv [] := by
  cases h
  exact gm_vret hF hd
theorem gmR_ite {c : Prop} [Decidable c] {a b : Int} (h1 : c → gmR a) (h2 : ¬ c → gmR b) : gmR (if c then a else b) := by
  by_cases h : c
  · rw [if_pos h]; exact h1 h
  · rw [if_neg h]; exact h2 h
theorem gmZ_ite {c : Prop} [Decidable c] {a b : Int} (h1 : c → a = 0 ∨ a = 1) (h2 : ¬ c → b = 0 ∨ b = 1) : (if c then a else b) = 0 ∨ (if c then a else b) = 1 := by
  by_cases h : c
  · rw [if_pos h]; exact h1 h
  · rw [if_neg h]; exact h2 h
/-! kinds -/
theorem gmKtP {k : Nat} {i : Int} (hk : gmKd k = 12) (hi : 0 ≤ i ∧ i < (gmLn k : Int)) : gmKd (gmTg k i.toNat) = 2 := by
  have : ∀ k, k < 150 → gmKd k = 12 → ∀ i, i < gmLn k → gmKd (gmTg k i) = 2 := by decide +kernel
  exact this k (gmKd_lt (by omega)) hk _ (by omega)
theorem gmKtS {k : Nat} {i : Int} (hk : gmKd k = 13) (hi : 0 ≤ i ∧ i < (gmLn k : Int)) : gmKd (gmTg k i.toNat) = 3 := by
  have : ∀ k, k < 150 → gmKd k = 13 → ∀ i, i < gmLn k → gmKd (gmTg k i) = 3 := by decide +kernel
  exact this k (gmKd_lt (by omega)) hk _ (by omega)
theorem gmKtT {k : Nat} {i : Int} (hk : gmKd k = 14) (hi : 0 ≤ i ∧ i < (gmLn k : Int)) : gmKd (gmTg k i.toNat) = 4 := by
  have : ∀ k, k < 150 → gmKd k = 14 → ∀ i, i < gmLn k → gmKd (gmTg k i) = 4 := by decide +kernel
  exact this k (gmKd_lt (by omega)) hk _ (by omega)
theorem gmKtA {k : Nat} {i : Int} (hk : gmKd k = 15) (hi : 0 ≤ i ∧ i < (gmLn k : Int)) : gmKd (gmTg k i.toNat) = 1 := by
  have : ∀ k, k < 150 → gmKd k = 15 → ∀ i, i < gmLn k → gmKd (gmTg k i) = 1 := by decide +kernel
  exact this k (gmKd_lt (by omega)) hk _ (by omega)
/-- fields of a kind that are numbers -/
theorem gmFrN {k : Nat} (i : Nat) (hk : gmKd k = 1 ∨ gmKd k = 2 ∨ gmKd k = 3) : gmFr k i = none := by
  have h0 : ∀ k, k < 150 → (gmKd k = 1 ∨ gmKd k = 2 ∨ gmKd k = 3) → k ≠ 0 ∧ ¬ (k = 1 ∨ k = 18 ∨ k = 35) ∧ k ≠ 54 ∧ k ≠ 133 := by decide +kernel
  obtain ⟨a, b, c, d⟩ := h0 k (gmKd_lt (by omega)) hk
  unfold gmFr
  rw [if_neg a, if_neg b, if_neg c, if_neg d]
theorem gmS_at {k : Nat} (hk : gmKd k = 4) : k = 1 ∨ k = 18 ∨ k = 35 := by
  have h0 : ∀ k, k < 150 → gmKd k = 4 → k = 1 ∨ k = 18 ∨ k = 35 := by decide +kernel
  exact h0 k (gmKd_lt (by omega)) hk
theorem gmS_N {k : Nat} (hk : gmKd k = 4) : gmFr k 2 = none ∧ gmFr k 5 = none ∧ gmFr k 6 = none ∧ gmFr k 7 = none ∧ gmFr k 8 = none ∧ gmFr k 9 = none := by
  rcases gmS_at hk with rfl | rfl | rfl <;> decide
theorem gmS_R {k : Nat} (hk : gmKd k = 4) : gmFr k 0 = some (k + 1) ∧ gmFr k 1 = some (k + 8) ∧ gmFr k 3 = some (k + 15) ∧ gmFr k 4 = some (k + 16) := by
  rcases gmS_at hk with rfl | rfl | rfl <;> decide
theorem gmS_K {k : Nat} (hk : gmKd k = 4) : (gmKd (k + 1) = 12 ∧ (gmLn (k + 1) : Int) = 6) ∧ (gmKd (k + 8) = 13 ∧ (gmLn (k + 8) : Int) = 6) ∧ (gmKd (k + 15) = 10 ∧ (gmLn (k + 15) : Int) = 3) ∧ (gmKd (k + 16) = 10 ∧ (gmLn (k + 16) : Int) = 3) := by
  rcases gmS_at hk with rfl | rfl | rfl <;> decide
