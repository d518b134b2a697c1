/-! SAVING AND RESTORING, both -/
theorem gmCp_k {σ : St} {k0 k1 k i : Nat} {a b n : Int} (h : k ≠ k1) : gmCp σ k0 k1 a b n k i = σ k i := by simp [gmCp, h]
theorem gmCp_3 {σ : St} {k0 k1 i : Nat} (h : i < 3) : gmCp σ k0 k1 0 0 3 k1 i = σ k0 i := by
  unfold gmCp
  rw [if_pos ⟨rfl, Nat.zero_le i, by show i < 0 + 3; omega⟩]
  show σ k0 (0 + (i - 0)) = σ k0 i
  rw [Nat.zero_add, Nat.sub_zero]
theorem X_ccopy' {k0 k1 : Nat} {σ : St} (h0 : σ k1 0 = 0 ∨ σ k1 0 = 1) : ∃ σ', Fc_copyFrom k0 k1 σ = some σ' ∧ (∀ g, g < 6 → σ' k0 g = σ k1 g) ∧ ∀ k i, k ≠ k0 → σ' k i = σ k i := by
  refine ⟨gmUp (gmUp (gmUp (gmUp (gmUp (gmUp σ k0 0 (σ k1 0)) k0 1 (σ k1 1)) k0 2 (σ k1 2)) k0 3 (σ k1 3)) k0 4 (σ k1 4)) k0 5 (σ k1 5), ?_, fun g hg => ?_, fun k i h => ?_⟩
  · unfold Fc_copyFrom
    rw [gmG_t h0, gmL_s, gmUp_i (show 1 ≠ 0 by decide), gmL_s, gmUp_i (show 2 ≠ 1 by decide), gmUp_i (show 2 ≠ 0 by decide), gmL_s, gmUp_i (show 3 ≠ 2 by decide), gmUp_i (show 3 ≠ 1 by decide), gmUp_i (show 3 ≠ 0 by decide), gmL_s, gmUp_i (show 4 ≠ 3 by decide), gmUp_i (show 4 ≠ 2 by decide), gmUp_i (show 4 ≠ 1 by decide), gmUp_i (show 4 ≠ 0 by decide), gmL_s, gmUp_i (show 5 ≠ 4 by decide), gmUp_i (show 5 ≠ 3 by decide), gmUp_i (show 5 ≠ 2 by decide), gmUp_i (show 5 ≠ 1 by decide), gmUp_i (show 5 ≠ 0 by decide), gmL_s]
  · rcases (by omega : g = 0 ∨ g = 1 ∨ g = 2 ∨ g = 3 ∨ g = 4 ∨ g = 5) with rfl | rfl | rfl | rfl | rfl | rfl
    · rw [gmUp_i (by decide), gmUp_i (by decide), gmUp_i (by decide), gmUp_i (by decide), gmUp_i (by decide), gmUp_s]
    · rw [gmUp_i (by decide), gmUp_i (by decide), gmUp_i (by decide), gmUp_i (by decide), gmUp_s]
    · rw [gmUp_i (by decide), gmUp_i (by decide), gmUp_i (by decide), gmUp_s]
    · rw [gmUp_i (by decide), gmUp_i (by decide), gmUp_s]
    · rw [gmUp_i (by decide), gmUp_s]
    · rw [gmUp_s]
  · rw [gmUp_k h, gmUp_k h, gmUp_k h, gmUp_k h, gmUp_k h, gmUp_k h]
abbrev isB (B : Nat) : Prop := B = 1 ∨ B = 18 ∨ B = 35
theorem gmTg_B1 {B : Nat} (hB : isB B) (i : Nat) : gmTg (B + 1) i = B + (2 + i) := by
  unfold gmTg
  rw [if_neg (by omega)]
  omega
theorem gmTg_B8 {B : Nat} (hB : isB B) (i : Nat) : gmTg (B + 8) i = B + (9 + i) := by
  unfold gmTg
  rw [if_neg (by omega)]
  omega
theorem X_cp2 {B C : Nat} (hB : isB B) (hC : isB C) (hBC : B ≠ C) : ∀ (d n c : Nat) (σ : St) (k : St → Option St), d < n → c + d = 6 → (∀ q, q < 6 → σ (C + (2 + q)) 0 = 0 ∨ σ (C + (2 + q)) 0 = 1) → ∃ σ', Ft_copyFrom_2 n B C c σ k = k σ' ∧ (∀ q f, c ≤ q → q < 6 → f < 6 → σ' (B + (2 + q)) f = σ (C + (2 + q)) f) ∧ ∀ k i, (k < B + (2 + c) ∨ B + 8 ≤ k) → σ' k i = σ k i := by
  intro d
  induction d with
  | zero =>
    intro n c σ k hn hd h0
    obtain ⟨n, rfl⟩ : ∃ m, n = m + 1 := ⟨n - 1, by omega⟩
    refine ⟨σ, ?_, fun q f h1 h2 => by omega, fun _ _ _ => rfl⟩
    rw [Ft_copyFrom_2.eq_2, if_pos (by omega)]
  | succ d ih =>
    intro n c σ k hn hd h0
    obtain ⟨n, rfl⟩ : ∃ m, n = m + 1 := ⟨n - 1, by omega⟩
    obtain ⟨σ1, c1, c2, c3⟩ := X_ccopy' (k0 := B + (2 + c)) (k1 := C + (2 + c)) (h0 c (by omega))
    obtain ⟨σ', e1, e2, e3⟩ := ih n (c + 1) σ1 k (by omega) (by omega) (fun q hq => by rw [c3 _ _ (by omega)]; exact h0 q hq)
    refine ⟨σ', ?_, fun q f h1 h2 h3 => ?_, fun k i h => ?_⟩
    · rw [Ft_copyFrom_2.eq_2, if_neg (by omega), gmG_t (by omega), gmTN, gmTg_B1 hB, gmTg_B1 hC, c1, gmBv_s, gmG_t ⟨by omega, by omega⟩, show (c : Int) + 1 = ((c + 1 : Nat) : Int) by omega, e1]
    · by_cases e : q = c
      · rw [e, e3 _ _ (by omega), c2 f h3]
      · rw [e2 q f (by omega) h2 h3, c3 _ _ (by omega)]
    · rw [e3 k i (by omega), c3 k i (by omega)]
theorem X_cp31 {B C : Nat} (hB : isB B) (hC : isB C) (hBC : B ≠ C) : ∀ (d n c : Nat) (σ : St) (k : St → Option St), d < n → c + d = 6 → ∃ σ', Ft_copyFrom_31 n B C c σ k = k σ' ∧ (∀ q f, c ≤ q → q < 6 → f < 5 → σ' (B + (9 + q)) f = σ (C + (9 + q)) f) ∧ ∀ k i, (k < B + (9 + c) ∨ B + 15 ≤ k) → σ' k i = σ k i := by
  intro d
  induction d with
  | zero =>
    intro n c σ k hn hd
    obtain ⟨n, rfl⟩ : ∃ m, n = m + 1 := ⟨n - 1, by omega⟩
    refine ⟨σ, ?_, fun q f h1 h2 => by omega, fun _ _ _ => rfl⟩
    rw [Ft_copyFrom_31.eq_2, if_pos (by omega)]
  | succ d ih =>
    intro n c σ k hn hd
    obtain ⟨n, rfl⟩ : ∃ m, n = m + 1 := ⟨n - 1, by omega⟩
    obtain ⟨σ1, c1, c2, c3⟩ := X_scopy' (B + (9 + c)) (C + (9 + c)) σ
    obtain ⟨σ', e1, e2, e3⟩ := ih n (c + 1) σ1 k (by omega) (by omega)
    refine ⟨σ', ?_, fun q f h1 h2 h3 => ?_, fun k i h => ?_⟩
    · rw [Ft_copyFrom_31.eq_2, if_neg (by omega), gmG_t (by omega), gmTN, gmTg_B8 hB, gmTg_B8 hC, c1, gmBv_s, gmG_t ⟨by omega, by omega⟩, show (c : Int) + 1 = ((c + 1 : Nat) : Int) by omega, e1]
    · by_cases e : q = c
      · rw [e, e3 _ _ (by omega), c2 f h3]
      · rw [e2 q f (by omega) h2 h3, c3 _ _ (by omega)]
    · rw [e3 k i (by omega), c3 k i (by omega)]
theorem X_copy {B C : Nat} (hB : isB B) (hC : isB C) (hBC : B ≠ C) {σ : St} (h0 : ∀ q, q < 6 → σ (C + (2 + q)) 0 = 0 ∨ σ (C + (2 + q)) 0 = 1) (h6 : σ C 6 = 0 ∨ σ C 6 = 1) (h7 : σ C 7 = 0 ∨ σ C 7 = 1) : ∃ σ', Ft_copyFrom B C σ = some σ' ∧ (∀ k, k < 78 → σ' (B + lc k) (lf k) = σ (C + lc k) (lf k)) ∧ ∀ k i, (k < B ∨ B + 16 < k) → σ' k i = σ k i := by
  obtain ⟨σ1, a1, a2, a3⟩ := X_cp2 hB hC hBC 6 gmN 0 σ (fun s5 => Ft_copyFrom_31 gmN B C 0 s5 (fun s10 => gmL (gmUp s10 B 2 (s10 C 2)) (fun s11 => gmL (gmCp s11 (C + 15) (B + 15) 0 0 3) (fun s12 => gmL (gmCp s12 (C + 16) (B + 16) 0 0 3) (fun s13 => gmL (gmUp s13 B 5 (s13 C 5)) (fun s14 => gmG ((s14 C 6) = 0 ∨ (s14 C 6) = 1) (gmL (gmUp s14 B 6 (s14 C 6)) (fun s16 => gmG ((s16 C 7) = 0 ∨ (s16 C 7) = 1) (gmL (gmUp s16 B 7 (s16 C 7)) (fun s18 => gmL (gmUp s18 B 8 (s18 C 8)) (fun s19 => gmL (gmUp s19 B 9 (s19 C 9)) (fun s20 => some s20)))))))))))) (by rw [gmN_e]; omega) (by omega) h0
  obtain ⟨τ, b1, b2, b3⟩ := X_cp31 hB hC hBC 6 gmN 0 σ1 (fun s10 => gmL (gmUp s10 B 2 (s10 C 2)) (fun s11 => gmL (gmCp s11 (C + 15) (B + 15) 0 0 3) (fun s12 => gmL (gmCp s12 (C + 16) (B + 16) 0 0 3) (fun s13 => gmL (gmUp s13 B 5 (s13 C 5)) (fun s14 => gmG ((s14 C 6) = 0 ∨ (s14 C 6) = 1) (gmL (gmUp s14 B 6 (s14 C 6)) (fun s16 => gmG ((s16 C 7) = 0 ∨ (s16 C 7) = 1) (gmL (gmUp s16 B 7 (s16 C 7)) (fun s18 => gmL (gmUp s18 B 8 (s18 C 8)) (fun s19 => gmL (gmUp s19 B 9 (s19 C 9)) (fun s20 => some s20))))))))))) (by rw [gmN_e]; omega) (by omega)
  have hne : C ≠ B := fun e => hBC e.symm
  have hτ : ∀ k i, (k < B + 2 ∨ B + 15 ≤ k) → τ k i = σ k i := fun k i h => by rw [b3 k i (by omega), a3 k i (by omega)]
  have hτC : ∀ i, τ C i = σ C i := fun i => hτ C i (by omega)
  generalize hS : gmCp (gmCp (gmUp τ B 2 (σ C 2)) (C + 15) (B + 15) 0 0 3) (C + 16) (B + 16) 0 0 3 = S
  have hSk : ∀ k i, k ≠ B + 15 → k ≠ B + 16 → k ≠ B → S k i = τ k i := fun k i z1 z2 z3 => by rw [← hS, gmCp_k z2, gmCp_k z1, gmUp_k z3]
  have hSC : ∀ i, S C i = σ C i := fun i => by rw [hSk C i (by omega) (by omega) (by omega), hτC]
  have hS2 : S B 2 = σ C 2 := by rw [← hS, gmCp_k (by omega), gmCp_k (by omega), gmUp_s]
  have hS15 : ∀ i, i < 3 → S (B + 15) i = σ (C + 15) i := fun i hi => by
    rw [← hS, gmCp_k (by omega), gmCp_3 hi, gmUp_k (by omega), hτ _ _ (by omega)]
  have hS16 : ∀ i, i < 3 → S (B + 16) i = σ (C + 16) i := fun i hi => by
    rw [← hS, gmCp_3 hi, gmCp_k (by omega), gmUp_k (by omega), hτ _ _ (by omega)]
  refine ⟨gmUp (gmUp (gmUp (gmUp (gmUp S B 5 (σ C 5)) B 6 (σ C 6)) B 7 (σ C 7)) B 8 (σ C 8)) B 9 (σ C 9), ?_, fun k hk => ?_, fun k i h => ?_⟩
  · unfold Ft_copyFrom
    refine a1.trans (b1.trans ?_)
    rw [gmL_s, gmL_s, gmL_s, hτC, hS, hSC, gmL_s, gmUp_k hne, hSC, gmG_t h6, gmL_s, gmUp_k hne, gmUp_k hne, hSC, gmG_t h7, gmL_s, gmUp_k hne, gmUp_k hne, gmUp_k hne, hSC, gmL_s, gmUp_k hne, gmUp_k hne, gmUp_k hne, gmUp_k hne, hSC, gmL_s]
  · by_cases h1 : k < 36
    · unfold lc lf
      rw [if_pos h1, if_pos h1, gmUp_k (by omega), gmUp_k (by omega), gmUp_k (by omega), gmUp_k (by omega), gmUp_k (by omega), hSk _ _ (by omega) (by omega) (by omega), b3 _ _ (by omega)]
      exact a2 (k / 6) (k % 6) (by omega) (by omega) (by omega)
    · by_cases h2 : 37 ≤ k ∧ k < 67
      · unfold lc lf
        rw [if_neg (by omega), if_neg (by omega), if_pos (by omega), if_neg (by omega), if_neg (by omega), if_pos (by omega), gmUp_k (by omega), gmUp_k (by omega), gmUp_k (by omega), gmUp_k (by omega), gmUp_k (by omega), hSk _ _ (by omega) (by omega) (by omega), b2 ((k - 37) / 5) ((k - 37) % 5) (by omega) (by omega) (by omega), a3 _ _ (by omega)]
      · by_cases h3 : 67 ≤ k ∧ k < 70
        · unfold lc lf
          rw [if_neg (by omega), if_neg (by omega), if_neg (by omega), if_pos (by omega), if_neg (by omega), if_neg (by omega), if_neg (by omega), if_pos (by omega), gmUp_k (by omega), gmUp_k (by omega), gmUp_k (by omega), gmUp_k (by omega), gmUp_k (by omega), hS15 _ (by omega)]
        · by_cases h4 : 75 ≤ k
          · unfold lc lf
            rw [if_neg (by omega), if_neg (by omega), if_neg (by omega), if_neg (by omega), if_neg (by omega), if_neg (by omega), if_neg (by omega), if_neg (by omega), if_neg (by omega), if_neg (by omega), gmUp_k (by omega), gmUp_k (by omega), gmUp_k (by omega), gmUp_k (by omega), gmUp_k (by omega), hS16 _ (by omega)]
          · rcases (by omega : k = 36 ∨ k = 70 ∨ k = 71 ∨ k = 72 ∨ k = 73 ∨ k = 74) with rfl | rfl | rfl | rfl | rfl | rfl
            · show gmUp (gmUp (gmUp (gmUp (gmUp S B 5 (σ C 5)) B 6 (σ C 6)) B 7 (σ C 7)) B 8 (σ C 8)) B 9 (σ C 9) B 2 = σ C 2
              rw [gmUp_i (by decide), gmUp_i (by decide), gmUp_i (by decide), gmUp_i (by decide), gmUp_i (by decide), hS2]
            · show gmUp (gmUp (gmUp (gmUp (gmUp S B 5 (σ C 5)) B 6 (σ C 6)) B 7 (σ C 7)) B 8 (σ C 8)) B 9 (σ C 9) B 5 = σ C 5
              rw [gmUp_i (by decide), gmUp_i (by decide), gmUp_i (by decide), gmUp_i (by decide), gmUp_s]
            · show gmUp (gmUp (gmUp (gmUp (gmUp S B 5 (σ C 5)) B 6 (σ C 6)) B 7 (σ C 7)) B 8 (σ C 8)) B 9 (σ C 9) B 6 = σ C 6
              rw [gmUp_i (by decide), gmUp_i (by decide), gmUp_i (by decide), gmUp_s]
            · show gmUp (gmUp (gmUp (gmUp (gmUp S B 5 (σ C 5)) B 6 (σ C 6)) B 7 (σ C 7)) B 8 (σ C 8)) B 9 (σ C 9) B 7 = σ C 7
              rw [gmUp_i (by decide), gmUp_i (by decide), gmUp_s]
            · show gmUp (gmUp (gmUp (gmUp (gmUp S B 5 (σ C 5)) B 6 (σ C 6)) B 7 (σ C 7)) B 8 (σ C 8)) B 9 (σ C 9) B 8 = σ C 8
              rw [gmUp_i (by decide), gmUp_s]
            · show gmUp (gmUp (gmUp (gmUp (gmUp S B 5 (σ C 5)) B 6 (σ C 6)) B 7 (σ C 7)) B 8 (σ C 8)) B 9 (σ C 9) B 9 = σ C 9
              rw [gmUp_s]
  · rw [gmUp_k (by omega), gmUp_k (by omega), gmUp_k (by omega), gmUp_k (by omega), gmUp_k (by omega), hSk _ _ (by omega) (by omega) (by omega), hτ _ _ (by omega)]
theorem RepS.copy {B C : Nat} (hB : isB B) (hC : isB C) (hBC : B ≠ C) {σ : St} {a : Ar} (h : RepS σ C a) (hI : Inv a) : ∃ σ', Ft_copyFrom B C σ = some σ' ∧ RepS σ' B a ∧ ∀ k i, (k < B ∨ B + 16 < k) → σ' k i = σ k i := by
  have w6 : σ C 6 = a 71 := h.hi (k := 71) (by omega)
  have w7 : σ C 7 = a 72 := h.hi (k := 72) (by omega)
  obtain ⟨σ', e1, e2, e3⟩ := X_copy hB hC hBC (σ := σ) (fun q hq => by
    have := h.pc hq (by omega : 0 < 6) (Or.inl rfl)
    rw [this]
    exact (hI.1.1 q hq).1) (by rw [w6]; exact hI.1.2.2.1) (by rw [w7]; exact hI.1.2.2.2.1)
  exact ⟨σ', e1, fun k hk hl => by rw [e2 k hk]; exact h k hk hl, e3⟩
theorem M_save15 {i : Nat} (hi : i < 2) : ∀ (d n y : Nat) (σ : St) (k : St → Option (Int × St)), d < n → y + d = 78 → ∃ σ', Fm_save_15 n i y σ k = k σ' ∧ (∀ j, y ≤ j → j < 78 → σ' 135 (78 * i + j) = σ 134 j) ∧ ∀ k j, (k ≠ 135 ∨ j < 78 * i + y ∨ 78 * i + 78 ≤ j) → σ' k j = σ k j := by
  intro d
  induction d with
  | zero =>
    intro n y σ k hn hd
    obtain ⟨n, rfl⟩ : ∃ m, n = m + 1 := ⟨n - 1, by omega⟩
    refine ⟨σ, ?_, fun j h1 h2 => by omega, fun _ _ _ => rfl⟩
    rw [Fm_save_15.eq_2, if_pos (by omega)]
  | succ d ih =>
    intro n y σ k hn hd
    obtain ⟨n, rfl⟩ : ∃ m, n = m + 1 := ⟨n - 1, by omega⟩
    obtain ⟨σ', e1, e2, e3⟩ := ih n (y + 1) (gmUp σ 135 (78 * i + y) (σ 134 y)) k (by omega) (by omega)
    refine ⟨σ', ?_, fun j h1 h2 => ?_, fun k j h => ?_⟩
    · rw [Fm_save_15.eq_2, if_neg (by omega), gmG_t (by omega), gmG_t (by omega), gmTN, show ((78 : Int) * (i : Int) + (y : Int)).toNat = 78 * i + y by omega, gmL_s, gmG_t ⟨by omega, by omega⟩, show (y : Int) + 1 = ((y + 1 : Nat) : Int) by omega, e1]
    · by_cases e : j = y
      · rw [e3 135 _ (by omega), e, gmUp_s]
      · rw [e2 j (by omega) h2, gmUp_k (by omega)]
    · rw [e3 k j (by omega)]
      by_cases e : k = 135
      · rw [e, gmUp_i (by omega)]
      · rw [gmUp_k e]
theorem M_rest28 {i : Nat} (hi : i < 2) : ∀ (d n y : Nat) (σ : St) (k : St → Option (Int × St)), d < n → y + d = 78 → ∃ σ', Fm_restore_28 n i y σ k = k σ' ∧ (∀ j, y ≤ j → j < 78 → σ' 134 j = σ 135 (78 * i + j)) ∧ ∀ k j, k ≠ 134 ∨ j < y ∨ 78 ≤ j → σ' k j = σ k j := by
  intro d
  induction d with
  | zero =>
    intro n y σ k hn hd
    obtain ⟨n, rfl⟩ : ∃ m, n = m + 1 := ⟨n - 1, by omega⟩
    refine ⟨σ, ?_, fun j h1 h2 => by omega, fun _ _ _ => rfl⟩
    rw [Fm_restore_28.eq_2, if_pos (by omega)]
  | succ d ih =>
    intro n y σ k hn hd
    obtain ⟨n, rfl⟩ : ∃ m, n = m + 1 := ⟨n - 1, by omega⟩
    obtain ⟨σ', e1, e2, e3⟩ := ih n (y + 1) (gmUp σ 134 y (σ 135 (78 * i + y))) k (by omega) (by omega)
    refine ⟨σ', ?_, fun j h1 h2 => ?_, fun k j h => ?_⟩
    · rw [Fm_restore_28.eq_2, if_neg (by omega), gmG_t (by omega), gmG_t (by omega), gmTN, show ((78 : Int) * (i : Int) + (y : Int)).toNat = 78 * i + y by omega, gmL_s, gmG_t ⟨by omega, by omega⟩, show (y : Int) + 1 = ((y + 1 : Nat) : Int) by omega, e1]
    · by_cases e : j = y
      · rw [e3 134 _ (by omega), e, gmUp_s]
      · rw [e2 j (by omega) h2, gmUp_k (by omega)]
    · rw [e3 k j (by omega)]
      by_cases e : k = 134
      · rw [e, gmUp_i (by omega)]
      · rw [gmUp_k e]
theorem Op_save {σ : St} (hR : Rel σ) (a0 : Int) : Same (Fx_save a0) (Fm_save a0) σ := by
  by_cases h0 : 0 ≤ a0 ∧ a0 ≤ 1
  · obtain ⟨i, hi, rfl⟩ : ∃ i : Nat, i < 2 ∧ a0 = i := ⟨a0.toNat, by omega, by omega⟩
    obtain ⟨σ1, e1, e2, e3⟩ := hR.1.copy (B := 18 + 17 * i) (by unfold isB; omega) (Or.inl rfl) (by omega) hR.2.1
    obtain ⟨σ2, f1, f2, f3⟩ := M_save15 hi 78 gmN 0 (gmUp σ1 53 i 1) (fun s9 => gmG (0 ≤ (i : Int) ∧ (i : Int) < 2) (gmL (gmUp s9 136 ((i : Int)).toNat 1) (fun s11 => some (1, s11)))) (by rw [gmN_e]; omega) (by omega)
    have x134 : ∀ j, σ1 134 j = σ 134 j := fun j => e3 _ _ (by omega)
    have z0 : ∀ k j, (k < 18 + 17 * i ∨ 34 + 17 * i < k) → (k ≠ 53 ∨ j ≠ i) → (k ≠ 136 ∨ j ≠ i) → (k ≠ 135 ∨ j < 78 * i ∨ 78 * i + 78 ≤ j) → gmUp σ2 136 i 1 k j = σ k j := fun k j z1 z2 z3 z4 => by
      have : gmUp σ2 136 i 1 k j = σ2 k j := by
        rcases z3 with z | z
        · exact gmUp_k z
        · exact gmUp_i z
      rw [this, f3 k j (by omega)]
      have : gmUp σ1 53 i 1 k j = σ1 k j := by
        rcases z2 with z | z
        · exact gmUp_k z
        · exact gmUp_i z
      rw [this, e3 k j (by omega)]
    have zA : gmUp σ2 136 i 1 134 = σ 134 := funext fun j => z0 134 j (by omega) (by omega) (by omega) (by omega)
    have zS : ∀ j, j < 78 → gmUp σ2 136 i 1 135 (78 * i + j) = σ 134 j := fun j hj => by
      rw [gmUp_k (by omega), f2 j (by omega) hj, gmUp_k (by omega), x134]
    refine ⟨1, gmUp σ1 53 i 1, gmUp σ2 136 i 1, ?_, ?_, ?_, ?_, fun j hj => ?_⟩
    · unfold Fx_save
      rw [X_in, gmB_s, inR_1 h0, if_neg (by decide), gmG_t (by omega), gmTN, gmTg_52, e1, gmBv_s, gmL_s]
    · unfold Fm_save
      rw [M_in, gmB_s, inR_1 h0, if_neg (by decide)]
      refine f1.trans ?_
      rw [gmG_t (by omega), gmTN, gmL_s]
    · rw [zA]
      exact hR.1.fr (fun k j a b => z0 k j (by omega) (by omega) (by omega) (by omega))
    · rw [zA]; exact hR.2.1
    · by_cases e : j = i
      · subst e
        refine ⟨?_, Or.inr ?_, fun _ => ⟨RepS.eqA (a := σ 134) ?_ (fun k hk => zS k hk), hR.2.1.eqA (fun k hk => zS k hk)⟩⟩
        · rw [gmUp_s, gmUp_k (by omega), f3 53 j (by omega), gmUp_s]
        · rw [gmUp_k (by omega), f3 53 j (by omega), gmUp_s]
        · exact e2.fr (fun k g a b => by rw [gmUp_k (by omega), f3 k g (by omega), gmUp_k (by omega)])
      · obtain ⟨w1, w2, w3⟩ := hR.2.2 j hj
        have k1 : gmUp σ2 136 i 1 53 j = σ 53 j := z0 53 j (by omega) (by omega) (by omega) (by omega)
        have k2 : gmUp σ2 136 i 1 136 j = σ 136 j := z0 136 j (by omega) (by omega) (by omega) (by omega)
        refine ⟨by rw [k1, k2]; exact w1, by rw [k1]; exact w2, fun h => ?_⟩
        rw [k1] at h
        have hq : ∀ k, k < 78 → gmUp σ2 136 i 1 135 (78 * j + k) = σ 135 (78 * j + k) := fun k hk => z0 _ _ (by omega) (by omega) (by omega) (by omega)
        exact ⟨((w3 h).1.fr (fun k g a b => z0 k g (by omega) (by omega) (by omega) (by omega))).eqA hq, (w3 h).2.eqA hq⟩
  · refine Same.err (r := -1005) hR ?_ ?_
    · unfold Fx_save
      rw [X_in, gmB_s, inR_0 h0, if_pos rfl]
    · unfold Fm_save
      rw [M_in, gmB_s, inR_0 h0, if_pos rfl]
theorem Op_restore {σ : St} (hR : Rel σ) (a0 : Int) : Same (Fx_restore a0) (Fm_restore a0) σ := by
  by_cases h0 : 0 ≤ a0 ∧ a0 ≤ 1
  · obtain ⟨i, hi, rfl⟩ : ∃ i : Nat, i < 2 ∧ a0 = i := ⟨a0.toNat, by omega, by omega⟩
    obtain ⟨w1, w2, w3⟩ := hR.2.2 i hi
    by_cases hs : σ 53 i = 0
    · refine Same.err (r := -1011) hR ?_ ?_
      · unfold Fx_restore
        rw [X_in, gmB_s, inR_1 h0, if_neg (by decide), gmG_t (by omega), gmTN, if_pos hs]
      · unfold Fm_restore
        rw [M_in, gmB_s, inR_1 h0, if_neg (by decide), gmG_t (by omega), gmTN, if_pos (by omega)]
    · obtain ⟨v1, v2⟩ := w3 (by omega)
      obtain ⟨σ1, e1, e2, e3⟩ := v1.copy (B := 1) (Or.inl rfl) (by unfold isB; omega) (by omega) v2
      obtain ⟨σ2, f1, f2, f3⟩ := M_rest28 hi 78 gmN 0 σ1 (fun s11 => some (1, s11)) (by rw [gmN_e]; omega) (by omega)
      have zA : ∀ k, k < 78 → σ2 134 k = σ 135 (78 * i + k) := fun k hk => by rw [f2 k (by omega) hk, e3 _ _ (by omega)]
      refine ⟨1, σ1, σ2, ?_, ?_, ?_⟩
      · unfold Fx_restore
        rw [X_in, gmB_s, inR_1 h0, if_neg (by decide), gmG_t (by omega), gmTN, if_neg hs, gmTg_52, e1, gmBv_s]
      · unfold Fm_restore
        rw [M_in, gmB_s, inR_1 h0, if_neg (by decide), gmG_t (by omega), gmTN, e3 136 i (by omega), if_neg (by omega)]
        exact f1
      · refine hR.upd (fun k j z => by rw [f3 k j (by omega), e3 k j (by omega)]) ?_ (v2.eqA zA)
        exact (e2.fr (fun k j a b => f3 k j (by omega))).eqA zA
  · refine Same.err (r := -1005) hR ?_ ?_
    · unfold Fx_restore
      rw [X_in, gmB_s, inR_0 h0, if_pos rfl]
    · unfold Fm_restore
      rw [M_in, gmB_s, inR_0 h0, if_pos rfl]
