/-! SEAMS, both -/
def sdv (a : Ar) (p f : Int) (s : Nat) : Int := if f = 0 then wdt a s p.toNat else lgt a s p.toNat
def sdf (a : Ar) (j s : Nat) : Int := sdv a (a (37 + 5 * j)) (a (38 + 5 * j)) s - sdv a (a (39 + 5 * j)) (a (40 + 5 * j)) s - a (41 + 5 * j)
theorem sdv_b {a : Ar} (hP : InvP a) {p f : Int} {s : Nat} (hs : s < 3) (hp : (0 ≤ p ∧ p < 6) ∧ a (6 * p.toNat) = 1) : 1 ≤ sdv a p f s ∧ sdv a p f s ≤ 18 := by
  obtain ⟨h1, h2⟩ := wdt_b hP hs (by omega : p.toNat < 6) hp.2
  unfold sdv
  split <;> omega
theorem sdf_b {a : Ar} (hP : InvP a) {j s : Nat} (hs : s < 3) (hS : SmOK a j) : -100 ≤ sdf a j s ∧ sdf a j s ≤ 100 := by
  obtain ⟨s1, s2, s3, s4, s5⟩ := hS
  have h1 := sdv_b (f := a (38 + 5 * j)) hP hs s1
  have h2 := sdv_b (f := a (40 + 5 * j)) hP hs s3
  unfold sdf
  omega
theorem X_sdv {σ : St} {a : Ar} (hR : RepC σ a) (hP : InvP a) {p f : Int} {s : Nat} (hs : s < 3) (hp : (0 ≤ p ∧ p < 6) ∧ a (6 * p.toNat) = 1) (hf : 0 ≤ f ∧ f ≤ 1) : Fc_sideIn (3 + p.toNat) f s σ = some (sdv a p f s, σ) := by
  obtain ⟨h1, h2⟩ := X_sideIn hR hP hs (by omega : p.toNat < 6) hp.2
  unfold sdv
  rcases (by omega : f = 0 ∨ f = 1) with rfl | rfl
  · rw [if_pos rfl]; exact h1
  · rw [if_neg (by decide)]; exact h2
theorem M_sdv {σ : St} {a : Ar} (hA : σ 134 = a) (hP : InvP a) {p f : Int} {s : Nat} (hs : s < 3) (hp : (0 ≤ p ∧ p < 6) ∧ a (6 * p.toNat) = 1) : Fm_sideOf p f s σ = some (sdv a p f s, σ) := by
  obtain ⟨h1, h2⟩ := M_sideOf hA hP hs (by omega : p.toNat < 6) hp.2
  rw [Int.toNat_of_nonneg hp.1.1] at h1 h2
  unfold Fm_sideOf sdv
  by_cases h : f = 0
  · rw [if_pos h, if_pos h, h1, gmB_s]
  · rw [if_neg h, if_neg h, h2, gmB_s]
theorem X_diff {σ : St} {a : Ar} (hS : RepS σ 1 a) (hI : Inv a) {j s : Nat} (hj : (j : Int) < a 36) (hs : s < 3) : Ft_differenceOf (10 + j) s σ = some (sdf a j s, σ) := by
  have hok := hI.2.2 j hj
  have hb := sdf_b hI.1.1 hs hok
  obtain ⟨s1, s2, s3, s4, s5⟩ := hok
  have r0 : σ (10 + j) 0 = a (37 + 5 * j) := by
    have := hS.sm hI.2 hj (by omega : 0 < 5)
    rw [show 10 + j = 1 + (9 + j) by omega]; exact this
  have r1 : σ (10 + j) 1 = a (38 + 5 * j) := by
    have := hS.sm hI.2 hj (by omega : 1 < 5)
    rw [show 10 + j = 1 + (9 + j) by omega, this, show 37 + 5 * j + 1 = 38 + 5 * j by omega]
  have r2 : σ (10 + j) 2 = a (39 + 5 * j) := by
    have := hS.sm hI.2 hj (by omega : 2 < 5)
    rw [show 10 + j = 1 + (9 + j) by omega, this, show 37 + 5 * j + 2 = 39 + 5 * j by omega]
  have r3 : σ (10 + j) 3 = a (40 + 5 * j) := by
    have := hS.sm hI.2 hj (by omega : 3 < 5)
    rw [show 10 + j = 1 + (9 + j) by omega, this, show 37 + 5 * j + 3 = 40 + 5 * j by omega]
  have r4 : σ (10 + j) 4 = a (41 + 5 * j) := by
    have := hS.sm hI.2 hj (by omega : 4 < 5)
    rw [show 10 + j = 1 + (9 + j) by omega, this, show 37 + 5 * j + 4 = 41 + 5 * j by omega]
  unfold sdf at hb ⊢
  unfold Ft_differenceOf
  rw [r0, r1, gmG_t s1.1, gmTg_2, X_sdv hS.c hI.1.1 hs s1 s2, gmB_s, r2, r3, gmG_t s3.1, gmTg_2, X_sdv hS.c hI.1.1 hs s3 s4, gmB_s, r4, gmG_t ⟨by omega, by omega⟩]
theorem M_diff {σ : St} {a : Ar} (hA : σ 134 = a) (hI : Inv a) {j s : Nat} (hj : (j : Int) < a 36) (hs : s < 3) : Fm_differenceOf j s σ = some (sdf a j s, σ) := by
  have hok := hI.2.2 j hj
  have h6 := hI.2.1
  have hb := sdf_b hI.1.1 hs hok
  obtain ⟨s1, s2, s3, s4, s5⟩ := hok
  unfold sdf at hb ⊢
  unfold Fm_differenceOf
  rw [gmL_s, gmG_t (by omega), gmG_t (by omega), show ((37 : Int) + (5 * (j : Int))).toNat = 37 + 5 * j by omega, show ((37 : Int) + (5 * (j : Int)) + 1).toNat = 38 + 5 * j by omega, hA, M_sdv hA hI.1.1 hs s1, gmB_s, gmG_t (by omega), gmG_t (by omega), show ((37 : Int) + (5 * (j : Int)) + 2).toNat = 39 + 5 * j by omega, show ((37 : Int) + (5 * (j : Int)) + 3).toNat = 40 + 5 * j by omega, hA, M_sdv hA hI.1.1 hs s3, gmB_s, gmG_t (by omega), show ((37 : Int) + (5 * (j : Int)) + 4).toNat = 41 + 5 * j by omega, hA, gmG_t ⟨by omega, by omega⟩]
theorem Op_seamDifference {σ : St} (hR : Rel σ) (a0 a1 : Int) : Same (Fx_seamDifference a0 a1) (Fm_seamDifference a0 a1) σ := by
  have hI := hR.2.1
  have h6 := hI.2.1
  have x36 : σ 1 2 = σ 134 36 := hR.1.hi (k := 36) (by omega)
  by_cases h0 : 0 ≤ a0 ∧ a0 ≤ σ 134 36 - 1
  · obtain ⟨j, rfl⟩ : ∃ j : Nat, a0 = j := ⟨a0.toNat, by omega⟩
    by_cases h1 : 0 ≤ a1 ∧ a1 ≤ 2
    · obtain ⟨s, hs, rfl⟩ : ∃ s : Nat, s < 3 ∧ a1 = s := ⟨a1.toNat, by omega, by omega⟩
      refine Same.err (r := sdf (σ 134) j s) hR ?_ ?_
      · unfold Fx_seamDifference
        rw [x36, gmG_t ⟨by omega, by omega⟩, X_in, gmB_s, inR_1 h0, if_neg (by decide), X_size, gmB_s, inR_1 h1, if_neg (by decide), gmG_t (by omega), gmTN, gmTg_9, X_diff hR.1 hI (by omega) hs, gmB_s]
      · unfold Fm_seamDifference
        rw [gmG_t ⟨by omega, by omega⟩, M_in, gmB_s, inR_1 h0, if_neg (by decide), M_size, gmB_s, inR_1 h1, if_neg (by decide), M_diff rfl hI (by omega) hs, gmB_s]
    · refine Same.err (r := -1002) hR ?_ ?_
      · unfold Fx_seamDifference
        rw [x36, gmG_t ⟨by omega, by omega⟩, X_in, gmB_s, inR_1 h0, if_neg (by decide), X_size, gmB_s, inR_0 h1, if_pos rfl]
      · unfold Fm_seamDifference
        rw [gmG_t ⟨by omega, by omega⟩, M_in, gmB_s, inR_1 h0, if_neg (by decide), M_size, gmB_s, inR_0 h1, if_pos rfl]
  · refine Same.err (r := -1003) hR ?_ ?_
    · unfold Fx_seamDifference
      rw [x36, gmG_t ⟨by omega, by omega⟩, X_in, gmB_s, inR_0 h0, if_pos rfl]
    · unfold Fm_seamDifference
      rw [gmG_t ⟨by omega, by omega⟩, M_in, gmB_s, inR_0 h0, if_pos rfl]
def mtc (a : Ar) (j : Nat) : Int := if sdf a j 0 = 0 then (if sdf a j 1 = 0 then (if sdf a j 2 = 0 then 1 else 0) else 0) else 0
theorem mtc_01 (a : Ar) (j : Nat) : mtc a j = 0 ∨ mtc a j = 1 := by
  unfold mtc
  repeat' split
  all_goals first | exact Or.inl rfl | exact Or.inr rfl
theorem X_mtc {σ : St} {a : Ar} (hS : RepS σ 1 a) (hI : Inv a) {j : Nat} (hj : (j : Int) < a 36) : Ft_matchesInAllSizes (10 + j) σ = some (mtc a j, σ) := by
  have d0 := X_diff hS hI hj (by omega : 0 < 3)
  have d1 := X_diff hS hI hj (by omega : 1 < 3)
  have d2 := X_diff hS hI hj (by omega : 2 < 3)
  rw [show ((0 : Nat) : Int) = 0 from rfl] at d0
  rw [show ((1 : Nat) : Int) = 1 from rfl] at d1
  rw [show ((2 : Nat) : Int) = 2 from rfl] at d2
  unfold Ft_matchesInAllSizes mtc
  rw [show gmN = 1496 + 1 + 1 + 1 + 1 from rfl, Ft_matchesInAllSizes_2.eq_2, if_neg (by decide), d0, gmB_s]
  by_cases h0 : sdf a j 0 = 0
  · rw [if_pos h0, if_pos h0, gmG_t (by decide), Ft_matchesInAllSizes_2.eq_2, if_neg (by decide), show ((0 : Int) + 1) = 1 from rfl, d1, gmB_s]
    by_cases h1 : sdf a j 1 = 0
    · rw [if_pos h1, if_pos h1, gmG_t (by decide), Ft_matchesInAllSizes_2.eq_2, if_neg (by decide), show ((1 : Int) + 1) = 2 from rfl, d2, gmB_s]
      by_cases h2 : sdf a j 2 = 0
      · rw [if_pos h2, if_pos h2, gmG_t (by decide), Ft_matchesInAllSizes_2.eq_2, if_pos (by decide)]
      · rw [if_neg h2, if_neg h2]
    · rw [if_neg h1, if_neg h1]
  · rw [if_neg h0, if_neg h0]
theorem M_mtc {σ : St} {a : Ar} (hA : σ 134 = a) (hI : Inv a) {j : Nat} (hj : (j : Int) < a 36) : Fm_matches j σ = some (mtc a j, σ) := by
  have d0 := M_diff hA hI hj (by omega : 0 < 3)
  have d1 := M_diff hA hI hj (by omega : 1 < 3)
  have d2 := M_diff hA hI hj (by omega : 2 < 3)
  rw [show ((0 : Nat) : Int) = 0 from rfl] at d0
  rw [show ((1 : Nat) : Int) = 1 from rfl] at d1
  rw [show ((2 : Nat) : Int) = 2 from rfl] at d2
  unfold Fm_matches mtc
  rw [d0, gmB_s]
  by_cases h0 : sdf a j 0 = 0
  · rw [if_pos h0, if_pos h0, d1, gmB_s]
    by_cases h1 : sdf a j 1 = 0
    · rw [if_pos h1, if_pos h1, d2, gmB_s]
    · rw [if_neg h1, if_neg h1]
  · rw [if_neg h0, if_neg h0]
def mtN (a : Ar) : Nat → Int
  | 0 => 0
  | n + 1 => mtN a n + mtc a n
theorem mtN_b (a : Ar) : ∀ n, 0 ≤ mtN a n ∧ mtN a n ≤ n
  | 0 => ⟨Int.le_refl 0, Int.le_refl 0⟩
  | n + 1 => by
    have := mtN_b a n
    have := mtc_01 a n
    unfold mtN
    omega
theorem Op_matchingSeams {σ : St} (hR : Rel σ) : Same Fx_matchingSeams Fm_matchingSeams σ := by
  have hI := hR.2.1
  have h6 := hI.2.1
  have x36 : σ 1 2 = σ 134 36 := hR.1.hi (k := 36) (by omega)
  have kx : ∀ (d n c : Nat), d < n → ((c + d : Nat) : Int) = σ 134 36 → Fx_matchingSeams_4 n (mtN (σ 134) c) c σ (fun x9 s10 => some (x9, s10)) = some (mtN (σ 134) (c + d), σ) := by
    intro d
    induction d with
    | zero =>
      intro n c hn hd
      obtain ⟨n, rfl⟩ : ∃ m, n = m + 1 := ⟨n - 1, by omega⟩
      rw [Fx_matchingSeams_4.eq_2, x36, if_pos (by omega)]
      rfl
    | succ d ih =>
      intro n c hn hd
      obtain ⟨n, rfl⟩ : ∃ m, n = m + 1 := ⟨n - 1, by omega⟩
      have hb := mtN_b (σ 134) c
      have ih := ih n (c + 1) (by omega) (by omega)
      rw [show c + 1 + d = c + (d + 1) by omega] at ih
      rw [Fx_matchingSeams_4.eq_2, x36, if_neg (by omega), gmG_t (by omega), gmTN, gmTg_9, X_mtc hR.1 hI (by omega), gmB_s]
      rcases mtc_01 (σ 134) c with h | h
      · have e : mtN (σ 134) (c + 1) = mtN (σ 134) c := by
          show mtN (σ 134) c + mtc (σ 134) c = _
          omega
        rw [e] at ih
        rw [if_pos h, gmG_t ⟨by omega, by omega⟩, show (c : Int) + 1 = ((c + 1 : Nat) : Int) by omega]
        exact ih
      · have e : mtN (σ 134) (c + 1) = mtN (σ 134) c + 1 := by
          show mtN (σ 134) c + mtc (σ 134) c = _
          omega
        rw [e] at ih
        rw [if_neg (by omega), gmG_t ⟨by omega, by omega⟩, gmG_t ⟨by omega, by omega⟩, show (c : Int) + 1 = ((c + 1 : Nat) : Int) by omega]
        exact ih
  have km : ∀ (d n c : Nat), d < n → ((c + d : Nat) : Int) = σ 134 36 → Fm_matchingSeams_4 n (mtN (σ 134) c) c σ (fun x8 s9 => some (x8, s9)) = some (mtN (σ 134) (c + d), σ) := by
    intro d
    induction d with
    | zero =>
      intro n c hn hd
      obtain ⟨n, rfl⟩ : ∃ m, n = m + 1 := ⟨n - 1, by omega⟩
      rw [Fm_matchingSeams_4.eq_2, if_pos (by omega)]
      rfl
    | succ d ih =>
      intro n c hn hd
      obtain ⟨n, rfl⟩ : ∃ m, n = m + 1 := ⟨n - 1, by omega⟩
      have hb := mtN_b (σ 134) (c + 1)
      have ih := ih n (c + 1) (by omega) (by omega)
      rw [show c + 1 + d = c + (d + 1) by omega] at ih
      have e : mtN (σ 134) c + (if mtc (σ 134) c = 0 then (0 : Int) else 1) = mtN (σ 134) (c + 1) := by
        show _ = mtN (σ 134) c + mtc (σ 134) c
        rcases mtc_01 (σ 134) c with h | h <;> rw [h] <;> rfl
      rw [Fm_matchingSeams_4.eq_2, if_neg (by omega), M_mtc rfl hI (by omega), gmB_s, e, gmL_s, gmG_t ⟨by omega, by omega⟩, gmG_t ⟨by omega, by omega⟩, show (c : Int) + 1 = ((c + 1 : Nat) : Int) by omega]
      exact ih
  exact Same.err hR (kx (σ 134 36).toNat gmN 0 (by rw [gmN_e]; omega) (by omega)) (km (σ 134 36).toNat gmN 0 (by rw [gmN_e]; omega) (by omega))
def fmM (a : Ar) : Nat → Nat → Int
  | _, 0 => -1010
  | c, d + 1 => if mtc a c = 0 then c else fmM a (c + 1) d
theorem Op_firstMismatch {σ : St} (hR : Rel σ) : Same Fx_firstMismatch Fm_firstMismatch σ := by
  have hI := hR.2.1
  have h6 := hI.2.1
  have x36 : σ 1 2 = σ 134 36 := hR.1.hi (k := 36) (by omega)
  have kx : ∀ (d n c : Nat), d < n → ((c + d : Nat) : Int) = σ 134 36 → Fx_firstMismatch_2 n c σ (fun s7 => some ((-1010), s7)) = some (fmM (σ 134) c d, σ) := by
    intro d
    induction d with
    | zero =>
      intro n c hn hd
      obtain ⟨n, rfl⟩ : ∃ m, n = m + 1 := ⟨n - 1, by omega⟩
      rw [Fx_firstMismatch_2.eq_2, x36, if_pos (by omega)]
      rfl
    | succ d ih =>
      intro n c hn hd
      obtain ⟨n, rfl⟩ : ∃ m, n = m + 1 := ⟨n - 1, by omega⟩
      have ih := ih n (c + 1) (by omega) (by omega)
      unfold fmM
      rw [Fx_firstMismatch_2.eq_2, x36, if_neg (by omega), gmG_t (by omega), gmTN, gmTg_9, X_mtc hR.1 hI (by omega), gmB_s]
      by_cases h : mtc (σ 134) c = 0
      · rw [if_pos h, if_pos h]
      · rw [if_neg h, if_neg h, gmG_t ⟨by omega, by omega⟩, show (c : Int) + 1 = ((c + 1 : Nat) : Int) by omega]
        exact ih
  have km : ∀ (d n c : Nat), d < n → ((c + d : Nat) : Int) = σ 134 36 → Fm_firstMismatch_2 n c σ (fun s6 => some ((-1010), s6)) = some (fmM (σ 134) c d, σ) := by
    intro d
    induction d with
    | zero =>
      intro n c hn hd
      obtain ⟨n, rfl⟩ : ∃ m, n = m + 1 := ⟨n - 1, by omega⟩
      rw [Fm_firstMismatch_2.eq_2, if_pos (by omega)]
      rfl
    | succ d ih =>
      intro n c hn hd
      obtain ⟨n, rfl⟩ : ∃ m, n = m + 1 := ⟨n - 1, by omega⟩
      have ih := ih n (c + 1) (by omega) (by omega)
      unfold fmM
      rw [Fm_firstMismatch_2.eq_2, if_neg (by omega), M_mtc rfl hI (by omega), gmB_s]
      by_cases h : mtc (σ 134) c = 0
      · rw [if_pos h, if_pos h]
      · rw [if_neg h, if_neg h, gmG_t ⟨by omega, by omega⟩, show (c : Int) + 1 = ((c + 1 : Nat) : Int) by omega]
        exact ih
  exact Same.err hR (kx (σ 134 36).toNat gmN 0 (by rw [gmN_e]; omega) (by omega)) (km (σ 134 36).toNat gmN 0 (by rw [gmN_e]; omega) (by omega))
/-- a change of the seams alone, told by the new count and rows -/
theorem RepS.seams {σ σ' : St} {a a' : Ar} (h : RepS σ 1 a) (hI : InvS a') (e : ∀ k, k < 78 → (k < 36 ∨ 67 ≤ k) → a' k = a k) (f : ∀ k i, k < 18 → (k < 10 ∨ 15 < k) → (k ≠ 1 ∨ i ≠ 2) → σ' k i = σ k i) (h36 : σ' 1 2 = a' 36) (hs : ∀ s : Nat, (s : Int) < a' 36 → ∀ g, g < 5 → σ' (10 + s) g = a' (37 + 5 * s + g)) : RepS σ' 1 a' := by
  intro k hk hl
  have h6 := hI.1
  by_cases h1 : k = 36
  · subst h1; exact h36
  · by_cases h2 : 37 ≤ k ∧ k < 67
    · have h3 := hl.2 h2.1 h2.2
      unfold lc lf
      rw [if_neg (by omega), if_neg (by omega), if_pos (by omega), if_neg (by omega), if_neg (by omega), if_pos (by omega)]
      have := hs ((k - 37) / 5) h3 ((k - 37) % 5) (by omega)
      rw [show 1 + (9 + (k - 37) / 5) = 10 + (k - 37) / 5 by omega, this]
      congr 1
      omega
    · have hloc : (1 + lc k < 10 ∨ 15 < 1 + lc k) ∧ (1 + lc k ≠ 1 ∨ lf k ≠ 2) ∧ 1 + lc k < 18 := by
        have key : ∀ k, k < 78 → k ≠ 36 → ¬ (37 ≤ k ∧ k < 67) → (1 + lc k < 10 ∨ 15 < 1 + lc k) ∧ (1 + lc k ≠ 1 ∨ lf k ≠ 2) ∧ 1 + lc k < 18 := by decide +kernel
        exact key k hk h1 h2
      rw [f _ _ hloc.2.2 hloc.1 hloc.2.1, e k hk (by omega)]
      refine h k hk ⟨fun z => ?_, fun z1 z2 => by omega⟩
      have := hl.1 z
      rw [e _ (by omega) (by omega)] at this
      exact this
theorem InvC.seams {a a' : Ar} (h : InvC a) (e : ∀ k, k < 78 → (k < 36 ∨ 67 ≤ k) → a' k = a k) : InvC a' := by
  obtain ⟨h1, h2, h3, h4, h5, h6, h7, h8⟩ := h
  refine ⟨fun p hp => ?_, ?_, ?_, ?_, ?_, ?_, fun i hi => ?_, fun i hi => ?_⟩
  · rw [e _ (by omega) (by omega), e _ (by omega) (by omega), e _ (by omega) (by omega), e _ (by omega) (by omega), e _ (by omega) (by omega), e _ (by omega) (by omega)]; exact h1 p hp
  · rw [e _ (by omega) (by omega)]; exact h2
  · rw [e _ (by omega) (by omega)]; exact h3
  · rw [e _ (by omega) (by omega)]; exact h4
  · rw [e _ (by omega) (by omega)]; exact h5
  · rw [e _ (by omega) (by omega)]; exact h6
  · rw [e _ (by omega) (by omega)]; exact h7 i hi
  · rw [e _ (by omega) (by omega)]; exact h8 i hi
theorem Op_addSeam {σ : St} (hR : Rel σ) (a0 a1 a2 a3 a4 : Int) : Same (Fx_addSeam a0 a1 a2 a3 a4) (Fm_addSeam a0 a1 a2 a3 a4) σ := by
  have hI := hR.2.1
  have h6 := hI.2.1
  have hC := hR.1.c
  have x36 : σ 1 2 = σ 134 36 := hR.1.hi (k := 36) (by omega)
  by_cases q0 : dfd (σ 134) a0 = 0
  · refine Same.err (r := -1001) hR ?_ ?_
    · unfold Fx_addSeam
      rw [X_dfd hC hI.1.1, gmB_s, if_pos q0]
    · unfold Fm_addSeam
      rw [M_dfd rfl, gmB_s, if_pos q0]
  by_cases q2 : dfd (σ 134) a2 = 0
  · refine Same.err (r := -1001) hR ?_ ?_
    · unfold Fx_addSeam
      rw [X_dfd hC hI.1.1, gmB_s, if_neg q0, X_dfd hC hI.1.1, gmB_s, if_pos q2]
    · unfold Fm_addSeam
      rw [M_dfd rfl, gmB_s, if_neg q0, M_dfd rfl, gmB_s, if_pos q2]
  by_cases g1 : ¬ (0 ≤ a1 ∧ a1 ≤ 1)
  · refine Same.err (r := -1005) hR ?_ ?_
    · unfold Fx_addSeam
      rw [X_dfd hC hI.1.1, gmB_s, if_neg q0, X_dfd hC hI.1.1, gmB_s, if_neg q2, X_in, gmB_s, inR_0 g1, if_pos rfl]
    · unfold Fm_addSeam
      rw [M_dfd rfl, gmB_s, if_neg q0, M_dfd rfl, gmB_s, if_neg q2, M_in, gmB_s, inR_0 g1, if_pos rfl]
  have g1 := Classical.not_not.mp g1
  by_cases g3 : ¬ (0 ≤ a3 ∧ a3 ≤ 1)
  · refine Same.err (r := -1005) hR ?_ ?_
    · unfold Fx_addSeam
      rw [X_dfd hC hI.1.1, gmB_s, if_neg q0, X_dfd hC hI.1.1, gmB_s, if_neg q2, X_in, gmB_s, inR_1 g1, if_neg (by decide), X_in, gmB_s, inR_0 g3, if_pos rfl]
    · unfold Fm_addSeam
      rw [M_dfd rfl, gmB_s, if_neg q0, M_dfd rfl, gmB_s, if_neg q2, M_in, gmB_s, inR_1 g1, if_neg (by decide), M_in, gmB_s, inR_0 g3, if_pos rfl]
  have g3 := Classical.not_not.mp g3
  by_cases g4 : ¬ (-3 ≤ a4 ∧ a4 ≤ 3)
  · refine Same.err (r := -1005) hR ?_ ?_
    · unfold Fx_addSeam
      rw [X_dfd hC hI.1.1, gmB_s, if_neg q0, X_dfd hC hI.1.1, gmB_s, if_neg q2, X_in, gmB_s, inR_1 g1, if_neg (by decide), X_in, gmB_s, inR_1 g3, if_neg (by decide), X_in, gmB_s, inR_0 g4, if_pos rfl]
    · unfold Fm_addSeam
      rw [M_dfd rfl, gmB_s, if_neg q0, M_dfd rfl, gmB_s, if_neg q2, M_in, gmB_s, inR_1 g1, if_neg (by decide), M_in, gmB_s, inR_1 g3, if_neg (by decide), M_in, gmB_s, inR_0 g4, if_pos rfl]
  have g4 := Classical.not_not.mp g4
  by_cases h66 : σ 134 36 = 6
  · refine Same.err (r := -1006) hR ?_ ?_
    · unfold Fx_addSeam
      rw [X_dfd hC hI.1.1, gmB_s, if_neg q0, X_dfd hC hI.1.1, gmB_s, if_neg q2, X_in, gmB_s, inR_1 g1, if_neg (by decide), X_in, gmB_s, inR_1 g3, if_neg (by decide), X_in, gmB_s, inR_1 g4, if_neg (by decide), x36, gmL_s, if_neg (by omega)]
    · unfold Fm_addSeam
      rw [M_dfd rfl, gmB_s, if_neg q0, M_dfd rfl, gmB_s, if_neg q2, M_in, gmB_s, inR_1 g1, if_neg (by decide), M_in, gmB_s, inR_1 g3, if_neg (by decide), M_in, gmB_s, inR_1 g4, if_neg (by decide), if_pos h66]
  obtain ⟨p, hp, rfl, hdp⟩ := dfd_p q0
  obtain ⟨q, hq, rfl, hdq⟩ := dfd_p q2
  obtain ⟨m, hm⟩ : ∃ m : Nat, σ 134 36 = m := ⟨(σ 134 36).toNat, by omega⟩
  generalize hσ1 : gmUp (gmUp (gmUp (gmUp (gmUp (gmUp σ (10 + m) 0 (p : Int)) (10 + m) 1 a1) (10 + m) 2 (q : Int)) (10 + m) 3 a3) (10 + m) 4 a4) 1 2 ((m : Int) + 1) = σ1
  have x0 : ∀ k i, k ≠ 10 + m → (k ≠ 1 ∨ i ≠ 2) → σ1 k i = σ k i := fun k i z1 z2 => by
    have : gmUp (gmUp (gmUp (gmUp (gmUp (gmUp σ (10 + m) 0 (p : Int)) (10 + m) 1 a1) (10 + m) 2 (q : Int)) (10 + m) 3 a3) (10 + m) 4 a4) 1 2 ((m : Int) + 1) k i = gmUp (gmUp (gmUp (gmUp (gmUp σ (10 + m) 0 (p : Int)) (10 + m) 1 a1) (10 + m) 2 (q : Int)) (10 + m) 3 a3) (10 + m) 4 a4 k i := by
      rcases z2 with z | z
      · exact gmUp_k z
      · exact gmUp_i z
    rw [← hσ1, this, gmUp_k z1, gmUp_k z1, gmUp_k z1, gmUp_k z1, gmUp_k z1]
  have x1 : σ1 (10 + m) 0 = p ∧ σ1 (10 + m) 1 = a1 ∧ σ1 (10 + m) 2 = q ∧ σ1 (10 + m) 3 = a3 ∧ σ1 (10 + m) 4 = a4 ∧ σ1 1 2 = m + 1 := by
    rw [← hσ1]
    have : ¬ (10 + m = 1) := by omega
    simp [gmUp, this]
  generalize hσ2 : gmUp (gmUp (gmUp (gmUp (gmUp (gmUp σ1 134 (37 + 5 * m) (p : Int)) 134 (38 + 5 * m) a1) 134 (39 + 5 * m) (q : Int)) 134 (40 + 5 * m) a3) 134 (41 + 5 * m) a4) 134 36 ((m : Int) + 1) = σ2
  have z0 : ∀ k i, k ≠ 134 → σ2 k i = σ1 k i := fun k i z => by
    rw [← hσ2, gmUp_k z, gmUp_k z, gmUp_k z, gmUp_k z, gmUp_k z, gmUp_k z]
  have y0 : ∀ k, k ≠ 36 → (k < 37 + 5 * m ∨ 41 + 5 * m < k) → σ2 134 k = σ 134 k := fun k z1 z2 => by
    rw [← hσ2, gmUp_i z1, gmUp_i (by omega), gmUp_i (by omega), gmUp_i (by omega), gmUp_i (by omega), gmUp_i (by omega), x0 134 k (by omega) (by omega)]
  have y1 : σ2 134 (37 + 5 * m) = p ∧ σ2 134 (38 + 5 * m) = a1 ∧ σ2 134 (39 + 5 * m) = q ∧ σ2 134 (40 + 5 * m) = a3 ∧ σ2 134 (41 + 5 * m) = a4 ∧ σ2 134 36 = m + 1 := by
    rw [← hσ2]
    refine ⟨?_, ?_, ?_, ?_, ?_, gmUp_s⟩
    · rw [gmUp_i (by omega), gmUp_i (by omega), gmUp_i (by omega), gmUp_i (by omega), gmUp_i (by omega), gmUp_s]
    · rw [gmUp_i (by omega), gmUp_i (by omega), gmUp_i (by omega), gmUp_i (by omega), gmUp_s]
    · rw [gmUp_i (by omega), gmUp_i (by omega), gmUp_i (by omega), gmUp_s]
    · rw [gmUp_i (by omega), gmUp_i (by omega), gmUp_s]
    · rw [gmUp_i (by omega), gmUp_s]
  obtain ⟨w0, w1, w2, w3, w4, w5⟩ := y1
  have eS : ∀ k, k < 78 → (k < 36 ∨ 67 ≤ k) → σ2 134 k = σ 134 k := fun k z1 z2 => y0 k (by omega) (by omega)
  have hIS : InvS (σ2 134) := by
    refine ⟨by rw [w5]; omega, fun s hs => ?_⟩
    rw [w5] at hs
    by_cases e : s = m
    · subst e
      unfold SmOK
      rw [w0, w1, w2, w3, w4, gmTN, gmTN, eS _ (by omega) (by omega), eS _ (by omega) (by omega)]
      exact ⟨⟨by omega, hdp⟩, g1, ⟨by omega, hdq⟩, g3, g4⟩
    · have := hI.2.2 s (by omega)
      unfold SmOK at this ⊢
      rw [y0 (37 + 5 * s) (by omega) (by omega), y0 (38 + 5 * s) (by omega) (by omega), y0 (39 + 5 * s) (by omega) (by omega), y0 (40 + 5 * s) (by omega) (by omega), y0 (41 + 5 * s) (by omega) (by omega), eS (6 * (σ 134 (37 + 5 * s)).toNat) (by omega) (by omega), eS (6 * (σ 134 (39 + 5 * s)).toNat) (by omega) (by omega)]
      exact this
  refine ⟨(m : Int), σ1, σ2, ?_, ?_, ?_⟩
  · unfold Fx_addSeam
    rw [X_dfd hC hI.1.1, gmB_s, if_neg q0, X_dfd hC hI.1.1, gmB_s, if_neg q2, X_in, gmB_s, inR_1 g1, if_neg (by decide), X_in, gmB_s, inR_1 g3, if_neg (by decide), X_in, gmB_s, inR_1 g4, if_neg (by decide), x36, hm, gmL_s, if_pos (by omega), gmG_t (by omega), gmTN, gmTg_9, gmL_s, gmL_s, gmL_s, gmL_s, gmL_s, gmL_s, gmG_t ⟨by omega, by omega⟩, gmL_s, hσ1]
  · have v36 : ∀ (τ : St) (k : Nat) (v : Int), k ≠ 36 → gmUp τ 134 k v 134 36 = τ 134 36 := fun τ k v z => gmUp_i (fun e => z e.symm)
    have u36 : σ1 134 36 = m := by rw [x0 134 36 (by omega) (by omega)]; exact hm
    have uA : σ1 134 = σ 134 := funext fun i => x0 134 i (by omega) (by omega)
    unfold Fm_addSeam
    rw [M_dfd uA, gmB_s, if_neg q0, M_dfd uA, gmB_s, if_neg q2, M_in, gmB_s, inR_1 g1, if_neg (by decide), M_in, gmB_s, inR_1 g3, if_neg (by decide), M_in, gmB_s, inR_1 g4, if_neg (by decide), u36, if_neg (by omega), gmL_s, gmG_t (by omega), gmL_s, gmG_t (by omega), gmL_s, gmG_t (by omega), gmL_s, gmG_t (by omega), gmL_s, gmG_t (by omega), gmL_s]
    rw [show ((37 : Int) + (5 * (m : Int))).toNat = 37 + 5 * m by omega, show ((37 : Int) + (5 * (m : Int)) + 1).toNat = 38 + 5 * m by omega, show ((37 : Int) + (5 * (m : Int)) + 2).toNat = 39 + 5 * m by omega, show ((37 : Int) + (5 * (m : Int)) + 3).toNat = 40 + 5 * m by omega, show ((37 : Int) + (5 * (m : Int)) + 4).toNat = 41 + 5 * m by omega, v36 _ _ _ (by omega), v36 _ _ _ (by omega), v36 _ _ _ (by omega), v36 _ _ _ (by omega), v36 _ _ _ (by omega), u36, gmG_t ⟨by omega, by omega⟩, gmL_s, gmUp_s, gmG_t ⟨by omega, by omega⟩, hσ2, show (m : Int) + 1 - 1 = (m : Int) by omega]
  · refine hR.upd (fun k j z => by rw [z0 k j (by omega), x0 k j (by omega) (by omega)]) ?_ ⟨hI.1.seams eS, hIS⟩
    refine hR.1.seams hIS eS (fun k i z1 z2 z3 => by rw [z0 k i (by omega), x0 k i (by omega) z3]) (by rw [z0 1 2 (by omega), x1.2.2.2.2.2, w5]) (fun s hs g hg => ?_)
    rw [w5] at hs
    rw [z0 _ _ (by omega)]
    by_cases e : s = m
    · subst e
      rcases (by omega : g = 0 ∨ g = 1 ∨ g = 2 ∨ g = 3 ∨ g = 4) with rfl | rfl | rfl | rfl | rfl
      · rw [x1.1]; exact w0.symm
      · rw [x1.2.1, show 37 + 5 * s + 1 = 38 + 5 * s by omega, w1]
      · rw [x1.2.2.1, show 37 + 5 * s + 2 = 39 + 5 * s by omega, w2]
      · rw [x1.2.2.2.1, show 37 + 5 * s + 3 = 40 + 5 * s by omega, w3]
      · rw [x1.2.2.2.2.1, show 37 + 5 * s + 4 = 41 + 5 * s by omega, w4]
    · rw [x0 _ _ (by omega) (by omega), y0 _ (by omega) (by omega)]
      have := hR.1.sm hI.2 (by omega : (s : Int) < σ 134 36) hg
      rw [show 10 + s = 1 + (9 + s) by omega]
      exact this
