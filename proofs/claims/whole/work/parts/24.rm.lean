/-! REMOVING A PIECE, both -/
def kept (a : Ar) (p : Int) : Nat → Nat → List Nat
  | _, 0 => []
  | c, d + 1 => if a (37 + 5 * c) = p ∨ a (39 + 5 * c) = p then kept a p (c + 1) d else c :: kept a p (c + 1) d
def ix : List Nat → Nat → Nat
  | [], _ => 0
  | x :: _, 0 => x
  | _ :: L, t + 1 => ix L t
theorem kept_u {a : Ar} {p : Int} {c d : Nat} (u : a (37 + 5 * c) = p ∨ a (39 + 5 * c) = p) : kept a p c (d + 1) = kept a p (c + 1) d := if_pos u
theorem kept_n {a : Ar} {p : Int} {c d : Nat} (u : ¬ (a (37 + 5 * c) = p ∨ a (39 + 5 * c) = p)) : kept a p c (d + 1) = c :: kept a p (c + 1) d := if_neg u
theorem kept_len (a : Ar) (p : Int) : ∀ d c, (kept a p c d).length ≤ d
  | 0, c => Nat.le_refl 0
  | d + 1, c => by
    have := kept_len a p d (c + 1)
    by_cases u : a (37 + 5 * c) = p ∨ a (39 + 5 * c) = p
    · rw [kept_u u]; omega
    · rw [kept_n u, List.length_cons]; omega
theorem kept_ok (a : Ar) (p : Int) : ∀ d c t, t < (kept a p c d).length → (c ≤ ix (kept a p c d) t ∧ ix (kept a p c d) t < c + d) ∧ ¬ (a (37 + 5 * ix (kept a p c d) t) = p ∨ a (39 + 5 * ix (kept a p c d) t) = p)
  | 0, c, t, h => absurd h (Nat.not_lt_zero t)
  | d + 1, c, t, h => by
    by_cases u : a (37 + 5 * c) = p ∨ a (39 + 5 * c) = p
    · rw [kept_u u] at h ⊢
      have := kept_ok a p d (c + 1) t h
      exact ⟨by omega, this.2⟩
    · rw [kept_n u] at h ⊢
      cases t with
      | zero => exact ⟨⟨Nat.le_refl c, by show c < c + (d + 1); omega⟩, u⟩
      | succ t =>
        rw [List.length_cons] at h
        have := kept_ok a p d (c + 1) t (by omega)
        exact ⟨⟨by show c ≤ ix (kept a p (c + 1) d) t; omega, by show ix (kept a p (c + 1) d) t < c + (d + 1); omega⟩, this.2⟩
theorem X_scopy (k0 k1 : Nat) (σ : St) : Fs_copyFrom k0 k1 σ = some (gmUp (gmUp (gmUp (gmUp (gmUp σ k0 0 (σ k1 0)) k0 1 (σ k1 1)) k0 2 (σ k1 2)) k0 3 (σ k1 3)) k0 4 (σ k1 4)) := by
  unfold Fs_copyFrom
  rw [gmL_s, gmUp_i (show 1 ≠ 0 by decide), gmL_s, gmUp_i (show 2 ≠ 1 by decide), gmUp_i (show 2 ≠ 0 by decide), gmL_s, gmUp_i (show 3 ≠ 2 by decide), gmUp_i (show 3 ≠ 1 by decide), gmUp_i (show 3 ≠ 0 by decide), gmL_s, gmUp_i (show 4 ≠ 3 by decide), gmUp_i (show 4 ≠ 2 by decide), gmUp_i (show 4 ≠ 1 by decide), gmUp_i (show 4 ≠ 0 by decide), gmL_s]
theorem X_scopy' (k0 k1 : Nat) (σ : St) : ∃ σ', Fs_copyFrom k0 k1 σ = some σ' ∧ (∀ g, g < 5 → σ' k0 g = σ k1 g) ∧ ∀ k i, k ≠ k0 → σ' k i = σ k i := by
  refine ⟨_, X_scopy k0 k1 σ, fun g hg => ?_, fun k i h => ?_⟩
  · rcases (by omega : g = 0 ∨ g = 1 ∨ g = 2 ∨ g = 3 ∨ g = 4) with rfl | rfl | rfl | rfl | rfl
    · rw [gmUp_i (by decide), gmUp_i (by decide), gmUp_i (by decide), gmUp_i (by decide), gmUp_s]
    · rw [gmUp_i (by decide), gmUp_i (by decide), gmUp_i (by decide), gmUp_s]
    · rw [gmUp_i (by decide), gmUp_i (by decide), gmUp_s]
    · rw [gmUp_i (by decide), gmUp_s]
    · rw [gmUp_s]
  · rw [gmUp_k h, gmUp_k h, gmUp_k h, gmUp_k h, gmUp_k h]
theorem X_rm {a : Ar} {p : Int} {m : Nat} (hm : m ≤ 6) : ∀ (d n c i : Nat) (σ : St) (k : Int → St → Option St), d < n → c + d = m → i ≤ c → σ 1 2 = m → (∀ j g, c ≤ j → j < m → g < 5 → σ (10 + j) g = a (37 + 5 * j + g)) → ∃ σ', Ft_removeSeamsOf_4 n p i c σ k = k ((i + (kept a p c d).length : Nat) : Int) σ' ∧ (∀ k j, (k < 10 + i ∨ 15 < k) → σ' k j = σ k j) ∧ ∀ t g, t < (kept a p c d).length → g < 5 → σ' (10 + (i + t)) g = a (37 + 5 * ix (kept a p c d) t + g) := by
  intro d
  induction d with
  | zero =>
    intro n c i σ k hn hd hi h12 hr
    obtain ⟨n, rfl⟩ : ∃ m, n = m + 1 := ⟨n - 1, by omega⟩
    refine ⟨σ, ?_, fun _ _ _ => rfl, fun t g ht => absurd ht (Nat.not_lt_zero t)⟩
    rw [Ft_removeSeamsOf_4.eq_2, h12, if_pos (by omega)]
    rfl
  | succ d ih =>
    intro n c i σ k hn hd hi h12 hr
    obtain ⟨n, rfl⟩ : ∃ m, n = m + 1 := ⟨n - 1, by omega⟩
    have r0 : σ (10 + c) 0 = a (37 + 5 * c) := hr c 0 (by omega) (by omega) (by omega)
    have r2 : σ (10 + c) 2 = a (39 + 5 * c) := by
      rw [hr c 2 (by omega) (by omega) (by omega), show 37 + 5 * c + 2 = 39 + 5 * c by omega]
    rw [Ft_removeSeamsOf_4.eq_2, h12, if_neg (by omega), gmG_t (by omega), gmTN, gmTg_9]
    unfold Fs_uses
    rw [gmB_s, r0, r2]
    by_cases u : a (37 + 5 * c) = p ∨ a (39 + 5 * c) = p
    · obtain ⟨σ', e1, e2, e3⟩ := ih n (c + 1) i σ k (by omega) (by omega) (by omega) h12 (fun j g z => hr j g (by omega))
      refine ⟨σ', ?_, e2, ?_⟩
      · have : (if a (37 + 5 * c) = p then (1 : Int) else if a (39 + 5 * c) = p then 1 else 0) = 1 := by
          rcases u with u | u
          · rw [if_pos u]
          · rw [if_pos u]; split <;> rfl
        rw [this, if_neg (by decide), gmG_t ⟨by omega, by omega⟩, show (c : Int) + 1 = ((c + 1 : Nat) : Int) by omega, e1, kept_u u]
      · rw [kept_u u]; exact e3
    · obtain ⟨σ1, c1, c2, c3⟩ := X_scopy' (10 + i) (10 + c) σ
      obtain ⟨σ', e1, e2, e3⟩ := ih n (c + 1) (i + 1) σ1 k (by omega) (by omega) (by omega) (by rw [c3 1 2 (by omega)]; exact h12) (fun j g z z1 z2 => by rw [c3 _ _ (by omega)]; exact hr j g (by omega) z1 z2)
      refine ⟨σ', ?_, fun k j z => ?_, fun t g ht hg => ?_⟩
      · rw [if_neg (fun z => u (Or.inl z)), if_neg (fun z => u (Or.inr z)), if_pos rfl, gmG_t (by omega), gmTN, gmTg_9, c1, gmBv_s, gmG_t ⟨by omega, by omega⟩, gmG_t ⟨by omega, by omega⟩, show (c : Int) + 1 = ((c + 1 : Nat) : Int) by omega, show (i : Int) + 1 = ((i + 1 : Nat) : Int) by omega, e1, kept_n u, List.length_cons, show i + 1 + (kept a p (c + 1) d).length = i + ((kept a p (c + 1) d).length + 1) by omega]
      · rw [e2 k j (by omega), c3 k j (by omega)]
      · rw [kept_n u] at ht ⊢
        rw [List.length_cons] at ht
        cases t with
        | zero =>
          show σ' (10 + i) g = a (37 + 5 * c + g)
          rw [e2 _ _ (by omega), c2 g hg]
          exact hr c g (by omega) (by omega) hg
        | succ t =>
          rw [show i + (t + 1) = i + 1 + t by omega]
          exact e3 t g (by omega) hg
theorem M_zero {p : Nat} (hp : p < 6) : ∀ (d n f : Nat) (σ : St) (k : St → Option (Int × St)), d < n → f + d = 6 → ∃ σ', Fm_removePiece_14 n p f σ k = k σ' ∧ (∀ j, 6 * p + f ≤ j → j < 6 * p + 6 → σ' 134 j = 0) ∧ ∀ k j, (k ≠ 134 ∨ j < 6 * p + f ∨ 6 * p + 6 ≤ j) → σ' k j = σ k j := by
  intro d
  induction d with
  | zero =>
    intro n f σ k hn hd
    obtain ⟨n, rfl⟩ : ∃ m, n = m + 1 := ⟨n - 1, by omega⟩
    refine ⟨σ, ?_, fun j h1 h2 => by omega, fun _ _ _ => rfl⟩
    rw [Fm_removePiece_14.eq_2, if_pos (by omega)]
  | succ d ih =>
    intro n f σ k hn hd
    obtain ⟨n, rfl⟩ : ∃ m, n = m + 1 := ⟨n - 1, by omega⟩
    obtain ⟨σ', e1, e2, e3⟩ := ih n (f + 1) (gmUp σ 134 (6 * p + f) 0) k (by omega) (by omega)
    refine ⟨σ', ?_, fun j h1 h2 => ?_, fun k j h => ?_⟩
    · rw [Fm_removePiece_14.eq_2, if_neg (by omega), gmG_t (by omega), show (((0 : Int) + (6 * (p : Int))) + (f : Int)).toNat = 6 * p + f by omega, gmL_s, gmG_t ⟨by omega, by omega⟩, show (f : Int) + 1 = ((f + 1 : Nat) : Int) by omega, e1]
    · by_cases e : j = 6 * p + f
      · rw [e3 134 j (by omega), e, gmUp_s]
      · exact e2 j (by omega) h2
    · rw [e3 k j (by omega)]
      by_cases e : k = 134
      · rw [e, gmUp_i (by omega)]
      · rw [gmUp_k e]
theorem M_drop7 : ∀ (d n y : Nat) (σ : St) (k : St → Option St), d < n → y + d = 62 → ∃ σ', Fm_dropSeam_7 n y σ k = k σ' ∧ (∀ j, y ≤ j → j < 62 → σ' 134 j = σ 134 (j + 5)) ∧ ∀ k j, (k ≠ 134 ∨ j < y ∨ 62 ≤ j) → σ' k j = σ k j := by
  intro d
  induction d with
  | zero =>
    intro n y σ k hn hd
    obtain ⟨n, rfl⟩ : ∃ m, n = m + 1 := ⟨n - 1, by omega⟩
    refine ⟨σ, ?_, fun j h1 h2 => by omega, fun _ _ _ => rfl⟩
    rw [Fm_dropSeam_7.eq_2, gmG_t ⟨by omega, by omega⟩, if_pos (by omega)]
  | succ d ih =>
    intro n y σ k hn hd
    obtain ⟨n, rfl⟩ : ∃ m, n = m + 1 := ⟨n - 1, by omega⟩
    obtain ⟨σ', e1, e2, e3⟩ := ih n (y + 1) (gmUp σ 134 y (σ 134 (y + 5))) k (by omega) (by omega)
    refine ⟨σ', ?_, fun j h1 h2 => ?_, fun k j h => ?_⟩
    · rw [Fm_dropSeam_7.eq_2, gmG_t ⟨by omega, by omega⟩, if_neg (by omega), gmG_t (by omega), gmG_t (by omega), gmTN, show ((y : Int) + 5).toNat = y + 5 by omega, gmL_s, gmG_t ⟨by omega, by omega⟩, show (y : Int) + 1 = ((y + 1 : Nat) : Int) by omega, e1]
    · by_cases e : j = y
      · rw [e3 134 j (by omega), e, gmUp_s]
      · rw [e2 j (by omega) h2, gmUp_i (by omega)]
    · rw [e3 k j (by omega)]
      by_cases e : k = 134
      · rw [e, gmUp_i (by omega)]
      · rw [gmUp_k e]
theorem M_drop {c : Nat} (hc : c < 6) {σ : St} (h36 : 0 ≤ σ 134 36 ∧ σ 134 36 ≤ 6) : ∃ σ', Fm_dropSeam c σ = some σ' ∧ σ' 134 36 = σ 134 36 - 1 ∧ (∀ j, 37 + 5 * c ≤ j → j < 62 → σ' 134 j = σ 134 (j + 5)) ∧ ∀ k j, (k ≠ 134 ∨ (j ≠ 36 ∧ j < 37 + 5 * c) ∨ 67 ≤ j) → σ' k j = σ k j := by
  obtain ⟨σ', e1, e2, e3⟩ := M_drop7 (25 - 5 * c) gmN (37 + 5 * c) σ (fun s9 => gmG (gmR ((s9 134 36) - 1)) (gmL (gmUp s9 134 36 ((s9 134 36) - 1)) (fun s11 => some s11))) (by rw [gmN_e]; omega) (by omega)
  have e36 : σ' 134 36 = σ 134 36 := e3 134 36 (by omega)
  refine ⟨gmUp σ' 134 36 (σ 134 36 - 1), ?_, gmUp_s, fun j h1 h2 => ?_, fun k j h => ?_⟩
  · unfold Fm_dropSeam
    rw [gmL_s, gmG_t ⟨by omega, by omega⟩, show (37 : Int) + 5 * (c : Int) = ((37 + 5 * c : Nat) : Int) by omega, e1, e36, gmG_t ⟨by omega, by omega⟩, gmL_s]
  · rw [gmUp_i (by omega), e2 j h1 h2]
  · by_cases e : k = 134
    · rw [e, gmUp_i (by omega), e3 134 j (by omega)]
    · rw [gmUp_k e, e3 k j (by omega)]
theorem M_rm {a : Ar} {p : Int} {m : Nat} (hm : m ≤ 6) : ∀ (c n d : Nat) (σ : St) (k : St → Option (Int × St)), c < n → c + d = m → σ 134 36 = ((c + (kept a p c d).length : Nat) : Int) → (∀ j g, j < c → g < 5 → σ 134 (37 + 5 * j + g) = a (37 + 5 * j + g)) → (∀ t g, t < (kept a p c d).length → g < 5 → σ 134 (37 + 5 * (c + t) + g) = a (37 + 5 * ix (kept a p c d) t + g)) → ∃ σ', Fm_removePiece_50 n p ((c : Int) - 1) σ k = k σ' ∧ (∀ k j, (k ≠ 134 ∨ j < 36 ∨ 67 ≤ j) → σ' k j = σ k j) ∧ σ' 134 36 = (kept a p 0 m).length ∧ ∀ t g, t < (kept a p 0 m).length → g < 5 → σ' 134 (37 + 5 * t + g) = a (37 + 5 * ix (kept a p 0 m) t + g) := by
  intro c
  induction c with
  | zero =>
    intro n d σ k hn hd h36 h1 h2
    obtain ⟨n, rfl⟩ : ∃ m, n = m + 1 := ⟨n - 1, by omega⟩
    obtain rfl : d = m := by omega
    refine ⟨σ, ?_, fun _ _ _ => rfl, by rw [h36]; omega, fun t g ht hg => ?_⟩
    · rw [Fm_removePiece_50.eq_2, if_pos (by decide)]
    · have := h2 t g ht hg
      rw [show 0 + t = t by omega] at this
      exact this
  | succ c ih =>
    intro n d σ k hn hd h36 h1 h2
    obtain ⟨n, rfl⟩ : ∃ m, n = m + 1 := ⟨n - 1, by omega⟩
    have hl := kept_len a p d (c + 1)
    have r0 : σ 134 (37 + 5 * c) = a (37 + 5 * c) := h1 c 0 (by omega) (by omega)
    have r2 : σ 134 (39 + 5 * c) = a (39 + 5 * c) := by
      have := h1 c 2 (by omega) (by omega)
      rw [show 37 + 5 * c + 2 = 39 + 5 * c by omega] at this
      exact this
    have used : (a (37 + 5 * c) = p ∨ a (39 + 5 * c) = p) → ∃ σ1 σ', Fm_dropSeam c σ = some σ1 ∧ Fm_removePiece_50 n p ((c : Int) - 1) σ1 k = k σ' ∧ (∀ k j, (k ≠ 134 ∨ j < 36 ∨ 67 ≤ j) → σ' k j = σ k j) ∧ σ' 134 36 = (kept a p 0 m).length ∧ ∀ t g, t < (kept a p 0 m).length → g < 5 → σ' 134 (37 + 5 * t + g) = a (37 + 5 * ix (kept a p 0 m) t + g) := by
      intro u
      obtain ⟨σ1, d1, d2, d3, d4⟩ := M_drop (by omega : c < 6) (by omega : 0 ≤ σ 134 36 ∧ σ 134 36 ≤ 6)
      obtain ⟨σ', e1, e2, e3⟩ := ih n (d + 1) σ1 k (by omega) (by omega) (by rw [kept_u u, d2, h36]; omega) (fun j g z1 z2 => by rw [d4 _ _ (by omega)]; exact h1 j g (by omega) z2) (fun t g z1 z2 => by
        rw [kept_u u] at z1 ⊢
        rw [d3 _ (by omega) (by omega), show 37 + 5 * (c + t) + g + 5 = 37 + 5 * (c + 1 + t) + g by omega]
        exact h2 t g z1 z2)
      exact ⟨σ1, σ', d1, e1, fun k j z => by rw [e2 k j z, d4 k j (by omega)], e3⟩
    rw [Fm_removePiece_50.eq_2, show ((c + 1 : Nat) : Int) - 1 = (c : Int) by omega, if_neg (by omega), gmG_t (by omega), show ((37 : Int) + 5 * (c : Int)).toNat = 37 + 5 * c by omega, r0]
    by_cases u0 : a (37 + 5 * c) = p
    · obtain ⟨σ1, σ', d1, e1, e2⟩ := used (Or.inl u0)
      refine ⟨σ', ?_, e2⟩
      rw [if_pos u0, d1, gmBv_s, gmG_t ⟨by omega, by omega⟩, show (c : Int) + (-1) = (c : Int) - 1 by omega, e1]
    · rw [if_neg u0, gmG_t (by omega), show ((37 : Int) + 5 * (c : Int) + 2).toNat = 39 + 5 * c by omega, r2]
      by_cases u2 : a (39 + 5 * c) = p
      · obtain ⟨σ1, σ', d1, e1, e2⟩ := used (Or.inr u2)
        refine ⟨σ', ?_, e2⟩
        rw [if_pos u2, d1, gmBv_s, gmG_t ⟨by omega, by omega⟩, show (c : Int) + (-1) = (c : Int) - 1 by omega, e1]
      · have u : ¬ (a (37 + 5 * c) = p ∨ a (39 + 5 * c) = p) := fun z => by omega
        obtain ⟨σ', e1, e2⟩ := ih n (d + 1) σ k (by omega) (by omega) (by rw [kept_n u, List.length_cons, h36]; omega) (fun j g z1 z2 => h1 j g (by omega) z2) (fun t g z1 z2 => by
          rw [kept_n u] at z1 ⊢
          rw [List.length_cons] at z1
          cases t with
          | zero => exact h1 c g (by omega) z2
          | succ t =>
            rw [show c + (t + 1) = c + 1 + t by omega]
            exact h2 t g (by omega) z2)
        refine ⟨σ', ?_, e2⟩
        rw [if_neg u2, gmG_t ⟨by omega, by omega⟩, show (c : Int) + (-1) = (c : Int) - 1 by omega, e1]
theorem RepS.mk {σ : St} {a : Ar} (hI : InvS a) (h0 : ∀ q f, q < 6 → f < 6 → (f = 0 ∨ a (6 * q) = 1) → σ (3 + q) f = a (6 * q + f)) (h36 : σ 1 2 = a 36) (hs : ∀ s g : Nat, (s : Int) < a 36 → g < 5 → σ (10 + s) g = a (37 + 5 * s + g)) (hh : ∀ k, 67 ≤ k → k < 78 → σ (1 + lc k) (lf k) = a k) : RepS σ 1 a := by
  intro k hk hl
  have h6 := hI.1
  by_cases h1 : k < 36
  · unfold lc lf
    rw [if_pos h1, if_pos h1, show 1 + (2 + k / 6) = 3 + k / 6 by omega, h0 (k / 6) (k % 6) (by omega) (by omega) (hl.1 h1)]
    congr 1
    omega
  · by_cases h2 : k = 36
    · rw [h2]; exact h36
    · by_cases h3 : k < 67
      · have := hl.2 (by omega) h3
        unfold lc lf
        rw [if_neg (by omega), if_neg (by omega), if_pos (by omega), if_neg (by omega), if_neg (by omega), if_pos (by omega), show 1 + (9 + (k - 37) / 5) = 10 + (k - 37) / 5 by omega, hs _ _ this (by omega)]
        congr 1
        omega
      · exact hh k (by omega) hk
theorem InvC.up {a a' : Ar} (h : InvC a) (hP : InvP a') (e : ∀ k, 67 ≤ k → k < 78 → a' k = a k) : InvC a' := by
  obtain ⟨h1, h2, h3, h4, h5, h6, h7, h8⟩ := h
  refine ⟨hP, ?_, ?_, ?_, ?_, ?_, fun i hi => ?_, fun i hi => ?_⟩
  · rw [e _ (by omega) (by omega)]; exact h2
  · rw [e _ (by omega) (by omega)]; exact h3
  · rw [e _ (by omega) (by omega)]; exact h4
  · rw [e _ (by omega) (by omega)]; exact h5
  · rw [e _ (by omega) (by omega)]; exact h6
  · rw [e _ (by omega) (by omega)]; exact h7 i hi
  · rw [e _ (by omega) (by omega)]; exact h8 i hi
theorem Op_removePiece {σ : St} (hR : Rel σ) (a0 : Int) : Same (Fx_removePiece a0) (Fm_removePiece a0) σ := by
  have hI := hR.2.1
  have h6 := hI.2.1
  have x36 : σ 1 2 = σ 134 36 := hR.1.hi (k := 36) (by omega)
  by_cases q0 : dfd (σ 134) a0 = 0
  · refine Same.err (r := -1001) hR ?_ ?_
    · unfold Fx_removePiece
      rw [X_dfd hR.1.c hI.1.1, gmB_s, if_pos q0]
    · unfold Fm_removePiece
      rw [M_dfd rfl, gmB_s, if_pos q0]
  obtain ⟨p, hp, rfl, hdp⟩ := dfd_p q0
  obtain ⟨m, hm⟩ : ∃ m : Nat, σ 134 36 = m := ⟨(σ 134 36).toNat, by omega⟩
  have hm6 : m ≤ 6 := by omega
  obtain ⟨σ1, e1, e2, e3⟩ := X_rm (a := σ 134) (p := (p : Int)) hm6 m gmN 0 0 (gmUp σ (3 + p) 0 0) (fun x11 s12 => gmL (gmUp s12 1 2 x11) (fun s13 => some s13)) (by rw [gmN_e]; omega) (by omega) (Nat.le_refl 0) (by rw [gmUp_k (by omega), x36, hm]) (fun j g z1 z2 z3 => by
    have := hR.1.sm hI.2 (by omega : (j : Int) < σ 134 36) z3
    rw [gmUp_k (by omega), show 10 + j = 1 + (9 + j) by omega]
    exact this)
  have hkl := kept_len (σ 134) p m 0
  have hko := kept_ok (σ 134) p m 0
  obtain ⟨σ2, f1, f2, f3⟩ := M_zero hp 6 gmN 0 (gmUp σ1 1 2 ((kept (σ 134) p 0 m).length : Nat)) (fun s8 => gmL (((s8 134 36) - 1) : Int) (fun x9 => gmG (gmR x9) (Fm_removePiece_50 gmN p x9 s8 (fun s21 => some ((s21 134 36), s21))))) (by rw [gmN_e]; omega) (by omega)
  have x134 : ∀ i, σ1 134 i = σ 134 i := fun i => by rw [e2 134 i (by omega), gmUp_k (by omega)]
  have y134 : ∀ i, 36 ≤ i → σ2 134 i = σ 134 i := fun i hi => by rw [f3 134 i (by omega), gmUp_k (by omega), x134]
  have y36 : σ2 134 36 = m := by rw [y134 36 (by omega), hm]
  obtain ⟨σ3, g1, g2, g3, g4⟩ := M_rm (a := σ 134) (p := (p : Int)) hm6 m gmN 0 σ2 (fun s21 => some ((s21 134 36), s21)) (by rw [gmN_e]; omega) (by omega) y36 (fun j g _ _ => y134 _ (by omega)) (fun t g z => absurd z (Nat.not_lt_zero t))
  -- the numbers after it
  have z0 : ∀ k j, (k ≠ 134 → (k < 3 ∨ 15 < k ∨ (3 ≤ k ∧ k < 9 ∧ k ≠ 3 + p) ∨ (k = 3 + p ∧ j ≠ 0)) → (k ≠ 1 ∨ j ≠ 2) → σ3 k j = σ k j) := fun k j z1 z2 z3 => by
    rw [g2 k j (Or.inl z1), f3 k j (Or.inl z1)]
    have : gmUp σ1 1 2 ((kept (σ 134) p 0 m).length : Nat) k j = σ1 k j := by
      rcases z3 with z | z
      · exact gmUp_k z
      · exact gmUp_i z
    rw [this, e2 k j (by omega)]
    by_cases z : k = 3 + p
    · exact gmUp_i (by omega)
    · exact gmUp_k z
  have z1 : ∀ i, (67 ≤ i ∨ (i < 36 ∧ (i < 6 * p ∨ 6 * p + 6 ≤ i))) → σ3 134 i = σ 134 i := fun i hi => by
    rw [g2 134 i (by omega), f3 134 i (by omega), gmUp_k (by omega), x134]
  have z2 : ∀ i, 6 * p ≤ i → i < 6 * p + 6 → σ3 134 i = 0 := fun i h1 h2 => by
    rw [g2 134 i (by omega), f2 i (by omega) h2]
  have zp : σ3 (3 + p) 0 = 0 := by
    rw [g2 _ _ (by omega), f3 _ _ (by omega), gmUp_k (by omega), e2 _ _ (by omega), gmUp_s]
  have hIS : InvS (σ3 134) := by
    refine ⟨by rw [g3]; omega, fun s hs => ?_⟩
    rw [g3] at hs
    have hs : s < (kept (σ 134) (p : Int) 0 m).length := by omega
    obtain ⟨o1, o2⟩ := hko s hs
    have ok := hI.2.2 (ix (kept (σ 134) (p : Int) 0 m) s) (by omega)
    have gs := fun g hg => g4 s g hs hg
    generalize ix (kept (σ 134) (p : Int) 0 m) s = j at o1 o2 ok gs
    have row : ∀ g, g < 5 → σ3 134 (37 + g + 5 * s) = σ 134 (37 + g + 5 * j) := fun g hg => by
      have := gs g hg
      rw [show 37 + g + 5 * s = 37 + 5 * s + g by omega, show 37 + g + 5 * j = 37 + 5 * j + g by omega]
      exact this
    have r0 : σ3 134 (37 + 5 * s) = σ 134 (37 + 5 * j) := row 0 (by omega)
    have r1 : σ3 134 (38 + 5 * s) = σ 134 (38 + 5 * j) := row 1 (by omega)
    have r2 : σ3 134 (39 + 5 * s) = σ 134 (39 + 5 * j) := row 2 (by omega)
    have r3 : σ3 134 (40 + 5 * s) = σ 134 (40 + 5 * j) := row 3 (by omega)
    have r4 : σ3 134 (41 + 5 * s) = σ 134 (41 + 5 * j) := row 4 (by omega)
    obtain ⟨⟨s1, s2⟩, s3, ⟨s4, s5⟩, s6, s7⟩ := ok
    unfold SmOK
    rw [r0, r1, r2, r3, r4, z1 (6 * (σ 134 (37 + 5 * j)).toNat) (by omega), z1 (6 * (σ 134 (39 + 5 * j)).toNat) (by omega)]
    exact ⟨⟨s1, s2⟩, s3, ⟨s4, s5⟩, s6, s7⟩
  have hIP : InvP (σ3 134) := by
    intro q hq
    by_cases e : q = p
    · subst e
      rw [z2 (6 * q) (by omega) (by omega)]
      exact ⟨Or.inl rfl, fun z => absurd z (by decide)⟩
    · rw [z1 _ (by omega), z1 _ (by omega), z1 _ (by omega), z1 _ (by omega), z1 _ (by omega), z1 _ (by omega)]
      exact hI.1.1 q hq
  refine ⟨((kept (σ 134) (p : Int) 0 m).length : Nat), gmUp σ1 1 2 ((kept (σ 134) p 0 m).length : Nat), σ3, ?_, ?_, ?_⟩
  · unfold Fx_removePiece Ft_removeSeamsOf
    rw [X_dfd hR.1.c hI.1.1, gmB_s, if_neg q0, gmG_t (by omega), gmTN, gmTg_2, gmL_s]
    rw [show Ft_removeSeamsOf_4 gmN (p : Int) 0 0 (gmUp σ (3 + p) 0 0) (fun x11 s12 => gmL (gmUp s12 1 2 x11) (fun s13 => some s13)) = _ from e1, gmL_s, gmBv_s, Nat.zero_add, gmUp_s]
  · unfold Fm_removePiece
    rw [M_dfd (funext fun i => by rw [gmUp_k (by omega), x134]), gmB_s, if_neg q0]
    refine f1.trans ?_
    rw [y36, gmL_s, gmG_t ⟨by omega, by omega⟩, g1, g3]
  · refine hR.upd (fun k j z => z0 k j (by omega) (by omega) (by omega)) ?_ ⟨hI.1.up hIP (fun k a b => z1 k (by omega)), hIS⟩
    refine RepS.mk hIS (fun q f hq hf hd => ?_) ?_ (fun s g hs hg => ?_) (fun k h1 h2 => ?_)
    · by_cases e : q = p
      · subst e
        rcases hd with rfl | hd
        · rw [zp]; exact (z2 (6 * q) (by omega) (by omega)).symm
        · rw [z2 (6 * q) (by omega) (by omega)] at hd
          exact absurd hd (by decide)
      · rw [z1 (6 * q) (by omega)] at hd
        rw [z0 _ _ (by omega) (by omega) (by omega), z1 _ (by omega), show 3 + q = 1 + (2 + q) by omega]
        exact hR.1.pc hq hf hd
    · rw [g3, g2 1 2 (by omega), f3 1 2 (by omega), gmUp_s]
    · rw [g3] at hs
      rw [g4 s g (by omega) hg, g2 _ _ (by omega), f3 _ _ (by omega), gmUp_k (by omega)]
      have := e3 s g (by omega) hg
      rw [show 10 + (0 + s) = 10 + s by omega] at this
      exact this
    · have hloc : (1 + lc k < 3 ∨ 15 < 1 + lc k) ∧ (1 + lc k ≠ 1 ∨ lf k ≠ 2) ∧ 1 + lc k ≤ 17 := by
        have key : ∀ k, k < 78 → 67 ≤ k → (1 + lc k < 3 ∨ 15 < 1 + lc k) ∧ (1 + lc k ≠ 1 ∨ lf k ≠ 2) ∧ 1 + lc k ≤ 17 := by decide +kernel
        exact key k h2 h1
      rw [z0 _ _ (by omega) (by omega) hloc.2.1, z1 k (by omega)]
      exact hR.1 k h2 (live_hi (by omega))
