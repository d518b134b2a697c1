/-! FIRST FREE in the reference -/
section FM
variable {L : List PT} {w : Int} {o : Nat → Nat} {σ : St} {pA pC : Nat → Int}
def RowsOK (σ : St) (L : List PT) (o : Nat → Nat) (pA pC : Nat → Int) (m : Nat) : Prop := ∀ r, r < 1400 → ∃ s : Nat, σ 148 r = (s : Int) ∧ s < 2 ^ 24 ∧ ∀ t, s.testBit t = true ↔ Occ L o pA pC m (r : Int) t
theorem M_tf5 {k : Int → St → Option (Int × St)} {m f M : Nat} (hR : RowsOK σ L o pA pC m) (hf : f + M ≤ 1400) : ∀ (d n i s : Nat), d < n → i + d = M → s < 2 ^ 24 → (∀ t, s.testBit t = true ↔ ∃ r : Nat, (f ≤ r ∧ r < f + i) ∧ Occ L o pA pC m (r : Int) t) → ∃ s' : Nat, Fm_takenFrom_5 n f M s i σ k = k s' σ ∧ s' < 2 ^ 24 ∧ ∀ t, s'.testBit t = true ↔ ∃ r : Nat, (f ≤ r ∧ r < f + M) ∧ Occ L o pA pC m (r : Int) t := by
  intro d
  induction d with
  | zero =>
    intro n i s hn hd hs hb
    obtain ⟨n, rfl⟩ : ∃ m, n = m + 1 := ⟨n - 1, by omega⟩
    rw [Fm_takenFrom_5.eq_2, if_pos (by omega)]
    have : i = M := by omega
    subst this
    exact ⟨s, rfl, hs, hb⟩
  | succ d ih =>
    intro n i s hn hd hs hb
    obtain ⟨n, rfl⟩ : ∃ m, n = m + 1 := ⟨n - 1, by omega⟩
    obtain ⟨s2, e2, l2, b2⟩ := hR (f + i) (by omega)
    rw [Fm_takenFrom_5.eq_2, if_neg (by omega), gmG_t (by omega), show ((f : Int) + (i : Int)).toNat = f + i by omega, e2, gmG_t ⟨Int.natCast_nonneg _, Int.natCast_nonneg _⟩, gmTN, gmTN, gmL_s, gmG_t ⟨by omega, by omega⟩, show (i : Int) + 1 = ((i + 1 : Nat) : Int) by omega]
    refine ih n (i + 1) (s ||| s2) (by omega) (by omega) (Nat.or_lt_two_pow hs l2) (fun t => ?_)
    rw [Nat.testBit_or, Bool.or_eq_true, hb t, b2 t]
    constructor
    · rintro (⟨r, h1, h2⟩ | h)
      · exact ⟨r, by omega, h2⟩
      · exact ⟨f + i, by omega, h⟩
    · rintro ⟨r, h1, h2⟩
      by_cases e : r = f + i
      · subst e; exact Or.inr h2
      · exact Or.inl ⟨r, by omega, h2⟩
theorem M_tf {m q f : Nat} (hO : AllOK L) (hq : q < L.length) (hR : RowsOK σ L o pA pC m) (hf : f + 18 ≤ 1400) : ∃ s : Nat, Fm_takenFrom f (pal L q) σ = some ((s : Int), σ) ∧ s < 2 ^ 24 ∧ ∀ t, s.testBit t = true ↔ Blk L o pA pC m q (f : Int) t := by
  have b1 := pal_b hO hq
  unfold Fm_takenFrom
  obtain ⟨s, h1, h2, h3⟩ := M_tf5 (k := fun x6 s7 => some (x6, s7)) (f := f) (M := (pal L q).toNat) hR (by omega) (pal L q).toNat gmN 0 0 (by rw [gmN_e]; omega) (by omega) (by decide) (fun t => by
    rw [Nat.zero_testBit]
    exact ⟨fun h => (by cases h), fun ⟨r, h, _⟩ => absurd h (by omega)⟩)
  rw [Int.toNat_of_nonneg (by omega)] at h1
  refine ⟨s, h1, h2, fun t => ?_⟩
  rw [h3 t]
  constructor
  · rintro ⟨r, h4, h5⟩
    exact ⟨(r : Int), by omega, h5⟩
  · rintro ⟨r, h4, h5⟩
    refine ⟨r.toNat, by omega, ?_⟩
    rw [Int.toNat_of_nonneg (by omega)]
    exact h5
theorem M_fa51 {k : St → Option (Int × St)} {s n0 : Nat} {last : Int} (hs : s < 2 ^ 24) (hl : -1 ≤ last ∧ last + n0 ≤ 24) (hn0 : n0 ≤ 18) : ∀ (d n c : Nat), d < n → (c : Int) + d = last + 1 → (∃ g : Nat, c ≤ g ∧ (g : Int) ≤ last ∧ (∀ t, g ≤ t → t < g + n0 → s.testBit t = false) ∧ (∀ c', c ≤ c' → c' < g → ¬ ∀ t, c' ≤ t → t < c' + n0 → s.testBit t = false) ∧ Fm_freeAt_51 n s ((2 ^ n0 - 1 : Nat) : Int) last c σ k = some ((g : Int), σ)) ∨ ((∀ c' : Nat, c ≤ c' → (c' : Int) ≤ last → ¬ ∀ t, c' ≤ t → t < c' + n0 → s.testBit t = false) ∧ Fm_freeAt_51 n s ((2 ^ n0 - 1 : Nat) : Int) last c σ k = k σ) := by
  intro d
  induction d with
  | zero =>
    intro n c hn hd
    obtain ⟨n, rfl⟩ : ∃ m, n = m + 1 := ⟨n - 1, by omega⟩
    rw [Fm_freeAt_51.eq_2, if_pos (by omega)]
    exact Or.inr ⟨fun c' h1 h2 => by omega, rfl⟩
  | succ d ih =>
    intro n c hn hd
    obtain ⟨n, rfl⟩ : ∃ m, n = m + 1 := ⟨n - 1, by omega⟩
    have e1 : ((2 ^ n0 - 1 : Nat) : Int) * 2 ^ c = ((maskN n0 c : Nat) : Int) := by
      unfold maskN
      rw [Int.natCast_mul, Int.natCast_pow]; rfl
    have hmk : maskN n0 c < 2 ^ 24 := maskN_lt (by omega)
    rw [Fm_freeAt_51.eq_2, if_neg (by omega), gmTN, e1, gmG_t ⟨⟨Int.natCast_nonneg _, by omega, by omega⟩, by omega⟩, gmG_t ⟨Int.natCast_nonneg _, Int.natCast_nonneg _⟩, gmTN, gmTN]
    by_cases h : ∀ t, c ≤ t → t < c + n0 → s.testBit t = false
    · have h2 := (and_mask s n0 c).mpr h
      rw [if_pos (show ((s &&& maskN n0 c : Nat) : Int) = 0 by rw [h2]; rfl)]
      exact Or.inl ⟨c, Nat.le_refl c, by omega, h, fun c' a b => by omega, rfl⟩
    · have h2 : ¬ ((s &&& maskN n0 c : Nat) : Int) = 0 := fun z => h ((and_mask s n0 c).mp (by omega))
      rw [if_neg h2, gmG_t ⟨by omega, by omega⟩, show (c : Int) + 1 = ((c + 1 : Nat) : Int) by omega]
      rcases ih n (c + 1) (by omega) (by omega) with ⟨g, g1, g2, g3, g4, g5⟩ | ⟨g1, g2⟩
      · refine Or.inl ⟨g, by omega, g2, g3, fun c' a b => ?_, g5⟩
        by_cases e : c' = c
        · rw [e]; exact h
        · exact g4 c' (by omega) b
      · refine Or.inr ⟨fun c' a b => ?_, g2⟩
        by_cases e : c' = c
        · rw [e]; exact h
        · exact g1 c' (by omega) b
theorem M_fa {m q f : Nat} (hO : AllOK L) (hlay : layO L w) (hw2 : w ≤ 24) (hq : q < L.length) (hX : HM σ L) (hR : RowsOK σ L o pA pC m) (hf : f + 18 ≤ 1400) : ∃ g : Int, Fm_freeAt q f w σ = some (g, σ) ∧ Gap L w o pA pC m q (f : Int) g ∧ g ≤ 24 := by
  have hl := hO.1
  obtain ⟨h2, h3, h4⟩ := hX.at hq
  have b1 := pac_b hO hq
  have b2 := lastC_b hO hlay hw2 hq
  have bp := pow_b (n := (pac L q).toNat) (by omega)
  obtain ⟨s, s1, s2, s3⟩ := M_tf hO hq hR hf
  have elast : (if pfo L q = 0 then w - pac L q else 0) = lastC L w q := rfl
  have eown : (1 : Int) * 2 ^ (pac L q).toNat - 1 = ((2 ^ (pac L q).toNat - 1 : Nat) : Int) := by
    have : 0 < 2 ^ (pac L q).toNat := Nat.pow_pos (by decide)
    rw [Int.natCast_sub (by omega), Int.natCast_pow, Int.one_mul]
    rfl
  unfold Fm_freeAt
  rw [gmG_t (by omega), gmTN, h3, s1, gmB_s, h2, h4, gmG_t ⟨by omega, by omega⟩, gmL_s, elast, gmL_s, gmG_t ⟨by omega, by omega⟩, gmG_t ⟨by omega, by omega⟩, eown]
  rcases M_fa51 (σ := σ) (k := fun s15 => some ((-1010 : Int), s15)) (s := s) (n0 := (pac L q).toNat) (last := lastC L w q) s2 (by omega) (by omega) (lastC L w q + 1).toNat gmN 0 (by rw [gmN_e]; omega) (by omega) with ⟨g, g1, g2, g3, g4, g5⟩ | ⟨g1, g2⟩
  · exact ⟨(g : Int), g5, gap_of s3 b1.1 (Or.inl ⟨g, rfl, g2, g3, fun c' h => g4 c' (Nat.zero_le _) h⟩), by omega⟩
  · exact ⟨-1010, g2, gap_of s3 b1.1 (Or.inr ⟨by omega, fun c' h => g1 c' (Nat.zero_le _) h⟩), by omega⟩
theorem M_pf54 {k : Int → Int → St → Option St} {m q : Nat} {y2 : Int} (hO : AllOK L) (hlay : layO L w) (hw2 : w ≤ 24) (ho : ∀ j, j < m → o j < L.length) (hm : m ≤ 71) (hq : q < L.length) (hX : HM σ L) (hR : RowsOK σ L o pA pC m) (hB : PB L o pA pC m) : ∀ (d n f : Nat) (g : Int), d < n → f + d = 18 * m → Gap L w o pA pC m q (f : Int) g → (∀ f' : Nat, f' < f → ∀ c', ¬ Fit L w o pA pC m q (f' : Int) c') → g ≤ 24 → ∃ a c : Nat, Fm_packFree_54 n w y2 q f g σ k = k a c σ ∧ Least L w o pA pC m q a c ∧ a ≤ 18 * m ∧ (c : Int) + pac L q ≤ 24 := by
  have b1 := pal_b hO hq
  have b2 := lastC_b hO hlay hw2 hq
  have htop : Fit L w o pA pC m q ((18 * m : Nat) : Int) 0 := Fit.top b2.1 (fun j hj => by
    have h1 := hB j hj
    have h2 := pal_b hO (ho j hj)
    omega)
  have done : ∀ (n f : Nat) (g : Int), f ≤ 18 * m → 0 ≤ g → Gap L w o pA pC m q (f : Int) g → (∀ f' : Nat, f' < f → ∀ c', ¬ Fit L w o pA pC m q (f' : Int) c') → ∃ a c : Nat, Fm_packFree_54 (n + 1) w y2 q f g σ k = k a c σ ∧ Least L w o pA pC m q a c ∧ a ≤ 18 * m ∧ (c : Int) + pac L q ≤ 24 := by
    intro n f g hf hg hG hno
    rcases hG with ⟨g0, g1, g2⟩ | ⟨g0, -⟩
    · refine ⟨f, g.toNat, ?_, ⟨Int.natCast_nonneg _, Int.natCast_nonneg _, by rw [gmTN]; exact g1, fun a' c' ha hc => ?_⟩, hf, ?_⟩
      · rw [Fm_packFree_54.eq_2, if_pos hg, Int.toNat_of_nonneg hg]
      · by_cases e : a' < (f : Int)
        · exact absurd hc (by
            have := hno a'.toNat (by omega) c'
            rw [Int.toNat_of_nonneg ha] at this
            exact this)
        · by_cases e2 : (f : Int) = a'
          · rw [← e2] at hc
            have := g2 c' hc
            exact Or.inr ⟨e2, by omega⟩
          · exact Or.inl (by omega)
      · have := g1.1
        omega
    · omega
  intro d
  induction d with
  | zero =>
    intro n f g hn hd hG hno hg24
    obtain ⟨n, rfl⟩ : ∃ m, n = m + 1 := ⟨n - 1, by omega⟩
    have : f = 18 * m := by omega
    subst this
    refine done n _ g (Nat.le_refl _) ?_ hG hno
    rcases hG with ⟨g0, -⟩ | ⟨-, g1⟩
    · exact g0
    · exact absurd htop (g1 0)
  | succ d ih =>
    intro n f g hn hd hG hno hg24
    obtain ⟨n, rfl⟩ : ∃ m, n = m + 1 := ⟨n - 1, by omega⟩
    by_cases hg : 0 ≤ g
    · exact done n f g (by omega) hg hG hno
    · obtain ⟨g', e1, e2, e3⟩ := M_fa (f := f + 1) hO hlay hw2 hq hX hR (by omega)
      rw [Fm_packFree_54.eq_2, if_neg hg, gmG_t ⟨by omega, by omega⟩, show (f : Int) + 1 = ((f + 1 : Nat) : Int) by omega, e1, gmB_s]
      refine ih n (f + 1) g' (by omega) (by omega) e2 (fun f' hf' c' hc => ?_) e3
      by_cases e : f' = f
      · subst e
        rcases hG with ⟨g0, -⟩ | ⟨-, g1⟩
        · omega
        · exact g1 c' hc
      · exact hno f' (by omega) c' hc
theorem M_pf94 {k : St → Option St} {m q f c : Nat} {y1 y2 : Int} (hO : AllOK L) (hq : q < L.length) (hf : f + 18 ≤ 1400) (hc : (c : Int) + pac L q ≤ 24) : ∀ (d n e : Nat) (σ : St), d < n → (e + d : Int) = pal L q → HM σ L → (∀ r, r < 1400 → ∃ s : Nat, σ 148 r = (s : Int) ∧ s < 2 ^ 24 ∧ ∀ t, s.testBit t = true ↔ (Occ L o pA pC m (r : Int) t ∨ ((f ≤ r ∧ r < f + e) ∧ c ≤ t ∧ (t : Int) < c + pac L q))) → ∃ σ', Fm_packFree_94 n y1 y2 q f c e σ k = k σ' ∧ (∀ r, r < 1400 → ∃ s : Nat, σ' 148 r = (s : Int) ∧ s < 2 ^ 24 ∧ ∀ t, s.testBit t = true ↔ (Occ L o pA pC m (r : Int) t ∨ ((f ≤ r ∧ (r : Int) < f + pal L q) ∧ c ≤ t ∧ (t : Int) < c + pac L q))) ∧ ∀ k' i', k' ≠ 148 → σ' k' i' = σ k' i' := by
  have hl := hO.1
  have b1 := pal_b hO hq
  have b2 := pac_b hO hq
  have hbit := bit_b b2.1 (Int.natCast_nonneg c) (by omega : pac L q + (c : Int) ≤ 24)
  have hbN := @bitI_N (pac L q) (c : Int)
  rw [gmTN] at hbN
  unfold bitI at hbit hbN
  rw [gmTN] at hbit hbN
  have bp := pow_b (n := (pac L q).toNat) (by omega)
  have hmk : maskN (pac L q).toNat c < 2 ^ 24 := maskN_lt (by omega)
  intro d
  induction d with
  | zero =>
    intro n e σ hn hd hX hR
    obtain ⟨n, rfl⟩ : ∃ m, n = m + 1 := ⟨n - 1, by omega⟩
    obtain ⟨-, h3, h4⟩ := hX.at hq
    rw [Fm_packFree_94.eq_2, gmG_t (by omega), gmTN, h3, if_pos (by omega)]
    refine ⟨σ, rfl, fun r hr => ?_, fun _ _ _ => rfl⟩
    obtain ⟨s, s1, s2, s3⟩ := hR r hr
    refine ⟨s, s1, s2, fun t => ?_⟩
    rw [s3 t, show r < f + e ↔ (r : Int) < f + pal L q by omega]
  | succ d ih =>
    intro n e σ hn hd hX hR
    obtain ⟨n, rfl⟩ : ∃ m, n = m + 1 := ⟨n - 1, by omega⟩
    obtain ⟨-, h3, h4⟩ := hX.at hq
    obtain ⟨s, s1, s2, s3⟩ := hR (f + e) (by omega)
    rw [Fm_packFree_94.eq_2, gmG_t (by omega), gmTN, h3, if_neg (by omega), gmG_t (by omega), show ((f : Int) + (e : Int)).toNat = f + e by omega, h4, s1, gmTN, gmG_t ⟨by omega, by omega⟩, gmG_t ⟨by omega, by omega⟩, gmG_t ⟨Int.natCast_nonneg _, hbit.1⟩, hbN, gmTN, gmTN, gmL_s, gmG_t ⟨by omega, by omega⟩, show (e : Int) + 1 = ((e + 1 : Nat) : Int) by omega]
    have hX1 : HM (gmUp σ 148 (f + e) ((s ||| maskN (pac L q).toNat c : Nat) : Int)) L := hX.only (fun k i h => gmUp_k (by omega))
    obtain ⟨σ2, e2, r2, f2⟩ := ih n (e + 1) _ (by omega) (by omega) hX1 (fun r hr => by
      by_cases he : r = f + e
      · subst he
        refine ⟨s ||| maskN (pac L q).toNat c, gmUp_s, Nat.or_lt_two_pow s2 hmk, fun t => ?_⟩
        rw [Nat.testBit_or, Bool.or_eq_true, s3 t, maskN_bit]
        constructor
        · rintro ((h | h) | h)
          · exact Or.inl h
          · exact Or.inr ⟨by omega, h.2⟩
          · exact Or.inr ⟨by omega, h.1, by omega⟩
        · rintro (h | h)
          · exact Or.inl (Or.inl h)
          · exact Or.inr ⟨h.2.1, by omega⟩
      · obtain ⟨s', s1', s2', s3'⟩ := hR r hr
        refine ⟨s', by rw [gmUp_i he]; exact s1', s2', fun t => ?_⟩
        rw [s3' t, show r < f + (e + 1) ↔ r < f + e by omega])
    exact ⟨σ2, e2, r2, fun k' i' h => by rw [f2 k' i' h, gmUp_k h]⟩
theorem M_pf2 {k : St → Option St} {y1 : Int} : ∀ (d n r : Nat) (σ : St), d < n → r + d = 1400 → (∀ j, j < r → σ 148 j = 0) → ∃ σ', Fm_packFree_2 n y1 r σ k = k σ' ∧ (∀ j, j < 1400 → σ' 148 j = 0) ∧ ∀ k' i', k' ≠ 148 → σ' k' i' = σ k' i' := by
  intro d
  induction d with
  | zero =>
    intro n r σ hn hd h0
    obtain ⟨n, rfl⟩ : ∃ m, n = m + 1 := ⟨n - 1, by omega⟩
    rw [Fm_packFree_2.eq_2, if_pos (by omega)]
    exact ⟨σ, rfl, fun j hj => h0 j (by omega), fun _ _ _ => rfl⟩
  | succ d ih =>
    intro n r σ hn hd h0
    obtain ⟨n, rfl⟩ : ∃ m, n = m + 1 := ⟨n - 1, by omega⟩
    rw [Fm_packFree_2.eq_2, if_neg (by omega), gmG_t (by omega), gmTN, gmL_s, gmG_t ⟨by omega, by omega⟩, show (r : Int) + 1 = ((r + 1 : Nat) : Int) by omega]
    obtain ⟨σ2, e2, r2, f2⟩ := ih n (r + 1) (gmUp σ 148 r 0) (by omega) (by omega) (fun j hj => by
      by_cases e : j = r
      · rw [e]; exact gmUp_s
      · rw [gmUp_i e]; exact h0 j (by omega))
    exact ⟨σ2, e2, r2, fun k' i' h => by rw [f2 k' i' h, gmUp_k h]⟩
end FM
theorem M_ff26 {L : List PT} {w : Int} {o : Nat → Nat} {k : St → Option St} (hO : AllOK L) (ho : Ord L.length o) (hw2 : w ≤ 24) (hlay : layO L w) : ∀ (d n i : Nat) (σ : St) (pA pC : Nat → Int), d < n → i + d = L.length → HM σ L → OrdM σ L.length o → RowsOK σ L o pA pC i → PB L o pA pC i → FFp L w o pA pC i → (∀ j, j < i → PM σ (o j) (pA j) (pC j)) → ∃ (σ' : St) (qA qC : Nat → Int), Fm_packFree_26 n w i σ k = k σ' ∧ FFp L w o qA qC L.length ∧ PB L o qA qC L.length ∧ (∀ j, j < L.length → PM σ' (o j) (qA j) (qC j)) ∧ ∀ k' i', (k' ≠ 143 ∧ k' ≠ 144 ∧ k' ≠ 148) → σ' k' i' = σ k' i' := by
  have hl := hO.1
  intro d
  induction d with
  | zero =>
    intro n i σ pA pC hn hd hX hor hR hB hF hP
    obtain ⟨n, rfl⟩ : ∃ m, n = m + 1 := ⟨n - 1, by omega⟩
    rw [Fm_packFree_26.eq_2, hX.1, if_pos (by omega)]
    have : i = L.length := by omega
    subst this
    exact ⟨σ, pA, pC, rfl, hF, hB, hP, fun _ _ _ => rfl⟩
  | succ d ih =>
    intro n i σ pA pC hn hd hX hor hR hB hF hP
    obtain ⟨n, rfl⟩ : ∃ m, n = m + 1 := ⟨n - 1, by omega⟩
    have hoi := ho.1 i (by omega)
    have b1 := pal_b hO hoi
    obtain ⟨g, g1, g2, g3⟩ := M_fa (f := 0) hO hlay hw2 hoi hX hR (by omega)
    obtain ⟨a, c, e1, h1, h2, h3⟩ := M_pf54 (y2 := (i : Int)) (k := fun x15 x16 s17 => gmG (0 ≤ (o i : Int) ∧ (o i : Int) < 72) (gmL (gmUp s17 143 (o i : Int).toNat x15) (fun s19 => gmL (gmUp s19 144 (o i : Int).toNat x16) (fun s20 => Fm_packFree_94 gmN w i (o i) x15 x16 0 s20 (fun s29 => gmG (gmR ((i : Int) + 1)) (Fm_packFree_26 n w ((i : Int) + 1) s29 k)))))) hO hlay hw2 (fun j hj => ho.1 j (by omega)) (by omega : i ≤ 71) hoi hX hR hB (18 * i) gmN 0 g (by rw [gmN_e]; omega) (by omega) g2 (fun f' h => absurd h (Nat.not_lt_zero f')) g3
    rw [Fm_packFree_26.eq_2, hX.1, if_neg (by omega), gmG_t (by omega), gmTN, hor i (by omega), gmL_s]
    rw [show ((0 : Nat) : Int) = 0 from rfl] at g1 e1
    rw [g1, gmB_s]
    have hX1 : HM (gmUp (gmUp σ 143 (o i) (a : Int)) 144 (o i) (c : Int)) L := hX.only (fun k i h => by rw [gmUp_k (by omega), gmUp_k (by omega)])
    obtain ⟨σ1, e2, r1, f1⟩ := M_pf94 (pA := pA) (pC := pC) (o := o) (m := i) (y1 := w) (y2 := (i : Int)) (k := fun s29 => gmG (gmR ((i : Int) + 1)) (Fm_packFree_26 n w ((i : Int) + 1) s29 k)) hO hoi (by omega : a + 18 ≤ 1400) h3 (pal L (o i)).toNat gmN 0 _ (by rw [gmN_e]; omega) (by omega) hX1 (fun r hr => by
      obtain ⟨s, s1, s2, s3⟩ := hR r hr
      refine ⟨s, by rw [gmUp_k (by decide), gmUp_k (by decide)]; exact s1, s2, fun t => ?_⟩
      rw [s3 t]
      exact ⟨fun h => Or.inl h, fun h => h.elim id (fun z => absurd z.1 (by omega))⟩)
    have hcg : ∀ m, m ≤ i → ∀ j, j < m → pA j = upA pA i a j ∧ pC j = upA pC i c j := fun m hm j hj => ⟨(upA_n (by omega)).symm, (upA_n (by omega)).symm⟩
    obtain ⟨σ2, qA, qC, e3, t1, t2, t3, t4⟩ := ih n (i + 1) σ1 (upA pA i a) (upA pC i c) (by omega) (by omega) (hX1.only (fun k i h => f1 k i (by omega))) (fun j hj => by rw [f1 142 j (by decide), gmUp_k (by decide), gmUp_k (by decide)]; exact hor j hj)
      (fun r hr => by
        obtain ⟨s, s1, s2, s3⟩ := r1 r hr
        refine ⟨s, s1, s2, fun t => ?_⟩
        rw [s3 t]
        constructor
        · rintro (h | h)
          · obtain ⟨j, j1, j2⟩ := h.congr (hcg i (Nat.le_refl i))
            exact ⟨j, by omega, j2⟩
          · exact ⟨i, by omega, by rw [upA_s]; omega, by rw [upA_s]; omega⟩
        · rintro ⟨j, j1, j2, j3⟩
          by_cases e : j = i
          · subst e
            rw [upA_s] at j2 j3
            exact Or.inr ⟨by omega, by omega⟩
          · rw [upA_n e] at j2 j3
            exact Or.inl ⟨j, by omega, j2, j3⟩)
      (fun j hj => by
        by_cases e : j = i
        · subst e
          rw [upA_s, upA_s]
          exact ⟨by omega, by omega⟩
        · rw [upA_n e, upA_n e]; exact hB j (by omega))
      (fun j hj => by
        by_cases e : j = i
        · subst e
          rw [upA_s, upA_s]
          exact h1.congr (hcg j (Nat.le_refl j))
        · rw [upA_n e, upA_n e]
          exact (hF j (by omega)).congr (hcg j (by omega)))
      (fun j hj => by
        unfold PM
        rw [f1 143 _ (by decide), f1 144 _ (by decide), gmUp_k (show (143 : Nat) ≠ 144 by decide)]
        by_cases e : j = i
        · subst e
          rw [upA_s, upA_s]
          exact ⟨gmUp_s, gmUp_s⟩
        · rw [upA_n e, upA_n e]
          have hne : o j ≠ o i := fun z => e (ho.2.1 j i (by omega) (by omega) z)
          rw [gmUp_i hne, gmUp_i hne, gmUp_k (show (144 : Nat) ≠ 143 by decide)]
          exact hP j (by omega))
    refine ⟨σ2, qA, qC, ?_, t1, t2, t3, fun k' i' h => by rw [t4 k' i' h, f1 k' i' h.2.2, gmUp_k h.2.1, gmUp_k h.1]⟩
    refine e1.trans ?_
    rw [gmG_t (by omega), gmTN, gmL_s, gmL_s]
    refine e2.trans ?_
    rw [gmG_t ⟨by omega, by omega⟩, show (i : Int) + 1 = ((i + 1 : Nat) : Int) by omega]
    exact e3
theorem M_firstFree {L : List PT} {w : Int} {o : Nat → Nat} {σ : St} (hO : AllOK L) (ho : Ord L.length o) (hw2 : w ≤ 24) (hlay : layO L w) (hX : HM σ L) (hor : OrdM σ L.length o) : ∃ (σ' : St) (qA qC : Nat → Int), Fm_packFree w σ = some σ' ∧ FFp L w o qA qC L.length ∧ PB L o qA qC L.length ∧ (∀ j, j < L.length → PM σ' (o j) (qA j) (qC j)) ∧ ∀ k' i', (k' ≠ 143 ∧ k' ≠ 144 ∧ k' ≠ 148) → σ' k' i' = σ k' i' := by
  have hl := hO.1
  unfold Fm_packFree
  obtain ⟨σ1, e1, z1, f1⟩ := M_pf2 (y1 := w) (k := fun s5 => Fm_packFree_26 gmN w 0 s5 (fun s31 => some s31)) 1400 gmN 0 σ (by rw [gmN_e]; omega) (by omega) (fun j h => absurd h (Nat.not_lt_zero j))
  obtain ⟨σ2, qA, qC, e2, t1, t2, t3, t4⟩ := M_ff26 (k := fun s31 => some s31) hO ho hw2 hlay L.length gmN 0 σ1 (fun _ => 0) (fun _ => 0) (by rw [gmN_e]; omega) (by omega) (hX.only (fun k i h => f1 k i (by omega))) (fun j hj => by rw [f1 142 j (by decide)]; exact hor j hj) (fun r hr => ⟨0, z1 r hr, by decide, fun t => by
    rw [Nat.zero_testBit]
    exact ⟨fun h => (by cases h), fun ⟨j, h, _⟩ => absurd h (Nat.not_lt_zero j)⟩⟩) (fun j h => absurd h (Nat.not_lt_zero j)) (fun j h => absurd h (Nat.not_lt_zero j)) (fun j h => absurd h (Nat.not_lt_zero j))
  exact ⟨σ2, qA, qC, e1.trans e2, t1, t2, t3, fun k' i' h => by rw [t4 k' i' h, f1 k' i' h.2.2]⟩
