/-! FIRST FREE in the class -/
section FX
variable {L : List PT} {w : Int} {o : Nat → Nat} {σ : St} {pA pC : Nat → Int}
/-- bounds of what is placed -/
def PB (L : List PT) (o : Nat → Nat) (pA pC : Nat → Int) (m : Nat) : Prop := ∀ j, j < m → (0 ≤ pA j ∧ pA j ≤ 18 * j) ∧ (0 ≤ pC j ∧ pC j + pac L (o j) ≤ 24)
theorem Blk_iff (hO : AllOK L) {m q : Nat} (hq : q < L.length) (ho : ∀ j, j < m → o j < L.length) {a : Int} {t : Nat} : Blk L o pA pC m q a t ↔ ∃ j, j < m ∧ (a < pA j + pal L (o j) ∧ pA j < a + pal L q) ∧ pC j ≤ (t : Int) ∧ (t : Int) < pC j + pac L (o j) := by
  constructor
  · rintro ⟨r, ⟨h1, h2⟩, j, h3, ⟨h4, h5⟩, h6⟩
    exact ⟨j, h3, ⟨by omega, by omega⟩, h6⟩
  · rintro ⟨j, h3, ⟨h4, h5⟩, h6⟩
    have b1 := pal_b hO hq
    have b2 := pal_b hO (ho j h3)
    exact ⟨if a < pA j then pA j else a, by split <;> omega, j, h3, by split <;> omega, h6⟩
theorem X_tb14 {k : Int → St → Option (Int × St)} {m q : Nat} {a : Int} (hO : AllOK L) (ho : ∀ j, j < m → o j < L.length) (hm : m ≤ 72) (hor : ∀ j, j < m → σ 128 j = (o j : Int)) (hP : ∀ j, j < m → PX σ L (o j) (pA j) (pC j)) (hB : PB L o pA pC m) : ∀ (d n i s : Nat), d < n → i + d = m → s < 2 ^ 24 → (∀ t, s.testBit t = true ↔ ∃ j, j < i ∧ (a < pA j + pal L (o j) ∧ pA j < a + pal L q) ∧ pC j ≤ (t : Int) ∧ (t : Int) < pC j + pac L (o j)) → ∃ s' : Nat, Fk_takenBits_14 n a m s (a + pal L q) i σ k = k s' σ ∧ s' < 2 ^ 24 ∧ (∀ t, s'.testBit t = true ↔ ∃ j, j < m ∧ (a < pA j + pal L (o j) ∧ pA j < a + pal L q) ∧ pC j ≤ (t : Int) ∧ (t : Int) < pC j + pac L (o j)) := by
  intro d
  induction d with
  | zero =>
    intro n i s hn hd hs hb
    obtain ⟨n, rfl⟩ : ∃ m, n = m + 1 := ⟨n - 1, by omega⟩
    rw [Fk_takenBits_14.eq_2, if_pos (by omega)]
    have : i = m := by omega
    subst this
    exact ⟨s, rfl, hs, hb⟩
  | succ d ih =>
    intro n i s hn hd hs hb
    obtain ⟨n, rfl⟩ : ∃ m, n = m + 1 := ⟨n - 1, by omega⟩
    have hoi := ho i (by omega)
    have hl := hO.1
    obtain ⟨p5, p6, p7, p8⟩ := hP i (by omega)
    have bb := hB i (by omega)
    have b2 := pac_b hO hoi
    have hbit := bit_b b2.1 bb.2.1 (by omega)
    have hnx : (i : Int) + 1 = ((i + 1 : Nat) : Int) := by omega
    have skip : ¬ (a < pA i + pal L (o i) ∧ pA i < a + pal L q) → ∀ t, s.testBit t = true ↔ ∃ j, j < i + 1 ∧ (a < pA j + pal L (o j) ∧ pA j < a + pal L q) ∧ pC j ≤ (t : Int) ∧ (t : Int) < pC j + pac L (o j) := by
      intro hno t
      rw [hb t]
      constructor
      · rintro ⟨j, h1, h2⟩
        exact ⟨j, by omega, h2⟩
      · rintro ⟨j, h1, h2, h3⟩
        have : j ≠ i := fun e => hno (by rw [← e]; exact h2)
        exact ⟨j, by omega, h2, h3⟩
    rw [Fk_takenBits_14.eq_2, if_neg (by omega), gmG_t (by omega), gmTN, hor i (by omega), gmG_t (by omega), gmTN, gmTg_55, gmL_s, p7, p5]
    by_cases c1 : pA i + pal L (o i) ≤ a
    · rw [if_pos c1, gmG_t ⟨by omega, by omega⟩, hnx]
      exact ih n (i + 1) s (by omega) (by omega) hs (skip (by omega))
    · rw [if_neg c1]
      by_cases c2 : a + pal L q ≤ pA i
      · rw [if_pos c2, gmG_t ⟨by omega, by omega⟩, hnx]
        exact ih n (i + 1) s (by omega) (by omega) hs (skip (by omega))
      · rw [if_neg c2, p8, gmG_t (by omega), gmL_s, gmG_t ⟨by omega, by omega⟩, hnx, gmTN, bitI_N, gmTN]
        have hmk : maskN (pac L (o i)).toNat (pC i).toNat < 2 ^ 24 := maskN_lt (by omega)
        refine ih n (i + 1) (s ||| maskN (pac L (o i)).toNat (pC i).toNat) (by omega) (by omega) (Nat.or_lt_two_pow hs hmk) (fun t => ?_)
        rw [Nat.testBit_or, Bool.or_eq_true, hb t, maskN_bit]
        constructor
        · rintro (⟨j, h1, h2⟩ | ⟨h1, h2⟩)
          · exact ⟨j, by omega, h2⟩
          · exact ⟨i, by omega, ⟨by omega, by omega⟩, by omega, by omega⟩
        · rintro ⟨j, h1, h2, h3⟩
          by_cases e : j = i
          · subst e
            exact Or.inr ⟨by omega, by omega⟩
          · exact Or.inl ⟨j, by omega, h2, h3⟩
theorem X_tb {m q : Nat} {a : Int} (hO : AllOK L) (ho : ∀ j, j < m → o j < L.length) (hm : m ≤ 72) (hq : q < L.length) (hX : HX σ L) (hor : ∀ j, j < m → σ 128 j = (o j : Int)) (hP : ∀ j, j < m → PX σ L (o j) (pA j) (pC j)) (hB : PB L o pA pC m) (ha : 0 ≤ a ∧ a ≤ 100000) : ∃ s : Nat, Fk_takenBits (56 + q) a m σ = some ((s : Int), σ) ∧ s < 2 ^ 24 ∧ ∀ t, s.testBit t = true ↔ Blk L o pA pC m q a t := by
  have b1 := pal_b hO hq
  unfold Fk_takenBits
  rw [(hX.at hq).2.1, gmL_s, gmG_t ⟨by omega, by omega⟩]
  obtain ⟨s, h1, h2, h3⟩ := X_tb14 (k := fun x14 s15 => some (x14, s15)) (q := q) (a := a) hO ho hm hor hP hB m gmN 0 0 (by rw [gmN_e]; omega) (by omega) (by decide) (fun t => by
    rw [Nat.zero_testBit]
    exact ⟨fun h => (by cases h), fun ⟨j, h, _⟩ => absurd h (Nat.not_lt_zero j)⟩)
  exact ⟨s, h1, h2, fun t => by rw [h3 t]; exact (Blk_iff hO hq ho).symm⟩
theorem X_fg34 {k : St → Option (Int × St)} {s n0 : Nat} {last : Int} (hs : s < 2 ^ 24) (hl : -1 ≤ last ∧ last ≤ 24) (hn0 : n0 ≤ 18) : ∀ (d n c : Nat), d < n → (c : Int) + d = last + 1 → (∃ g : Nat, c ≤ g ∧ (g : Int) ≤ last ∧ (∀ t, g ≤ t → t < g + n0 → s.testBit t = false) ∧ (∀ c', c ≤ c' → c' < g → ¬ ∀ t, c' ≤ t → t < c' + n0 → s.testBit t = false) ∧ Fk_firstGap_34 n s ((2 ^ n0 - 1 : Nat) : Int) last c σ k = some ((g : Int), σ)) ∨ ((∀ c' : Nat, c ≤ c' → (c' : Int) ≤ last → ¬ ∀ t, c' ≤ t → t < c' + n0 → s.testBit t = false) ∧ Fk_firstGap_34 n s ((2 ^ n0 - 1 : Nat) : Int) last c σ k = k σ) := by
  intro d
  induction d with
  | zero =>
    intro n c hn hd
    obtain ⟨n, rfl⟩ : ∃ m, n = m + 1 := ⟨n - 1, by omega⟩
    rw [Fk_firstGap_34.eq_2, if_pos (by omega)]
    exact Or.inr ⟨fun c' h1 h2 => by omega, rfl⟩
  | succ d ih =>
    intro n c hn hd
    obtain ⟨n, rfl⟩ : ∃ m, n = m + 1 := ⟨n - 1, by omega⟩
    have e1 : (s : Int) / 2 ^ c = ((s / 2 ^ c : Nat) : Int) := by rw [Int.natCast_ediv, Int.natCast_pow]; rfl
    rw [Fk_firstGap_34.eq_2, if_neg (by omega), gmG_t (by omega), gmTN, e1, gmG_t ⟨Int.natCast_nonneg _, Int.natCast_nonneg _⟩, gmTN, gmTN]
    by_cases h : ∀ t, c ≤ t → t < c + n0 → s.testBit t = false
    · have h2 := (shr_mask s n0 c).mpr h
      rw [if_pos (show ((s / 2 ^ c &&& (2 ^ n0 - 1) : Nat) : Int) = 0 by rw [h2]; rfl)]
      exact Or.inl ⟨c, Nat.le_refl c, by omega, h, fun c' a b => by omega, rfl⟩
    · have h2 : ¬ ((s / 2 ^ c &&& (2 ^ n0 - 1) : Nat) : Int) = 0 := fun z => h ((shr_mask s n0 c).mp (by omega))
      rw [if_neg h2, gmG_t ⟨by omega, by omega⟩, show (c : Int) + 1 = ((c + 1 : Nat) : Int) by omega]
      rcases ih n (c + 1) (by omega) (by omega) with ⟨g, g1, g2, g3, g4, g5⟩ | ⟨g1, g2⟩
      · refine Or.inl ⟨g, by omega, g2, g3, fun c' a b => ?_, g5⟩
        by_cases e : c' = c
        · rw [e]; exact h
        · exact g4 c' (by omega) b
      · refine Or.inr ⟨fun c' a b => ?_, g2⟩
        by_cases e : c' = c
        · rw [e]; exact h
        · exact g1 c' (by omega) b
theorem lastC_b (hO : AllOK L) (hlay : layO L w) (hw2 : w ≤ 24) {q : Nat} (hq : q < L.length) : 0 ≤ lastC L w q ∧ lastC L w q + pac L q ≤ w := by
  have h1 := hlay q hq
  have h2 := pac_b hO hq
  unfold lastC
  split <;> omega
theorem gap_of {m q s : Nat} {a g : Int} (hs : ∀ t, s.testBit t = true ↔ Blk L o pA pC m q a t) (hp : 1 ≤ pac L q) (h : (∃ c : Nat, g = c ∧ (c : Int) ≤ lastC L w q ∧ (∀ t, c ≤ t → t < c + (pac L q).toNat → s.testBit t = false) ∧ ∀ c', c' < c → ¬ ∀ t, c' ≤ t → t < c' + (pac L q).toNat → s.testBit t = false) ∨ (g < 0 ∧ ∀ c' : Nat, (c' : Int) ≤ lastC L w q → ¬ ∀ t, c' ≤ t → t < c' + (pac L q).toNat → s.testBit t = false)) : Gap L w o pA pC m q a g := by
  have key : ∀ c : Nat, (∀ t, c ≤ t → t < c + (pac L q).toNat → s.testBit t = false) ↔ ∀ t, c ≤ t → (t : Int) < c + pac L q → ¬ Blk L o pA pC m q a t := by
    intro c
    constructor
    · intro h t h1 h2 h3
      have := h t h1 (by omega)
      rw [(hs t).mpr h3] at this
      cases this
    · intro h t h1 h2
      cases hb : s.testBit t
      · rfl
      · exact absurd ((hs t).mp hb) (h t h1 (by omega))
  rcases h with ⟨c, rfl, h1, h2, h3⟩ | ⟨h1, h2⟩
  · refine Or.inl ⟨by omega, ⟨by rw [gmTN]; exact h1, by rw [gmTN]; exact (key c).mp h2⟩, fun c' hc => ?_⟩
    apply Classical.byContradiction
    intro hlt
    exact h3 c' (by omega) ((key c').mpr hc.2)
  · exact Or.inr ⟨h1, fun c' hc => h2 c' hc.1 ((key c').mpr hc.2)⟩
theorem X_fg {m q s : Nat} {a : Int} (hO : AllOK L) (hlay : layO L w) (hw2 : w ≤ 24) (hq : q < L.length) (hX : HX σ L) (hw : σ 54 2 = w) (hs24 : s < 2 ^ 24) (hs : ∀ t, s.testBit t = true ↔ Blk L o pA pC m q a t) : ∃ g : Int, Fk_firstGap (56 + q) s σ = some (g, σ) ∧ Gap L w o pA pC m q a g ∧ (g < 0 → g = -1) := by
  obtain ⟨h2, h3, h4⟩ := hX.at hq
  have b1 := pac_b hO hq
  have b2 := lastC_b hO hlay hw2 hq
  have bp := pow_b (n := (pac L q).toNat) (by omega)
  have elast : (if pfo L q = 0 then w - pac L q else 0) = lastC L w q := rfl
  have eown : (1 : Int) * 2 ^ (pac L q).toNat - 1 = ((2 ^ (pac L q).toNat - 1 : Nat) : Int) := by
    have : 0 < 2 ^ (pac L q).toNat := Nat.pow_pos (by decide)
    rw [Int.natCast_sub (by omega), Int.natCast_pow, Int.one_mul]
    rfl
  unfold Fk_firstGap
  rw [h2, h4, hw, gmG_t ⟨by omega, by omega⟩, gmL_s, elast, gmL_s, gmG_t ⟨by omega, by omega⟩, gmG_t ⟨by omega, by omega⟩, eown]
  rcases X_fg34 (σ := σ) (k := fun s12 => some ((-1 : Int), s12)) (s := s) (n0 := (pac L q).toNat) (last := lastC L w q) hs24 (by omega) (by omega) (lastC L w q + 1).toNat gmN 0 (by rw [gmN_e]; omega) (by omega) with ⟨g, g1, g2, g3, g4, g5⟩ | ⟨g1, g2⟩
  · exact ⟨(g : Int), g5, gap_of hs b1.1 (Or.inl ⟨g, rfl, g2, g3, fun c' h => g4 c' (Nat.zero_le _) h⟩), fun h => by omega⟩
  · exact ⟨-1, g2, gap_of hs b1.1 (Or.inr ⟨by omega, fun c' h => g1 c' (Nat.zero_le _) h⟩), fun _ => rfl⟩
/-- the best of the places looked at -/
def Best (L : List PT) (w : Int) (o : Nat → Nat) (pA pC : Nat → Int) (m q i : Nat) (al ac : Int) : Prop := (ac = -1 ∧ al = 0 ∧ ∀ a : Int, (a = 0 ∨ ∃ j, j < i ∧ pA j + pal L (o j) = a) → ∀ c' : Nat, ¬ Fit L w o pA pC m q a c') ∨ (0 ≤ ac ∧ 0 ≤ al ∧ Fit L w o pA pC m q al ac.toNat ∧ (∀ c' : Nat, Fit L w o pA pC m q al c' → ac ≤ c') ∧ ∀ a : Int, (a = 0 ∨ ∃ j, j < i ∧ pA j + pal L (o j) = a) → ∀ c' : Nat, Fit L w o pA pC m q a c' → al ≤ a)
set_option maxRecDepth 100000 in
theorem X_pf19 {k : Int → Int → St → Option St} {m q : Nat} (hO : AllOK L) (hlay : layO L w) (hw2 : w ≤ 24) (ho : ∀ j, j < m → o j < L.length) (hm : m ≤ 72) (hq : q < L.length) (hX : HX σ L) (hw : σ 54 2 = w) (hor : ∀ j, j < m → σ 128 j = (o j : Int)) (hP : ∀ j, j < m → PX σ L (o j) (pA j) (pC j)) (hB : PB L o pA pC m) : ∀ (d n i : Nat) (al ac : Int), d < n → i + d = m → (0 ≤ al ∧ al ≤ 2000) → (-1 ≤ ac ∧ ac ≤ 24) → Best L w o pA pC m q i al ac → ∃ al' ac', Fk_placeFirstFree_19 n (56 + q) m al ac i σ k = k al' ac' σ ∧ Best L w o pA pC m q m al' ac' := by
  intro d
  induction d with
  | zero =>
    intro n i al ac hn hd h1 h2 hb
    obtain ⟨n, rfl⟩ : ∃ m, n = m + 1 := ⟨n - 1, by omega⟩
    rw [Fk_placeFirstFree_19.eq_2, if_pos (by omega)]
    have : i = m := by omega
    subst this
    exact ⟨al, ac, rfl, hb⟩
  | succ d ih =>
    intro n i al ac hn hd h1 h2 hb
    obtain ⟨n, rfl⟩ : ∃ m, n = m + 1 := ⟨n - 1, by omega⟩
    have hoi := ho i (by omega)
    have hl := hO.1
    obtain ⟨p5, p6, p7, p8⟩ := hP i (by omega)
    have bb := hB i (by omega)
    have b1 := pal_b hO hoi
    have hnx : (i : Int) + 1 = ((i + 1 : Nat) : Int) := by omega
    have b2 := lastC_b hO hlay hw2 hq
    have b3 := pac_b hO hq
    obtain ⟨s, s1, s2, s3⟩ := X_tb (a := pA i + pal L (o i)) hO ho hm hq hX hor hP hB (by omega)
    obtain ⟨g, g1, g2, g3⟩ := X_fg hO hlay hw2 hq hX hw s2 s3
    have gb : -1 ≤ g ∧ g ≤ 24 := by
      rcases g2 with ⟨h, h', -⟩ | ⟨h, -⟩
      · have := h'.1
        omega
      · have := g3 h
        omega
    rw [Fk_placeFirstFree_19.eq_2, if_neg (by omega), gmG_t (by omega), gmTN, hor i (by omega), gmG_t (by omega), gmTN, gmTg_55, p7, gmL_s, s1, gmB_s, g1, gmB_s, gmG_t ⟨by omega, by omega⟩, hnx]
    have tone : ∀ a : Int, (a = 0 ∨ ∃ j, j < i + 1 ∧ pA j + pal L (o j) = a) → (a = 0 ∨ ∃ j, j < i ∧ pA j + pal L (o j) = a) ∨ a = pA i + pal L (o i) := by
      intro a h
      rcases h with h | ⟨j, h4, h5⟩
      · exact Or.inl (Or.inl h)
      · by_cases e : j = i
        · subst e; exact Or.inr h5.symm
        · exact Or.inl (Or.inr ⟨j, by omega, h5⟩)
    have hgap : 0 ≤ g → (∀ a : Int, (a = 0 ∨ ∃ j, j < i ∧ pA j + pal L (o j) = a) → ∀ c' : Nat, Fit L w o pA pC m q a c' → pA i + pal L (o i) ≤ a) → Best L w o pA pC m q (i + 1) (pA i + pal L (o i)) g := by
      intro h0 hmin
      rcases g2 with ⟨a1, a2, a3⟩ | ⟨a1, -⟩
      · refine Or.inr ⟨a1, by omega, a2, a3, fun a ha c' hc => ?_⟩
        rcases tone a ha with h | h
        · exact hmin a h c' hc
        · omega
      · omega
    have hno : g < 0 → Best L w o pA pC m q (i + 1) al ac := by
      intro h0
      rcases g2 with ⟨a1, -⟩ | ⟨-, a2⟩
      · omega
      · rcases hb with ⟨q1, q2, q3⟩ | ⟨q1, q2, q3, q4, q5⟩
        · refine Or.inl ⟨q1, q2, fun a ha => ?_⟩
          rcases tone a ha with h | h
          · exact q3 a h
          · rw [h]; exact a2
        · refine Or.inr ⟨q1, q2, q3, q4, fun a ha c' hc => ?_⟩
          rcases tone a ha with h | h
          · exact q5 a h c' hc
          · rw [h] at hc; exact absurd hc (a2 c')
    by_cases c1 : ac = -1
    · rw [if_pos c1]
      by_cases c2 : g = -1
      · rw [if_pos c2]
        exact ih n (i + 1) al ac (by omega) (by omega) h1 h2 (hno (by omega))
      · rw [if_neg c2]
        have hA : 0 ≤ pA i + pal L (o i) ∧ pA i + pal L (o i) ≤ 2000 := by omega
        have hg0 : 0 ≤ g := by omega
        have hbest := hgap hg0 (fun a ha c' hc => by
          rcases hb with ⟨-, -, q3⟩ | ⟨q1, -⟩
          · exact absurd hc (q3 a ha c')
          · exact absurd q1 (by omega))
        rw [gmG_t ⟨by omega, by omega⟩]
        exact ih n (i + 1) (pA i + pal L (o i)) g (by omega) (by omega) hA gb hbest
    · rw [if_neg c1]
      by_cases c3 : al ≤ pA i + pal L (o i)
      · rw [if_pos c3]
        refine ih n (i + 1) al ac (by omega) (by omega) h1 h2 ?_
        rcases hb with ⟨q1, -⟩ | ⟨q1, q2, q3, q4, q5⟩
        · omega
        · refine Or.inr ⟨q1, q2, q3, q4, fun a ha c' hc => ?_⟩
          rcases tone a ha with h | h
          · exact q5 a h c' hc
          · omega
      · rw [if_neg c3]
        by_cases c2 : g = -1
        · rw [if_pos c2]
          exact ih n (i + 1) al ac (by omega) (by omega) h1 h2 (hno (by omega))
        · rw [if_neg c2]
          have hA : 0 ≤ pA i + pal L (o i) ∧ pA i + pal L (o i) ≤ 2000 := by omega
          have hg0 : 0 ≤ g := by omega
          have hbest := hgap hg0 (fun a ha c' hc => by
            rcases hb with ⟨q1, -⟩ | ⟨q1, q2, q3, q4, q5⟩
            · exact absurd q1 c1
            · have := q5 a ha c' hc
              omega)
          rw [gmG_t ⟨by omega, by omega⟩]
          exact ih n (i + 1) (pA i + pal L (o i)) g (by omega) (by omega) hA gb hbest
theorem Best.least {m q : Nat} {al ac : Int} (hO : AllOK L) (hlay : layO L w) (hw2 : w ≤ 24) (ho : ∀ j, j < m → o j < L.length) (hq : q < L.length) (hB : PB L o pA pC m) (h : Best L w o pA pC m q m al ac) : Least L w o pA pC m q al ac ∧ al ≤ 18 * m ∧ ac + pac L q ≤ 24 := by
  have b1 := pal_b hO hq
  have b2 := lastC_b hO hlay hw2 hq
  have htop : Fit L w o pA pC m q ((18 * m : Nat) : Int) 0 := Fit.top b2.1 (fun j hj => by
    have h1 := hB j hj
    have h2 := pal_b hO (ho j hj)
    omega)
  have hcand : ∀ (k c : Nat), Fit L w o pA pC m q (k : Int) c → ∃ (k' : Nat) (c' : Nat), k' ≤ k ∧ Fit L w o pA pC m q (k' : Int) c' ∧ ((k' : Int) = 0 ∨ ∃ j, j < m ∧ pA j + pal L (o j) = (k' : Int)) := by
    intro k c hc
    obtain ⟨k', c', a, b, d⟩ := Fit.cand b1.1 k c hc
    exact ⟨k', c', a, b, d.imp (fun z => by omega) id⟩
  obtain ⟨k0, c0, e1, e2, e3⟩ := hcand _ _ htop
  rcases h with ⟨q1, q2, q3⟩ | ⟨q1, q2, q3, q4, q5⟩
  · exact absurd e2 (q3 _ e3 c0)
  · have hmin := q5 _ e3 c0 e2
    refine ⟨⟨q2, q1, q3, fun a' c' ha hc => ?_⟩, by omega, ?_⟩
    · obtain ⟨k1, c1, f1, f2, f3⟩ := hcand a'.toNat c' (by rw [Int.toNat_of_nonneg ha]; exact hc)
      have := q5 _ f3 c1 f2
      by_cases e : al = a'
      · rw [← e] at hc
        exact Or.inr ⟨e, q4 c' hc⟩
      · exact Or.inl (by omega)
    · have := q3.1
      omega
theorem X_pff {m q : Nat} (hO : AllOK L) (hlay : layO L w) (hw2 : w ≤ 24) (ho : ∀ j, j < m → o j < L.length) (hm : m ≤ 71) (hq : q < L.length) (hX : HX σ L) (hw : σ 54 2 = w) (hor : ∀ j, j < m → σ 128 j = (o j : Int)) (hP : ∀ j, j < m → PX σ L (o j) (pA j) (pC j)) (hB : PB L o pA pC m) : ∃ σ' a c, Fk_placeFirstFree (56 + q) m σ = some σ' ∧ Least L w o pA pC m q a c ∧ a ≤ 18 * m ∧ c + pac L q ≤ 24 ∧ PX σ' L q a c ∧ ∀ k i, (k ≠ 56 + q ∨ i < 5 ∨ 8 < i) → σ' k i = σ k i := by
  obtain ⟨s, s1, s2, s3⟩ := X_tb (a := 0) hO ho (by omega) hq hX hor hP hB (by omega)
  obtain ⟨g, g1, g2, g3⟩ := X_fg hO hlay hw2 hq hX hw s2 s3
  have b2 := lastC_b hO hlay hw2 hq
  have b3 := pac_b hO hq
  have b1 := pal_b hO hq
  have hb0 : Best L w o pA pC m q 0 0 g := by
    rcases g2 with ⟨a1, a2, a3⟩ | ⟨a1, a2⟩
    · refine Or.inr ⟨a1, Int.le_refl 0, a2, a3, fun a ha c' hc => ?_⟩
      rcases ha with h | ⟨j, h, -⟩
      · omega
      · exact absurd h (Nat.not_lt_zero j)
    · refine Or.inl ⟨g3 a1, rfl, fun a ha => ?_⟩
      rcases ha with h | ⟨j, h, -⟩
      · rw [h]; exact a2
      · exact absurd h (Nat.not_lt_zero j)
  have gb : -1 ≤ g ∧ g ≤ 24 := by
    rcases g2 with ⟨h, h', -⟩ | ⟨h, -⟩
    · have := h'.1
      omega
    · have := g3 h
      omega
  obtain ⟨al, ac, e1, e2⟩ := X_pf19 (k := fun x26 x27 s28 => gmBv (Fp_placeAt (56 + q) x26 x27 s28) (fun s29 => some s29)) hO hlay hw2 ho (by omega) hq hX hw hor hP hB m gmN 0 0 g (by rw [gmN_e]; omega) (by omega) (by omega) gb hb0
  obtain ⟨f1, f2, f3⟩ := e2.least hO hlay hw2 ho hq hB
  obtain ⟨-, h3, h4⟩ := hX.at hq
  refine ⟨plc σ (56 + q) al ac (al + pal L q) (bitI (pac L q) ac), al, ac, ?_, f1, f2, f3, @plc_at σ (56 + q) al ac (al + pal L q) (bitI (pac L q) ac), fun k i h => plc_k h⟩
  unfold Fk_placeFirstFree
  rw [s1, gmB_s, g1, gmB_s]
  refine e1.trans ?_
  rw [X_placeAt h3 h4 b1 b3 ⟨f1.1, by omega⟩ ⟨f1.2.1, by omega⟩, gmBv_s]
end FX
theorem X_ff2 {L : List PT} {w : Int} {o : Nat → Nat} {k : St → Option St} (hO : AllOK L) (ho : Ord L.length o) (hw2 : w ≤ 24) (hlay : layO L w) : ∀ (d n i : Nat) (σ : St) (pA pC : Nat → Int), d < n → i + d = L.length → HX σ L → OrdX σ L.length o → σ 54 2 = w → PB L o pA pC i → FFp L w o pA pC i → (∀ j, j < i → PX σ L (o j) (pA j) (pC j)) → ∃ (σ' : St) (qA qC : Nat → Int), Fk_packFirstFree_2 n i σ k = k σ' ∧ FFp L w o qA qC L.length ∧ PB L o qA qC L.length ∧ (∀ j, j < L.length → PX σ' L (o j) (qA j) (qC j)) ∧ ∀ k' i', (k' < 56 ∨ 128 ≤ k' ∨ i' < 5 ∨ 8 < i') → σ' k' i' = σ k' i' := by
  have hl := hO.1
  intro d
  induction d with
  | zero =>
    intro n i σ pA pC hn hd hX hor hw hB hF hP
    obtain ⟨n, rfl⟩ : ∃ m, n = m + 1 := ⟨n - 1, by omega⟩
    rw [Fk_packFirstFree_2.eq_2, hX.1, if_pos (by omega)]
    have : i = L.length := by omega
    subst this
    exact ⟨σ, pA, pC, rfl, hF, hB, hP, fun _ _ _ => rfl⟩
  | succ d ih =>
    intro n i σ pA pC hn hd hX hor hw hB hF hP
    obtain ⟨n, rfl⟩ : ∃ m, n = m + 1 := ⟨n - 1, by omega⟩
    have hoi := ho.1 i (by omega)
    obtain ⟨σ1, a, c, e1, h1, h2, h3, h4, h5⟩ := X_pff hO hlay hw2 (fun j hj => ho.1 j (by omega)) (by omega : i ≤ 71) hoi hX hw (fun j hj => hor j (by omega)) hP hB
    rw [Fk_packFirstFree_2.eq_2, hX.1, if_neg (by omega), gmG_t (by omega), gmTN, hor i (by omega), gmG_t (by omega), gmTN, gmTg_55, e1, gmBv_s, gmG_t ⟨by omega, by omega⟩, show (i : Int) + 1 = ((i + 1 : Nat) : Int) by omega]
    have hcg : ∀ m, m ≤ i → ∀ j, j < m → pA j = upA pA i a j ∧ pC j = upA pC i c j := fun m hm j hj => ⟨(upA_n (by omega)).symm, (upA_n (by omega)).symm⟩
    obtain ⟨σ2, qA, qC, e2, r1, r2, r3, r4⟩ := ih n (i + 1) σ1 (upA pA i a) (upA pC i c) (by omega) (by omega) (hX.only (fun k i h => h5 k i (by omega)) hl) (fun j hj => by rw [h5 128 j (by omega)]; exact hor j hj) (by rw [h5 54 2 (by omega)]; exact hw)
      (fun j hj => by
        by_cases e : j = i
        · subst e
          rw [upA_s, upA_s]
          exact ⟨⟨h1.1, by omega⟩, h1.2.1, h3⟩
        · rw [upA_n e, upA_n e]; exact hB j (by omega))
      (fun j hj => by
        by_cases e : j = i
        · subst e
          rw [upA_s, upA_s]
          exact h1.congr (hcg j (Nat.le_refl j))
        · rw [upA_n e, upA_n e]
          exact (hF j (by omega)).congr (hcg j (by omega)))
      (fun j hj => by
        by_cases e : j = i
        · subst e
          rw [upA_s, upA_s]; exact h4
        · rw [upA_n e, upA_n e]
          have hne : o j ≠ o i := fun z => e (ho.2.1 j i (by omega) (by omega) z)
          have := ho.1 j (by omega)
          unfold PX
          rw [h5 _ _ (by omega), h5 _ _ (by omega), h5 _ _ (by omega), h5 _ _ (by omega)]
          exact hP j (by omega))
    exact ⟨σ2, qA, qC, e2, r1, r2, r3, fun k' i' h => by rw [r4 k' i' h, h5 k' i' (by omega)]⟩
theorem X_firstFree {L : List PT} {w : Int} {o : Nat → Nat} {σ : St} (hO : AllOK L) (ho : Ord L.length o) (hw2 : w ≤ 24) (hlay : layO L w) (hX : HX σ L) (hor : OrdX σ L.length o) (hw : σ 54 2 = w) : ∃ (σ' : St) (qA qC : Nat → Int), Fk_packFirstFree σ = some σ' ∧ FFp L w o qA qC L.length ∧ PB L o qA qC L.length ∧ (∀ j, j < L.length → PX σ' L (o j) (qA j) (qC j)) ∧ ∀ k' i', (k' < 56 ∨ 128 ≤ k' ∨ i' < 5 ∨ 8 < i') → σ' k' i' = σ k' i' := by
  have hl := hO.1
  unfold Fk_packFirstFree
  exact X_ff2 (k := fun s6 => some s6) hO ho hw2 hlay L.length gmN 0 σ (fun _ => 0) (fun _ => 0) (by rw [gmN_e]; omega) (by omega) hX hor hw (fun j h => absurd h (Nat.not_lt_zero j)) (fun j h => absurd h (Nat.not_lt_zero j)) (fun j h => absurd h (Nat.not_lt_zero j))
