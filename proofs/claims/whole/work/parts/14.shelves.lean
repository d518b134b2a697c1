/-! SHELVES -/
def layO (L : List PT) (w : Int) : Prop := ∀ j, j < L.length → pac L j ≤ w
def layC (L : List PT) (w : Int) (c : Nat) : Prop := ∀ j, c ≤ j → j < L.length → pac L j ≤ w
theorem layC_0 {L : List PT} {w : Int} : layC L w 0 ↔ layO L w := ⟨fun h j hj => h j (Nat.zero_le j) hj, fun h j _ hj => h j hj⟩
theorem layC_s {L : List PT} {w : Int} {c : Nat} (h : pac L c ≤ w) : layC L w c ↔ layC L w (c + 1) := ⟨fun h2 j h3 h4 => h2 j (by omega) h4, fun h2 j h3 h4 => by
  by_cases q : j = c
  · rw [q]; exact h
  · exact h2 j (by omega) h4⟩
theorem X_hl2 {L : List PT} {w : Int} {k : St → Option (Int × St)} (hO : AllOK L) : ∀ (d n c : Nat) (σ : St), d < n → c + d = L.length → HX σ L → σ 54 2 = w → (layC L w c → Fk_hasLayout_2 n c σ k = k σ) ∧ (¬ layC L w c → Fk_hasLayout_2 n c σ k = some (0, σ)) := by
  have hl := hO.1
  intro d
  induction d with
  | zero =>
    intro n c σ hn hd hX hw
    obtain ⟨n, rfl⟩ : ∃ m, n = m + 1 := ⟨n - 1, by omega⟩
    rw [Fk_hasLayout_2.eq_2, hX.1, if_pos (by omega)]
    exact ⟨fun _ => rfl, fun h => absurd (fun j h1 h2 => by omega) h⟩
  | succ d ih =>
    intro n c σ hn hd hX hw
    obtain ⟨n, rfl⟩ : ∃ m, n = m + 1 := ⟨n - 1, by omega⟩
    rw [Fk_hasLayout_2.eq_2, hX.1, if_neg (by omega), gmG_t (by omega), gmTN, gmTg_55, (hX.at (by omega : c < L.length)).2.2, hw]
    by_cases h : pac L c ≤ w
    · rw [if_pos h, gmG_t ⟨by omega, by omega⟩, show (c : Int) + 1 = ((c + 1 : Nat) : Int) by omega, layC_s h]
      exact ih n (c + 1) σ (by omega) (by omega) hX hw
    · rw [if_neg h]
      exact ⟨fun h3 => absurd (h3 c (Nat.le_refl c) (by omega)) h, fun _ => rfl⟩
theorem X_hasLayout {σ : St} {L : List PT} {w : Int} (hO : AllOK L) (hX : HX σ L) (hw : σ 54 2 = w) : (layO L w → Fk_hasLayout σ = some (1, σ)) ∧ (¬ layO L w → Fk_hasLayout σ = some (0, σ)) := by
  have hl := hO.1
  unfold Fk_hasLayout
  have h := X_hl2 (k := fun s5 => some (1, s5)) hO L.length gmN 0 σ (by rw [gmN_e]; omega) (by omega) hX hw
  rw [layC_0] at h
  exact h
theorem M_pk12 {L : List PT} {w : Int} {k : St → Option (Int × St)} {u v : Int} (hO : AllOK L) : ∀ (d n c : Nat) (σ : St), d < n → c + d = L.length → HM σ L → (layC L w c → Fm_pack_12 n u v w c σ k = k σ) ∧ (¬ layC L w c → Fm_pack_12 n u v w c σ k = some (0, σ)) := by
  have hl := hO.1
  intro d
  induction d with
  | zero =>
    intro n c σ hn hd hX 
    obtain ⟨n, rfl⟩ : ∃ m, n = m + 1 := ⟨n - 1, by omega⟩
    rw [Fm_pack_12.eq_2, hX.1, if_pos (by omega)]
    exact ⟨fun _ => rfl, fun h => absurd (fun j h1 h2 => by omega) h⟩
  | succ d ih =>
    intro n c σ hn hd hX 
    obtain ⟨n, rfl⟩ : ∃ m, n = m + 1 := ⟨n - 1, by omega⟩
    rw [Fm_pack_12.eq_2, hX.1, if_neg (by omega), gmG_t (by omega), gmTN, (hX.at (by omega : c < L.length)).2.2]
    by_cases h : pac L c ≤ w
    · rw [if_pos h, gmG_t ⟨by omega, by omega⟩, show (c : Int) + 1 = ((c + 1 : Nat) : Int) by omega, layC_s h]
      exact ih n (c + 1) σ (by omega) (by omega) hX 
    · rw [if_neg h]
      exact ⟨fun h3 => absurd (h3 c (Nat.le_refl c) (by omega)) h, fun _ => rfl⟩
/-- count, starts, depths, used -/
abbrev ShT : Type := Nat × (Nat → Int) × (Nat → Int) × (Nat → Int)
def shF (T : ShT) (al ac w : Int) : Nat → Nat
  | 0 => T.1
  | d + 1 => if T.2.2.1 (T.1 - (d + 1)) < al then shF T al ac w d else if w < T.2.2.2 (T.1 - (d + 1)) + ac then shF T al ac w d else T.1 - (d + 1)
def shEnd (T : ShT) : Int := if T.1 = 0 then 0 else T.2.1 (T.1 - 1) + T.2.2.1 (T.1 - 1)
def shI (T : ShT) (fo al ac w : Int) : Nat := if fo = 0 then shF T al ac w T.1 else T.1
def shOpen (T : ShT) (al : Int) : ShT := (T.1 + 1, upA T.2.1 T.1 (shEnd T), upA T.2.2.1 T.1 al, upA T.2.2.2 T.1 0)
def shAt (T : ShT) (s : Nat) (al : Int) : ShT := if s = T.1 then shOpen T al else T
def shPut (T : ShT) (s : Nat) (ac : Int) : ShT := (T.1, T.2.1, T.2.2.1, upA T.2.2.2 s (T.2.2.2 s + ac))
def shS (L : List PT) (w : Int) (o : Nat → Nat) : Nat → ShT
  | 0 => (0, fun _ => 0, fun _ => 0, fun _ => 0)
  | i + 1 => shPut (shAt (shS L w o i) (shI (shS L w o i) (pfo L (o i)) (pal L (o i)) (pac L (o i)) w) (pal L (o i))) (shI (shS L w o i) (pfo L (o i)) (pal L (o i)) (pac L (o i)) w) (pac L (o i))
def shA (L : List PT) (w : Int) (o : Nat → Nat) (i : Nat) : Int := (shAt (shS L w o i) (shI (shS L w o i) (pfo L (o i)) (pal L (o i)) (pac L (o i)) w) (pal L (o i))).2.1 (shI (shS L w o i) (pfo L (o i)) (pal L (o i)) (pac L (o i)) w)
def shC (L : List PT) (w : Int) (o : Nat → Nat) (i : Nat) : Int := (shAt (shS L w o i) (shI (shS L w o i) (pfo L (o i)) (pal L (o i)) (pac L (o i)) w) (pal L (o i))).2.2.2 (shI (shS L w o i) (pfo L (o i)) (pal L (o i)) (pac L (o i)) w)
theorem shF_le (T : ShT) (al ac w : Int) : ∀ d, shF T al ac w d ≤ T.1
  | 0 => Nat.le_refl _
  | d + 1 => by
    unfold shF
    have := shF_le T al ac w d
    split
    · exact this
    · split
      · exact this
      · omega
theorem shI_le (T : ShT) (fo al ac w : Int) : shI T fo al ac w ≤ T.1 := by
  unfold shI
  split
  · exact shF_le T al ac w T.1
  · exact Nat.le_refl _
theorem shF_fit {T : ShT} {al ac w : Int} : ∀ d, d ≤ T.1 → shF T al ac w d < T.1 → T.2.2.2 (shF T al ac w d) + ac ≤ w
  | 0, _, h => absurd h (by unfold shF; omega)
  | d + 1, hd, h => by
    unfold shF at h ⊢
    split
    · rename_i q
      rw [if_pos q] at h
      exact shF_fit d (by omega) h
    · rename_i q
      rw [if_neg q] at h
      split
      · rename_i q2
        rw [if_pos q2] at h
        exact shF_fit d (by omega) h
      · rename_i q2
        omega
theorem shI_fit {T : ShT} {fo al ac w : Int} (h : shI T fo al ac w < T.1) : T.2.2.2 (shI T fo al ac w) + ac ≤ w := by
  unfold shI at h ⊢
  split
  · rename_i q
    rw [if_pos q] at h
    exact shF_fit _ (Nat.le_refl _) h
  · rename_i q
    rw [if_neg q] at h
    omega
/-- bounds -/
def ShB (T : ShT) (i : Nat) (w : Int) : Prop := T.1 ≤ i ∧ ∀ s, s < T.1 → (0 ≤ T.2.1 s ∧ T.2.1 s ≤ 18 * s) ∧ (1 ≤ T.2.2.1 s ∧ T.2.2.1 s ≤ 18) ∧ (0 ≤ T.2.2.2 s ∧ T.2.2.2 s ≤ w)
theorem ShB.end {T : ShT} {i : Nat} {w : Int} (h : ShB T i w) : 0 ≤ shEnd T ∧ shEnd T ≤ 18 * T.1 := by
  unfold shEnd
  split
  · omega
  · have := h.2 (T.1 - 1) (by omega)
    omega
theorem ShB.at {T : ShT} {i : Nat} {w al : Int} {s : Nat} (h : ShB T i w) (hw : 0 ≤ w) (ha : 1 ≤ al ∧ al ≤ 18) (hs : s ≤ T.1) : ShB (shAt T s al) (i + 1) w ∧ s < (shAt T s al).1 := by
  have he := h.end
  unfold shAt
  split
  · rename_i q
    subst q
    refine ⟨⟨by show T.1 + 1 ≤ i + 1; have := h.1; omega, fun s hs2 => ?_⟩, by show T.1 < T.1 + 1; omega⟩
    have hs2 : s < T.1 + 1 := hs2
    show (0 ≤ upA T.2.1 T.1 (shEnd T) s ∧ upA T.2.1 T.1 (shEnd T) s ≤ 18 * s) ∧ (1 ≤ upA T.2.2.1 T.1 al s ∧ upA T.2.2.1 T.1 al s ≤ 18) ∧ (0 ≤ upA T.2.2.2 T.1 0 s ∧ upA T.2.2.2 T.1 0 s ≤ w)
    by_cases q : s = T.1
    · rw [q, upA_s, upA_s, upA_s]
      exact ⟨he, ha, by omega⟩
    · rw [upA_n q, upA_n q, upA_n q]
      exact h.2 s (by omega)
  · exact ⟨⟨by have := h.1; omega, h.2⟩, by omega⟩
theorem ShB.put {T : ShT} {i : Nat} {w ac : Int} {s : Nat} (h : ShB T i w) (ha : 1 ≤ ac) (hf : T.2.2.2 s + ac ≤ w) (hs : s < T.1) : ShB (shPut T s ac) i w := by
  refine ⟨h.1, fun t ht => ?_⟩
  have ht : t < T.1 := ht
  have h1 := h.2 t ht
  refine ⟨h1.1, h1.2.1, ?_⟩
  show 0 ≤ upA T.2.2.2 s (T.2.2.2 s + ac) t ∧ upA T.2.2.2 s (T.2.2.2 s + ac) t ≤ w
  by_cases q : t = s
  · subst q
    rw [upA_s]
    omega
  · rw [upA_n q]
    exact h1.2.2
theorem shAt_fit {T : ShT} {fo al ac w : Int} (hw : ac ≤ w) : (shAt T (shI T fo al ac w) al).2.2.2 (shI T fo al ac w) + ac ≤ w := by
  unfold shAt
  split
  · rename_i q
    show upA T.2.2.2 T.1 0 _ + ac ≤ w
    rw [q, upA_s]
    omega
  · rename_i q
    have := shI_le T fo al ac w
    exact shI_fit (by omega)
theorem shS_b {L : List PT} {w : Int} {o : Nat → Nat} (hO : AllOK L) (hw : 0 ≤ w) (hlay : layO L w) : ∀ i, (∀ j, j < i → o j < L.length) → ShB (shS L w o i) i w
  | 0, _ => ⟨Nat.le_refl _, fun s h => absurd h (Nat.not_lt_zero s)⟩
  | i + 1, ho => by
    have ih := shS_b hO hw hlay i (fun j hj => ho j (by omega))
    have hi := ho i (by omega)
    obtain ⟨h1, h2⟩ := ih.at hw (pal_b hO hi) (shI_le (shS L w o i) (pfo L (o i)) (pal L (o i)) (pac L (o i)) w)
    exact h1.put (pac_b hO hi).1 (shAt_fit (hlay _ hi)) h2
/-- the class' placing -/
def bitI (ac a1 : Int) : Int := (1 * 2 ^ ac.toNat - 1) * 2 ^ a1.toNat
def plc (σ : St) (k : Nat) (a b c d : Int) : St := gmUp (gmUp (gmUp (gmUp σ k 5 a) k 6 b) k 7 c) k 8 d
theorem plc_k {σ : St} {k : Nat} {a b c d : Int} {k' i : Nat} (h : k' ≠ k ∨ i < 5 ∨ 8 < i) : plc σ k a b c d k' i = σ k' i := by
  unfold plc
  rcases h with h | h
  · rw [gmUp_k h, gmUp_k h, gmUp_k h, gmUp_k h]
  · rw [gmUp_i (by omega), gmUp_i (by omega), gmUp_i (by omega), gmUp_i (by omega)]
theorem plc_at {σ : St} {k : Nat} {a b c d : Int} : plc σ k a b c d k 5 = a ∧ plc σ k a b c d k 6 = b ∧ plc σ k a b c d k 7 = c ∧ plc σ k a b c d k 8 = d := by
  unfold plc
  refine ⟨?_, ?_, ?_, ?_⟩
  · rw [gmUp_i (by decide), gmUp_i (by decide), gmUp_i (by decide), gmUp_s]
  · rw [gmUp_i (by decide), gmUp_i (by decide), gmUp_s]
  · rw [gmUp_i (by decide), gmUp_s]
  · rw [gmUp_s]
theorem pow_b {n : Nat} (h : n ≤ 24) : (1 : Int) ≤ 2 ^ n ∧ (2 : Int) ^ n ≤ 16777216 := by
  have h1 : (2 : Nat) ^ n ≤ 2 ^ 24 := Nat.pow_le_pow_right (by decide) h
  have h2 : 0 < (2 : Nat) ^ n := Nat.pow_pos (by decide)
  have e : ((2 : Int)) ^ n = ((2 ^ n : Nat) : Int) := by rw [Int.natCast_pow]; rfl
  rw [e]
  omega
theorem bit_b {ac a1 : Int} (h1 : 1 ≤ ac) (h2 : 0 ≤ a1) (h3 : ac + a1 ≤ 24) : 0 ≤ bitI ac a1 ∧ bitI ac a1 < 16777216 := by
  unfold bitI
  have e : (2 : Int) ^ ac.toNat * 2 ^ a1.toNat = 2 ^ (ac.toNat + a1.toNat) := (Int.pow_add ..).symm
  have b1 := pow_b (n := ac.toNat + a1.toNat) (by omega)
  have b2 := pow_b (n := a1.toNat) (by omega)
  have b3 := pow_b (n := ac.toNat) (by omega)
  have e2 : (1 * (2 : Int) ^ ac.toNat - 1) * 2 ^ a1.toNat = 2 ^ (ac.toNat + a1.toNat) - 2 ^ a1.toNat := by
    rw [← e, Int.sub_mul, Int.one_mul, Int.one_mul]
  have e3 := Int.mul_nonneg (by omega : 0 ≤ 1 * (2 : Int) ^ ac.toNat - 1) (by omega : 0 ≤ (2 : Int) ^ a1.toNat)
  omega
theorem X_placeAt {σ : St} {k : Nat} {al ac a0 a1 : Int} (h3 : σ k 3 = al) (h4 : σ k 4 = ac) (hal : 1 ≤ al ∧ al ≤ 18) (hac : 1 ≤ ac ∧ ac ≤ 18) (ha0 : 0 ≤ a0 ∧ a0 ≤ 100000) (ha1 : 0 ≤ a1 ∧ ac + a1 ≤ 24) : Fp_placeAt k a0 a1 σ = some (plc σ k a0 a1 (a0 + al) (bitI ac a1)) := by
  have b := bit_b hac.1 ha1.1 ha1.2
  have b3 := pow_b (n := ac.toNat) (by omega)
  unfold Fp_placeAt
  rw [gmL_s, gmL_s, gmUp_i (show (3 : Nat) ≠ 6 by decide), gmUp_i (show (3 : Nat) ≠ 5 by decide), h3, gmG_t ⟨by omega, by omega⟩, gmL_s, gmUp_i (show (4 : Nat) ≠ 7 by decide), gmUp_i (show (4 : Nat) ≠ 6 by decide), gmUp_i (show (4 : Nat) ≠ 5 by decide), h4]
  rw [gmG_t ⟨by omega, by omega⟩, gmG_t ⟨by omega, by unfold bitI at b; omega⟩, gmL_s]
  rfl
