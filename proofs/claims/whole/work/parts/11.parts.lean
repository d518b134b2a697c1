theorem copN_b {a : Ar} (hI : InvP a) {p : Nat} (hp : p < 6) : copN a p ≤ 2 := by
  unfold copN
  split
  · rename_i hd
    have := (hI p hp).2 hd
    split <;> omega
  · omega
theorem garP_len {a : Ar} (hI : InvP a) (s : Nat) : ∀ m, m ≤ 6 → (garP a s m).length ≤ 2 * m
  | 0, _ => by simp [garP]
  | m + 1, h => by
    have := garP_len hI s m (by omega)
    have := copN_b hI (p := 5 - m) (by omega)
    simp only [garP, List.length_append, List.length_replicate]
    omega
theorem garsP_len {a : Ar} (hI : InvP a) (s : Nat) : ∀ g, (garsP a s g).length ≤ 12 * g
  | 0 => by simp [garsP]
  | g + 1 => by
    have := garsP_len hI s g
    have := garP_len hI s 6 (by omega)
    simp only [garsP, List.length_append]
    omega
theorem sizP_len {a : Ar} (hI : InvC a) : ∀ m, m ≤ 3 → (sizP a m).length ≤ 24 * m
  | 0, _ => by simp [sizP]
  | m + 1, h => by
    have := sizP_len hI m (by omega)
    have := garsP_len hI.1 (2 - m) (a (67 + (2 - m))).toNat
    have := hI.2.2.2.2.2.2.1 (2 - m) (by omega)
    simp only [sizP, List.length_append]
    omega
theorem garP_ok {a : Ar} (hI : InvP a) {s : Nat} (hs : s < 3) : ∀ m, m ≤ 6 → ∀ q ∈ garP a s m, PtOK q
  | 0, _ => fun q h => by simp [garP] at h
  | m + 1, h => fun q hq => by
    rcases List.mem_append.mp hq with h1 | h1
    · obtain ⟨h2, rfl⟩ := List.mem_replicate.mp h1
      refine partOf_ok hI hs (by omega) ?_
      unfold copN at h2
      split at h2
      · assumption
      · exact absurd rfl h2
    · exact garP_ok hI hs m (by omega) q h1
theorem garsP_ok {a : Ar} (hI : InvP a) {s : Nat} (hs : s < 3) : ∀ g, ∀ q ∈ garsP a s g, PtOK q
  | 0 => fun q h => by simp [garsP] at h
  | g + 1 => fun q hq => by
    rcases List.mem_append.mp hq with h1 | h1
    · exact garP_ok hI hs 6 (by omega) q h1
    · exact garsP_ok hI hs g q h1
theorem sizP_ok {a : Ar} (hI : InvP a) : ∀ m, m ≤ 3 → ∀ q ∈ sizP a m, PtOK q
  | 0, _ => fun q h => by simp [sizP] at h
  | m + 1, h => fun q hq => by
    rcases List.mem_append.mp hq with h1 | h1
    · exact garsP_ok hI (by omega) _ q h1
    · exact sizP_ok hI m (by omega) q h1
theorem pts_len {a : Ar} (hI : InvC a) : (pts a).length ≤ 72 := sizP_len hI 3 (by omega)
theorem pts_ok {a : Ar} (hI : InvC a) : ∀ q ∈ pts a, PtOK q := sizP_ok hI.1 3 (by omega)
theorem gmN_e : gmN = 1500 := rfl
theorem strip_b {a : Ar} (hI : InvC a) : 2 ≤ strip a ∧ strip a ≤ 24 := by
  have := hI.2.1
  unfold strip
  split <;> omega
theorem X_mg45 {a : Ar} {s p : Nat} {k : St → Option St} (hs : s < 3) (hp : p < 6) (hI : InvC a) (hd : a (6 * p) = 1) : ∀ (d n c : Nat) (σ : St) (L : List PT), d < n → RepC σ a → HX σ L → L.length + d ≤ 72 → σ 54 2 = strip a → c + d ≤ 2 → ∃ σ', Fk_makeGarment_45 n s p ((c + d : Nat) : Int) (c : Int) σ k = k σ' ∧ HX σ' (L ++ List.replicate d (partOf a s p)) ∧ FrX σ σ' ∧ σ' 54 2 = strip a := by
  intro d
  induction d with
  | zero =>
    intro n c σ L hn hR hL hlen hst hc
    obtain ⟨n, rfl⟩ : ∃ m, n = m + 1 := ⟨n - 1, by omega⟩
    rw [Fk_makeGarment_45.eq_2, if_pos (by omega)]
    exact ⟨σ, rfl, by simpa using hL, FrX.rf, hst⟩
  | succ d ih =>
    intro n c σ L hn hR hL hlen hst hc
    obtain ⟨n, rfl⟩ : ∃ m, n = m + 1 := ⟨n - 1, by omega⟩
    rw [Fk_makeGarment_45.eq_2, if_neg (by omega)]
    obtain ⟨σ1, e1, h1, fr1, st1⟩ := X_makePart hs hp hR hI hd hL (by omega) hst
    rw [e1, gmBv_s, gmG_t ⟨by omega, by omega⟩]
    obtain ⟨σ2, e2, h2, fr2, st2⟩ := ih n (c + 1) σ1 (L ++ [partOf a s p]) (by omega) (fr1.rep hR) h1 (by simp; omega) st1 (by omega)
    rw [show ((c + (d + 1) : Nat) : Int) = ((c + 1 + d : Nat) : Int) by omega, show (c : Int) + 1 = ((c + 1 : Nat) : Int) by omega, e2]
    refine ⟨σ2, rfl, ?_, fr1.tr fr2, st2⟩
    rw [List.append_assoc, List.singleton_append, ← List.replicate_succ] at h2
    exact h2
theorem X_mg2 {a : Ar} {s : Nat} {k : St → Option St} (hs : s < 3) (hI : InvC a) : ∀ (m n : Nat) (σ : St) (L : List PT), m ≤ 6 → m < n → RepC σ a → HX σ L → L.length + 2 * m ≤ 72 → σ 54 2 = strip a → ∃ σ', Fk_makeGarment_2 n s ((6 - m : Nat) : Int) σ k = k σ' ∧ HX σ' (L ++ garP a s m) ∧ FrX σ σ' ∧ σ' 54 2 = strip a := by
  intro m
  induction m with
  | zero =>
    intro n σ L hm hn hR hL hlen hst
    obtain ⟨n, rfl⟩ : ∃ m, n = m + 1 := ⟨n - 1, by omega⟩
    rw [Fk_makeGarment_2.eq_2, if_pos (by omega)]
    exact ⟨σ, rfl, by simpa [garP] using hL, FrX.rf, hst⟩
  | succ m ih =>
    intro n σ L hm hn hR hL hlen hst
    obtain ⟨n, rfl⟩ : ∃ m, n = m + 1 := ⟨n - 1, by omega⟩
    have hp : 6 - (m + 1) < 6 := by omega
    have e5 : 5 - m = 6 - (m + 1) := by omega
    have hq := (hR.1 _ hp)
    rw [Fk_makeGarment_2.eq_2, if_neg (by omega), gmG_t (by omega), gmTN, gmTg_2, hq.1]
    have hnx : ((6 - (m + 1) : Nat) : Int) + 1 = ((6 - m : Nat) : Int) := by omega
    have i01 := (hI.1 _ hp)
    have hcb := copN_b hI.1 hp
    by_cases hd : a (6 * (6 - (m + 1))) = 0
    · rw [if_pos hd, gmG_t ⟨by omega, by omega⟩, hnx]
      have hcop : copN a (5 - m) = 0 := by
        rw [e5]
        unfold copN
        rw [if_neg (by omega)]
      obtain ⟨σ2, e2, h2, fr2, st2⟩ := ih n σ L (by omega) (by omega) hR hL (by omega) hst
      rw [e2]
      refine ⟨σ2, rfl, ?_, fr2, st2⟩
      simp only [garP, hcop, List.replicate_zero, List.nil_append]
      exact h2
    · have hd1 : a (6 * (6 - (m + 1))) = 1 := by omega
      have r16 : σ 1 6 = a 71 := hR.2.2.1
      rw [if_neg hd, r16, hq.2 hd1 5 (by decide) (by decide), gmL_s]
      have i2 := i01.2 hd1
      have hcop : (if a 71 = 0 then a (6 * (6 - (m + 1)) + 5) else 1) = ((0 + copN a (6 - (m + 1)) : Nat) : Int) := by
        unfold copN
        rw [if_pos hd1]
        split <;> omega
      rw [hcop]
      obtain ⟨σ1, e1, h1, fr1, st1⟩ := X_mg45 (k := fun s10 => gmG (gmR (((6 - (m + 1) : Nat) : Int) + 1)) (Fk_makeGarment_2 n s (((6 - (m + 1) : Nat) : Int) + 1) s10 k)) hs hp hI hd1 (copN a (6 - (m + 1))) gmN 0 σ L (by rw [gmN_e]; omega) hR hL (by omega) hst (by omega)
      have hl1 : (L ++ List.replicate (copN a (6 - (m + 1))) (partOf a s (6 - (m + 1)))).length + 2 * m ≤ 72 := by
        rw [List.length_append, List.length_replicate]; omega
      obtain ⟨σ2, e2, h2, fr2, st2⟩ := ih n σ1 _ (by omega) (by omega) (fr1.rep hR) h1 hl1 st1
      refine ⟨σ2, ?_, ?_, fr1.tr fr2, st2⟩
      · refine e1.trans ?_
        rw [gmG_t ⟨by omega, by omega⟩, hnx, e2]
      · simp only [garP, e5]
        rw [List.append_assoc] at h2
        exact h2
theorem X_makeGarment {a : Ar} {s : Nat} (hs : s < 3) (hI : InvC a) {σ : St} {L : List PT} (hR : RepC σ a) (hL : HX σ L) (hlen : L.length + 12 ≤ 72) (hst : σ 54 2 = strip a) : ∃ σ', Fk_makeGarment s σ = some σ' ∧ HX σ' (L ++ garP a s 6) ∧ FrX σ σ' ∧ σ' 54 2 = strip a := by
  unfold Fk_makeGarment
  exact X_mg2 (k := fun s12 => some s12) hs hI 6 gmN σ L (by omega) (by rw [gmN_e]; omega) hR hL (by omega) hst
theorem X_mp39 {a : Ar} {s kr : Nat} {k : St → Option St} (hs : s < 3) (hI : InvC a) (hkr : kr = 16 ∨ kr = 132) : ∀ (d n c : Nat) (σ : St) (L : List PT), d < n → RepC σ a → (∀ i, i < 3 → σ kr i = a (67 + i)) → HX σ L → L.length + 12 * d ≤ 72 → σ 54 2 = strip a → c + d = (a (67 + s)).toNat → ∃ σ', Fk_makeParts_39 n kr s (c : Int) σ k = k σ' ∧ HX σ' (L ++ garsP a s d) ∧ FrX σ σ' ∧ σ' 54 2 = strip a := by
  have hln : (gmLn kr : Int) = 3 := by rcases hkr with rfl | rfl <;> rfl
  have hra := hI.2.2.2.2.2.2.1 s hs
  intro d
  induction d with
  | zero =>
    intro n c σ L hn hR hr hL hlen hst hc
    obtain ⟨n, rfl⟩ : ∃ m, n = m + 1 := ⟨n - 1, by omega⟩
    rw [Fk_makeParts_39.eq_2, gmG_t (by rw [hln]; omega), gmTN, hr s hs, if_pos (by omega)]
    exact ⟨σ, rfl, by simpa [garsP] using hL, FrX.rf, hst⟩
  | succ d ih =>
    intro n c σ L hn hR hr hL hlen hst hc
    obtain ⟨n, rfl⟩ : ∃ m, n = m + 1 := ⟨n - 1, by omega⟩
    rw [Fk_makeParts_39.eq_2, gmG_t (by rw [hln]; omega), gmTN, hr s hs, if_neg (by omega)]
    obtain ⟨σ1, e1, h1, fr1, st1⟩ := X_makeGarment hs hI hR hL (by omega) hst
    rw [e1, gmBv_s, gmG_t ⟨by omega, by omega⟩]
    have hl1 : (L ++ garP a s 6).length + 12 * d ≤ 72 := by
      have := garP_len hI.1 s 6 (by omega)
      rw [List.length_append]; omega
    obtain ⟨σ2, e2, h2, fr2, st2⟩ := ih n (c + 1) σ1 _ (by omega) (fr1.rep hR) (fun i hi => by rw [fr1 kr i (by omega)]; exact hr i hi) h1 hl1 st1 (by omega)
    rw [show (c : Int) + 1 = ((c + 1 : Nat) : Int) by omega, e2]
    refine ⟨σ2, rfl, ?_, fr1.tr fr2, st2⟩
    rw [List.append_assoc] at h2
    exact h2
theorem X_mp31 {a : Ar} {kr : Nat} {k : St → Option St} (hI : InvC a) (hkr : kr = 16 ∨ kr = 132) : ∀ (m n : Nat) (σ : St) (L : List PT), m ≤ 3 → m < n → RepC σ a → (∀ i, i < 3 → σ kr i = a (67 + i)) → HX σ L → L.length + 24 * m ≤ 72 → σ 54 2 = strip a → ∃ σ', Fk_makeParts_31 n kr ((3 - m : Nat) : Int) σ k = k σ' ∧ HX σ' (L ++ sizP a m) ∧ FrX σ σ' ∧ σ' 54 2 = strip a := by
  intro m
  induction m with
  | zero =>
    intro n σ L hm hn hR hr hL hlen hst
    obtain ⟨n, rfl⟩ : ∃ m, n = m + 1 := ⟨n - 1, by omega⟩
    rw [Fk_makeParts_31.eq_2, if_pos (by omega)]
    exact ⟨σ, rfl, by simpa [sizP] using hL, FrX.rf, hst⟩
  | succ m ih =>
    intro n σ L hm hn hR hr hL hlen hst
    obtain ⟨n, rfl⟩ : ∃ m, n = m + 1 := ⟨n - 1, by omega⟩
    have hs : 3 - (m + 1) < 3 := by omega
    have e5 : 2 - m = 3 - (m + 1) := by omega
    have hra := hI.2.2.2.2.2.2.1 _ hs
    rw [Fk_makeParts_31.eq_2, if_neg (by omega)]
    have hnx : ((3 - (m + 1) : Nat) : Int) + 1 = ((3 - m : Nat) : Int) := by omega
    obtain ⟨σ1, e1, h1, fr1, st1⟩ := X_mp39 (k := fun s10 => gmG (gmR (((3 - (m + 1) : Nat) : Int) + 1)) (Fk_makeParts_31 n kr (((3 - (m + 1) : Nat) : Int) + 1) s10 k)) hs hI hkr (a (67 + (3 - (m + 1)))).toNat gmN 0 σ L (by rw [gmN_e]; omega) hR hr hL (by omega) hst (by omega)
    have hl1 : (L ++ garsP a (3 - (m + 1)) (a (67 + (3 - (m + 1)))).toNat).length + 24 * m ≤ 72 := by
      have := garsP_len hI.1 (3 - (m + 1)) (a (67 + (3 - (m + 1)))).toNat
      rw [List.length_append]; omega
    obtain ⟨σ2, e2, h2, fr2, st2⟩ := ih n σ1 _ (by omega) (by omega) (fr1.rep hR) (fun i hi => by rw [fr1 kr i (by omega)]; exact hr i hi) h1 hl1 st1
    refine ⟨σ2, ?_, ?_, fr1.tr fr2, st2⟩
    · refine e1.trans ?_
      rw [gmG_t ⟨by omega, by omega⟩, hnx, e2]
    · simp only [sizP, e5]
      rw [List.append_assoc] at h2
      exact h2
theorem X_makeParts {σ : St} {a : Ar} {kr : Nat} (hkr : kr = 16 ∨ kr = 132) (hr : ∀ i, i < 3 → σ kr i = a (67 + i)) (hR : RepC σ a) (hI : InvC a) : ∃ σ', Fk_makeParts kr σ = some σ' ∧ HX σ' (pts a) ∧ FrX σ σ' ∧ σ' 54 2 = strip a := by
  have r5 : σ 1 5 = a 70 := hR.2.1
  have r6 : σ 1 6 = a 71 := hR.2.2.1
  have hc := hI.2.1
  unfold Fk_makeParts
  rw [gmG_t (fun _ => by omega), gmL_s, gmL_s, r5, r6, show (if a 71 = 0 then a 70 else a 70 / 2) = strip a from rfl]
  generalize h0 : gmUp (gmUp σ 54 2 (strip a)) 54 1 0 = σ0
  have f0 : ∀ k i, k ≠ 54 → σ0 k i = σ k i := fun k i q => by rw [← h0, gmUp_k q, gmUp_k q]
  have f1 : σ0 54 1 = 0 := by rw [← h0]; exact gmUp_s
  have f2 : σ0 54 2 = strip a := by rw [← h0, gmUp_i (by decide)]; exact gmUp_s
  obtain ⟨σ1, e1, h1, fr1, st1⟩ := X_mp31 (k := fun s12 => some s12) hI hkr 3 gmN σ0 [] (by omega) (by rw [gmN_e]; omega) (hR.fr (fun k i q => f0 k i (by omega))) (fun i hi => by rw [f0 kr i (by omega)]; exact hr i hi) ⟨by rw [f1]; rfl, fun j q h => by simp at h⟩ (by simp) f2
  exact ⟨σ1, e1, h1, fun k i q => by rw [fr1 k i q, f0 k i (by omega)], st1⟩
