/-! THE REFERENCE's PARTS -/
theorem n10 : ¬ (1 : Int) = 0 := by decide
theorem n01 : ¬ (0 : Int) = 1 := by decide
def HM (σ : St) (L : List PT) : Prop := σ 133 8 = L.length ∧ ∀ j (q : PT), L[j]? = some q → σ 137 j = q.1 ∧ σ 138 j = q.2.1 ∧ σ 141 j = q.2.2.1 ∧ σ 140 j = q.2.2.2.1 ∧ σ 139 j = q.2.2.2.2
/-- only the reference's parts change -/
def FrM (σ σ' : St) : Prop := ∀ k i, ((k ≠ 133 ∧ (k < 137 ∨ 141 < k)) ∨ (k = 133 ∧ i ≠ 8)) → σ' k i = σ k i
theorem FrM.rf {σ : St} : FrM σ σ := fun _ _ _ => rfl
theorem FrM.tr {σ σ' σ'' : St} (h : FrM σ σ') (h' : FrM σ' σ'') : FrM σ σ'' := fun k i q => (h' k i q).trans (h k i q)
theorem FrM.ar {σ σ' : St} {a : Ar} (h : FrM σ σ') (hA : σ 134 = a) : σ' 134 = a := by
  rw [← hA]; funext i; exact h 134 i (Or.inl ⟨by decide, Or.inl (by decide)⟩)
theorem M_sideOf {σ : St} {a : Ar} (hA : σ 134 = a) (hI : InvP a) {s p : Nat} (hs : s < 3) (hp : p < 6) (hd : a (6 * p) = 1) : Fm_widthOf p s σ = some (wdt a s p, σ) ∧ Fm_lengthOf p s σ = some (lgt a s p, σ) := by
  obtain ⟨b1, b2⟩ := wdt_b hI hs hp hd
  simp only [wdt, lgt] at b1 b2 ⊢
  unfold Fm_widthOf Fm_lengthOf
  rw [hA, show ((0 : Int) + (6 * (p : Int)) + 1).toNat = 6 * p + 1 by omega, show ((0 : Int) + (6 * (p : Int)) + 2).toNat = 6 * p + 2 by omega, show ((0 : Int) + (6 * (p : Int)) + 3).toNat = 6 * p + 3 by omega, show ((0 : Int) + (6 * (p : Int)) + 4).toNat = 6 * p + 4 by omega]
  exact ⟨by rw [gmG_t (by omega), gmG_t (by omega), gmG_t ⟨by omega, by omega⟩], by rw [gmG_t (by omega), gmG_t (by omega), gmG_t ⟨by omega, by omega⟩]⟩
theorem M_strip {σ : St} {a : Ar} (hA : σ 134 = a) (hI : InvC a) : Fm_stripWidth σ = some (strip a, σ) := by
  have := hI.2.1
  have h71 := hI.2.2.1
  unfold Fm_stripWidth strip
  rw [hA, gmG_t (fun _ => by omega)]
  rcases h71 with h | h
  · rw [h, if_neg (by decide), if_pos rfl]
  · rw [h, if_pos rfl, if_neg (by decide)]
theorem M_addPart {σ : St} {a : Ar} {L : List PT} {s p : Nat} (hs : s < 3) (hp : p < 6) (hA : σ 134 = a) (hI : InvC a) (hd : a (6 * p) = 1) (hL : HM σ L) (hlen : L.length < 72) : ∃ σ', Fm_addPart s p σ = some σ' ∧ HM σ' (L ++ [partOf a s p]) ∧ FrM σ σ' := by
  obtain ⟨b1, b2⟩ := wdt_b hI.1 hs hp hd
  obtain ⟨e1, e2⟩ := M_sideOf hA hI.1 hs hp hd
  have h71 := hI.2.2.1
  have h72 := hI.2.2.2.1
  have hn := hL.1
  generalize hN : L.length = N at *
  have t5 : ((0 : Int) + (6 * (p : Int)) + 5).toNat = 6 * p + 5 := by omega
  have hfo : (if a 71 = 1 then (if a (6 * p + 5) = 1 then (1 : Int) else 0) else 0) = isFo a p := by
    unfold isFo
    rcases h71 with h | h
    · rw [h, if_neg n01, if_pos rfl]
    · rw [h, if_pos rfl, if_neg n10]
  have htu : (if a 72 = 1 then (if isFo a p = 0 then (if strip a < lgt a s p then (0 : Int) else (if strip a < wdt a s p then 1 else (if lgt a s p ≤ wdt a s p then 0 else 1))) else 0) else 0) = isTu a s p := by
    unfold isTu
    rcases h72 with h | h
    · rw [h, if_neg n01, if_pos rfl]
    · rw [h, if_pos rfl, if_neg n10]
      rcases isFo_01 a p with q | q
      · rw [q, if_pos rfl, if_neg n01]
      · rw [q, if_neg n10, if_pos rfl]
  unfold Fm_addPart
  rw [e1, gmB_s, e2, gmB_s, hA, t5, gmG_t (fun _ => by omega), gmL_s, hfo, M_strip hA hI, gmB_s, hA, gmL_s, htu, hn, gmTN]
  rw [gmG_t (by omega), gmL_s, gmUp_k (show (133 : Nat) ≠ 137 by decide), hn, gmTN, gmG_t (by omega), gmL_s, gmG_t (fun _ => by omega)]
  rw [gmUp_k (show (133 : Nat) ≠ 138 by decide), gmUp_k (show (133 : Nat) ≠ 137 by decide), hn, gmTN, gmG_t (by omega), gmL_s]
  rw [gmUp_k (show (133 : Nat) ≠ 139 by decide), gmUp_k (show (133 : Nat) ≠ 138 by decide), gmUp_k (show (133 : Nat) ≠ 137 by decide), hn, gmTN, gmG_t (by omega), gmL_s]
  rw [gmUp_k (show (133 : Nat) ≠ 140 by decide), gmUp_k (show (133 : Nat) ≠ 139 by decide), gmUp_k (show (133 : Nat) ≠ 138 by decide), gmUp_k (show (133 : Nat) ≠ 137 by decide), hn, gmTN, gmG_t (by omega), gmL_s]
  rw [gmUp_k (show (133 : Nat) ≠ 141 by decide), gmUp_k (show (133 : Nat) ≠ 140 by decide), gmUp_k (show (133 : Nat) ≠ 139 by decide), gmUp_k (show (133 : Nat) ≠ 138 by decide), gmUp_k (show (133 : Nat) ≠ 137 by decide), hn, gmG_t ⟨by omega, by omega⟩, gmL_s]
  have hx : (if isFo a p = 0 then (if isTu a s p = 0 then wdt a s p else lgt a s p) else (wdt a s p + 1) / 2) = (partOf a s p).2.2.2.2 := by
    show _ = if isFo a p = 1 then (wdt a s p + 1) / 2 else if isTu a s p = 0 then wdt a s p else lgt a s p
    rcases isFo_01 a p with q | q
    · rw [q, if_pos rfl, if_neg n01]
    · rw [q, if_neg n10, if_pos rfl]
  have hy : (if isTu a s p = 0 then lgt a s p else wdt a s p) = (partOf a s p).2.2.2.1 := rfl
  rw [hx, hy]
  refine ⟨_, rfl, ⟨?_, fun j r hj => ?_⟩, fun k i q => ?_⟩
  · rw [gmUp_s, List.length_append, hN]; simp
  · rcases Nat.lt_or_ge j N with hlt | hge
    · rw [List.getElem?_append_left (by omega)] at hj
      have := hL.2 j r hj
      have hne : j ≠ N := by omega
      simp [gmUp, hne]
      exact this
    · rw [List.getElem?_append_right (by omega)] at hj
      have hz : j = N := by
        have := (List.getElem?_eq_some_iff.mp hj).1
        simp at this
        omega
      subst hz
      simp [hN] at hj
      subst hj
      simp [gmUp]
      exact ⟨rfl, rfl, rfl⟩
  · have : ¬ (k = 133 ∧ i = 8) := by omega
    have : k ≠ 137 := by omega
    have : k ≠ 138 := by omega
    have : k ≠ 139 := by omega
    have : k ≠ 140 := by omega
    have : k ≠ 141 := by omega
    simp [gmUp, *]
theorem M_lp80 {a : Ar} {s p : Nat} {g : Int} {k : St → Option St} (hs : s < 3) (hp : p < 6) (hI : InvC a) (hd : a (6 * p) = 1) : ∀ (d n c : Nat) (σ : St) (L : List PT), d < n → σ 134 = a → HM σ L → L.length + d ≤ 72 → c + d ≤ 2 → ∃ σ', Fm_layParts_80 n s g p ((c + d : Nat) : Int) (c : Int) σ k = k σ' ∧ HM σ' (L ++ List.replicate d (partOf a s p)) ∧ FrM σ σ' := by
  intro d
  induction d with
  | zero =>
    intro n c σ L hn hA hL hlen hc
    obtain ⟨n, rfl⟩ : ∃ m, n = m + 1 := ⟨n - 1, by omega⟩
    rw [Fm_layParts_80.eq_2, if_pos (by omega)]
    exact ⟨σ, rfl, by simpa using hL, FrM.rf⟩
  | succ d ih =>
    intro n c σ L hn hA hL hlen hc
    obtain ⟨n, rfl⟩ : ∃ m, n = m + 1 := ⟨n - 1, by omega⟩
    rw [Fm_layParts_80.eq_2, if_neg (by omega)]
    obtain ⟨σ1, e1, h1, fr1⟩ := M_addPart hs hp hA hI hd hL (by omega)
    rw [e1, gmBv_s, gmG_t ⟨by omega, by omega⟩]
    obtain ⟨σ2, e2, h2, fr2⟩ := ih n (c + 1) σ1 (L ++ [partOf a s p]) (by omega) (fr1.ar hA) h1 (by simp; omega) (by omega)
    rw [show ((c + (d + 1) : Nat) : Int) = ((c + 1 + d : Nat) : Int) by omega, show (c : Int) + 1 = ((c + 1 : Nat) : Int) by omega, e2]
    refine ⟨σ2, rfl, ?_, fr1.tr fr2⟩
    rw [List.append_assoc, List.singleton_append, ← List.replicate_succ] at h2
    exact h2
theorem M_isPiece {σ : St} {a : Ar} (hA : σ 134 = a) {p : Nat} (hp : p < 6) : Fm_isPiece p σ = some (if a (6 * p) = 1 then 1 else 0, σ) := by
  unfold Fm_isPiece Fm_in
  rw [gmB_s, if_neg (by omega), if_neg (by omega), gmG_t (fun _ => by omega), if_neg (by decide), hA, show ((0 : Int) + (6 * (p : Int))).toNat = 6 * p by omega]
theorem M_lp29 {a : Ar} {s : Nat} {g : Int} {k : St → Option St} (hs : s < 3) (hI : InvC a) : ∀ (m n : Nat) (σ : St) (L : List PT), m ≤ 6 → m < n → σ 134 = a → HM σ L → L.length + 2 * m ≤ 72 → ∃ σ', Fm_layParts_29 n s g ((6 - m : Nat) : Int) σ k = k σ' ∧ HM σ' (L ++ garP a s m) ∧ FrM σ σ' := by
  have h71 := hI.2.2.1
  intro m
  induction m with
  | zero =>
    intro n σ L hm hn hA hL hlen
    obtain ⟨n, rfl⟩ : ∃ m, n = m + 1 := ⟨n - 1, by omega⟩
    rw [Fm_layParts_29.eq_2, if_pos (by omega)]
    exact ⟨σ, rfl, by simpa [garP] using hL, FrM.rf⟩
  | succ m ih =>
    intro n σ L hm hn hA hL hlen
    obtain ⟨n, rfl⟩ : ∃ m, n = m + 1 := ⟨n - 1, by omega⟩
    have hp : 6 - (m + 1) < 6 := by omega
    have e5 : 5 - m = 6 - (m + 1) := by omega
    have hnx : ((6 - (m + 1) : Nat) : Int) + 1 = ((6 - m : Nat) : Int) := by omega
    have i01 := (hI.1 _ hp)
    have hcb := copN_b hI.1 hp
    rw [Fm_layParts_29.eq_2, if_neg (by omega), M_isPiece hA hp, gmB_s, gmG_t (fun _ _ => by omega), gmL_s, hA, show ((0 : Int) + (6 * ((6 - (m + 1) : Nat) : Int)) + 5).toNat = 6 * (6 - (m + 1)) + 5 by omega]
    have hcop : (if (if a (6 * (6 - (m + 1))) = 1 then (1 : Int) else 0) = 0 then (0 : Int) else if a 71 = 1 then 1 else a (6 * (6 - (m + 1)) + 5)) = ((0 + copN a (6 - (m + 1)) : Nat) : Int) := by
      unfold copN
      by_cases hd1 : a (6 * (6 - (m + 1))) = 1
      · have i2 := i01.2 hd1
        rw [if_pos hd1, if_neg (by decide), if_pos hd1]
        rcases h71 with h | h
        · rw [h, if_neg (by decide), if_pos rfl]; omega
        · rw [h, if_pos rfl, if_neg (by decide)]; rfl
      · rw [if_neg hd1, if_pos rfl, if_neg hd1]; rfl
    rw [hcop]
    have hl1 : (L ++ List.replicate (copN a (6 - (m + 1))) (partOf a s (6 - (m + 1)))).length + 2 * m ≤ 72 := by
      rw [List.length_append, List.length_replicate]; omega
    have hr : ∀ σ1 : St, HM σ1 (L ++ List.replicate (copN a (6 - (m + 1))) (partOf a s (6 - (m + 1)))) → FrM σ σ1 → ∃ σ', gmG (gmR (((6 - (m + 1) : Nat) : Int) + 1)) (Fm_layParts_29 n s g (((6 - (m + 1) : Nat) : Int) + 1) σ1 k) = k σ' ∧ HM σ' (L ++ garP a s (m + 1)) ∧ FrM σ σ' := by
      intro σ1 h1 fr1
      obtain ⟨σ2, e2, h2, fr2⟩ := ih n σ1 _ (by omega) (by omega) (fr1.ar hA) h1 hl1
      refine ⟨σ2, ?_, ?_, fr1.tr fr2⟩
      · rw [gmG_t ⟨by omega, by omega⟩, hnx, e2]
      · simp only [garP, e5]
        rw [List.append_assoc] at h2
        exact h2
    by_cases hd1 : a (6 * (6 - (m + 1))) = 1
    · obtain ⟨σ1, e1, h1, fr1⟩ := M_lp80 (g := g) (k := fun s15 => gmG (gmR (((6 - (m + 1) : Nat) : Int) + 1)) (Fm_layParts_29 n s g (((6 - (m + 1) : Nat) : Int) + 1) s15 k)) hs hp hI hd1 (copN a (6 - (m + 1))) gmN 0 σ L (by rw [gmN_e]; omega) hA hL (by omega) (by omega)
      obtain ⟨σ2, e2, r⟩ := hr σ1 h1 fr1
      exact ⟨σ2, e1.trans e2, r⟩
    · have hc0 : copN a (6 - (m + 1)) = 0 := by unfold copN; rw [if_neg hd1]
      rw [hc0] at hr ⊢
      obtain ⟨σ2, e2, r⟩ := hr σ (by simpa using hL) FrM.rf
      refine ⟨σ2, ?_, r⟩
      rw [show gmN = 1499 + 1 from rfl, Fm_layParts_80.eq_2, if_pos (by omega)]
      exact e2
theorem M_lp14 {a : Ar} {s : Nat} {k : St → Option St} (hs : s < 3) (hI : InvC a) : ∀ (d n c : Nat) (σ : St) (L : List PT), d < n → σ 134 = a → HM σ L → L.length + 12 * d ≤ 72 → c + d = (a (67 + s)).toNat → ∃ σ', Fm_layParts_14 n s (c : Int) σ k = k σ' ∧ HM σ' (L ++ garsP a s d) ∧ FrM σ σ' := by
  have hra := hI.2.2.2.2.2.2.1 s hs
  have t67 : ((67 : Int) + (s : Int)).toNat = 67 + s := by omega
  intro d
  induction d with
  | zero =>
    intro n c σ L hn hA hL hlen hc
    obtain ⟨n, rfl⟩ : ∃ m, n = m + 1 := ⟨n - 1, by omega⟩
    rw [Fm_layParts_14.eq_2, gmG_t (by omega), t67, hA, if_pos (by omega)]
    exact ⟨σ, rfl, by simpa [garsP] using hL, FrM.rf⟩
  | succ d ih =>
    intro n c σ L hn hA hL hlen hc
    obtain ⟨n, rfl⟩ : ∃ m, n = m + 1 := ⟨n - 1, by omega⟩
    rw [Fm_layParts_14.eq_2, gmG_t (by omega), t67, hA, if_neg (by omega)]
    obtain ⟨σ1, e1, h1, fr1⟩ := M_lp29 (g := (c : Int)) (k := fun s17 => gmG (gmR ((c : Int) + 1)) (Fm_layParts_14 n s ((c : Int) + 1) s17 k)) hs hI 6 gmN σ L (by omega) (by rw [gmN_e]; omega) hA hL (by omega)
    have hl1 : (L ++ garP a s 6).length + 12 * d ≤ 72 := by
      have := garP_len hI.1 s 6 (by omega)
      rw [List.length_append]; omega
    obtain ⟨σ2, e2, h2, fr2⟩ := ih n (c + 1) σ1 _ (by omega) (fr1.ar hA) h1 hl1 (by omega)
    refine ⟨σ2, ?_, ?_, fr1.tr fr2⟩
    · refine e1.trans ?_
      rw [gmG_t ⟨by omega, by omega⟩, show (c : Int) + 1 = ((c + 1 : Nat) : Int) by omega, e2]
    · rw [List.append_assoc] at h2
      exact h2
theorem M_lp7 {a : Ar} {k : St → Option St} (hI : InvC a) : ∀ (m n : Nat) (σ : St) (L : List PT), m ≤ 3 → m < n → σ 134 = a → HM σ L → L.length + 24 * m ≤ 72 → ∃ σ', Fm_layParts_7 n ((3 - m : Nat) : Int) σ k = k σ' ∧ HM σ' (L ++ sizP a m) ∧ FrM σ σ' := by
  intro m
  induction m with
  | zero =>
    intro n σ L hm hn hA hL hlen
    obtain ⟨n, rfl⟩ : ∃ m, n = m + 1 := ⟨n - 1, by omega⟩
    rw [Fm_layParts_7.eq_2, if_pos (by omega)]
    exact ⟨σ, rfl, by simpa [sizP] using hL, FrM.rf⟩
  | succ m ih =>
    intro n σ L hm hn hA hL hlen
    obtain ⟨n, rfl⟩ : ∃ m, n = m + 1 := ⟨n - 1, by omega⟩
    have hs : 3 - (m + 1) < 3 := by omega
    have e5 : 2 - m = 3 - (m + 1) := by omega
    have hra := hI.2.2.2.2.2.2.1 _ hs
    rw [Fm_layParts_7.eq_2, if_neg (by omega)]
    have hnx : ((3 - (m + 1) : Nat) : Int) + 1 = ((3 - m : Nat) : Int) := by omega
    obtain ⟨σ1, e1, h1, fr1⟩ := M_lp14 (k := fun s19 => gmG (gmR (((3 - (m + 1) : Nat) : Int) + 1)) (Fm_layParts_7 n (((3 - (m + 1) : Nat) : Int) + 1) s19 k)) hs hI (a (67 + (3 - (m + 1)))).toNat gmN 0 σ L (by rw [gmN_e]; omega) hA hL (by omega) (by omega)
    have hl1 : (L ++ garsP a (3 - (m + 1)) (a (67 + (3 - (m + 1)))).toNat).length + 24 * m ≤ 72 := by
      have := garsP_len hI.1 (3 - (m + 1)) (a (67 + (3 - (m + 1)))).toNat
      rw [List.length_append]; omega
    obtain ⟨σ2, e2, h2, fr2⟩ := ih n σ1 _ (by omega) (by omega) (fr1.ar hA) h1 hl1
    refine ⟨σ2, ?_, ?_, fr1.tr fr2⟩
    · refine e1.trans ?_
      rw [gmG_t ⟨by omega, by omega⟩, hnx, e2]
    · simp only [sizP, e5]
      rw [List.append_assoc] at h2
      exact h2
theorem M_layParts {σ : St} {a : Ar} (hA : σ 134 = a) (hI : InvC a) : ∃ σ', Fm_layParts σ = some σ' ∧ HM σ' (pts a) ∧ FrM σ σ' := by
  unfold Fm_layParts
  rw [gmL_s]
  have fr0 : FrM σ (gmUp σ 133 8 0) := fun k i q => by
    rcases q with q | q
    · exact gmUp_k q.1
    · exact gmUp_i q.2
  obtain ⟨σ1, e1, h1, fr1⟩ := M_lp7 (k := fun s21 => some s21) hI 3 gmN (gmUp σ 133 8 0) [] (by omega) (by rw [gmN_e]; omega) (fr0.ar hA) ⟨gmUp_s, fun j q h => by simp at h⟩ (by simp)
  exact ⟨σ1, e1, h1, fr0.tr fr1⟩
