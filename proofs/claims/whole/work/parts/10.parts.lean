/-! THE FUNCTIONS OVER THE STORE: laws for reading them; the parts of a marker -/
theorem gmG_t {α : Type} {c : Prop} [Decidable c] {t : Option α} (h : c) : gmG c t = t := if_pos h
theorem gmB_s {β : Type} {v : Int} {σ : St} {k : Int → St → Option β} : gmB (some (v, σ)) k = k v σ := rfl
theorem gmBv_s {β : Type} {σ : St} {k : St → Option β} : gmBv (some σ) k = k σ := rfl
theorem gmL_s {α β : Type} {v : α} {k : α → Option β} : gmL v k = k v := rfl
theorem gmUp_s {σ : St} {k i : Nat} {v : Int} : gmUp σ k i v k i = v := by simp [gmUp]
theorem gmUp_k {σ : St} {k i k' i' : Nat} {v : Int} (h : k' ≠ k) : gmUp σ k i v k' i' = σ k' i' := by simp [gmUp, h]
theorem gmUp_i {σ : St} {k i k' i' : Nat} {v : Int} (h : i' ≠ i) : gmUp σ k i v k' i' = σ k' i' := by simp [gmUp, h]
theorem gmTg_2 (p : Nat) : gmTg 2 p = 3 + p := by simp [gmTg]
theorem gmTg_9 (p : Nat) : gmTg 9 p = 10 + p := by simp [gmTg]
theorem gmTg_55 (p : Nat) : gmTg 55 p = 56 + p := by simp [gmTg]
theorem gmTg_52 (p : Nat) : gmTg 52 p = 18 + 17 * p := by simp [gmTg]
theorem gmTN (p : Nat) : ((p : Int)).toNat = p := Int.toNat_natCast p
/-- the numbers of the reference's array of 78 -/
abbrev Ar : Type := Nat → Int
def wdt (a : Ar) (s p : Nat) : Int := a (6 * p + 1) + s * a (6 * p + 3)
def lgt (a : Ar) (s p : Nat) : Int := a (6 * p + 2) + s * a (6 * p + 4)
def strip (a : Ar) : Int := if a 71 = 0 then a 70 else a 70 / 2
/-- size, piece, fold, along extent, across extent -/
abbrev PT : Type := Int × Int × Int × Int × Int
def isFo (a : Ar) (p : Nat) : Int := if a 71 = 0 then 0 else if a (6 * p + 5) = 1 then 1 else 0
def isTu (a : Ar) (s p : Nat) : Int := if a 72 = 0 then 0 else if isFo a p = 1 then 0 else if strip a < lgt a s p then 0 else if strip a < wdt a s p then 1 else if lgt a s p ≤ wdt a s p then 0 else 1
def partOf (a : Ar) (s p : Nat) : PT := (s, p, isFo a p, if isTu a s p = 0 then lgt a s p else wdt a s p, if isFo a p = 1 then (wdt a s p + 1) / 2 else if isTu a s p = 0 then wdt a s p else lgt a s p)
def copN (a : Ar) (p : Nat) : Nat := if a (6 * p) = 1 then (if a 71 = 0 then (a (6 * p + 5)).toNat else 1) else 0
def garP (a : Ar) (s : Nat) : Nat → List PT
  | 0 => []
  | m + 1 => List.replicate (copN a (5 - m)) (partOf a s (5 - m)) ++ garP a s m
def garsP (a : Ar) (s : Nat) : Nat → List PT
  | 0 => []
  | g + 1 => garP a s 6 ++ garsP a s g
def sizP (a : Ar) : Nat → List PT
  | 0 => []
  | m + 1 => garsP a (2 - m) (a (67 + (2 - m))).toNat ++ sizP a m
def pts (a : Ar) : List PT := sizP a 3
/-- what holds of the numbers always -/
def InvP (a : Ar) : Prop := ∀ p, p < 6 → (a (6 * p) = 0 ∨ a (6 * p) = 1) ∧ (a (6 * p) = 1 → (1 ≤ a (6 * p + 1) ∧ a (6 * p + 1) ≤ 12) ∧ (1 ≤ a (6 * p + 2) ∧ a (6 * p + 2) ≤ 12) ∧ (0 ≤ a (6 * p + 3) ∧ a (6 * p + 3) ≤ 3) ∧ (0 ≤ a (6 * p + 4) ∧ a (6 * p + 4) ≤ 3) ∧ (1 ≤ a (6 * p + 5) ∧ a (6 * p + 5) ≤ 2))
def InvC (a : Ar) : Prop := InvP a ∧ (4 ≤ a 70 ∧ a 70 ≤ 24) ∧ (a 71 = 0 ∨ a 71 = 1) ∧ (a 72 = 0 ∨ a 72 = 1) ∧ (0 ≤ a 73 ∧ a 73 ≤ 1) ∧ (0 ≤ a 74 ∧ a 74 ≤ 3) ∧ (∀ i, i < 3 → 0 ≤ a (67 + i) ∧ a (67 + i) ≤ 2) ∧ (∀ i, i < 3 → 0 ≤ a (75 + i) ∧ a (75 + i) ≤ 99)
/-- the class' current state holds the numbers (but for ratios and seams) -/
def RepC (σ : St) (a : Ar) : Prop := (∀ p, p < 6 → σ (3 + p) 0 = a (6 * p) ∧ (a (6 * p) = 1 → ∀ f, 1 ≤ f → f < 6 → σ (3 + p) f = a (6 * p + f))) ∧ σ 1 5 = a 70 ∧ σ 1 6 = a 71 ∧ σ 1 7 = a 72 ∧ σ 1 8 = a 73 ∧ σ 1 9 = a 74 ∧ (∀ i, i < 3 → σ 17 i = a (75 + i))
/-- the marker's first cells are these parts -/
def HX (σ : St) (L : List PT) : Prop := σ 54 1 = L.length ∧ ∀ j (q : PT), L[j]? = some q → σ (56 + j) 0 = q.1 ∧ σ (56 + j) 1 = q.2.1 ∧ σ (56 + j) 2 = q.2.2.1 ∧ σ (56 + j) 3 = q.2.2.2.1 ∧ σ (56 + j) 4 = q.2.2.2.2
/-- only the marker's parts change -/
def FrX (σ σ' : St) : Prop := ∀ k i, (k < 54 ∨ k = 55 ∨ 128 ≤ k) → σ' k i = σ k i
theorem FrX.rf {σ : St} : FrX σ σ := fun _ _ _ => rfl
theorem FrX.tr {σ σ' σ'' : St} (h : FrX σ σ') (h' : FrX σ' σ'') : FrX σ σ'' := fun k i q => (h' k i q).trans (h k i q)
theorem RepC.fr {σ σ' : St} {a : Ar} (h : RepC σ a) (f : ∀ k i, k < 54 → σ' k i = σ k i) : RepC σ' a := by
  obtain ⟨h1, h2, h3, h4, h5, h6, h7⟩ := h
  refine ⟨fun p hp => ?_, ?_, ?_, ?_, ?_, ?_, fun i hi => ?_⟩
  · rw [f _ _ (by omega)]
    refine ⟨(h1 p hp).1, fun hd g g1 g2 => ?_⟩
    rw [f _ _ (by omega)]
    exact (h1 p hp).2 hd g g1 g2
  · rw [f _ _ (by omega)]; exact h2
  · rw [f _ _ (by omega)]; exact h3
  · rw [f _ _ (by omega)]; exact h4
  · rw [f _ _ (by omega)]; exact h5
  · rw [f _ _ (by omega)]; exact h6
  · rw [f _ _ (by omega)]; exact h7 i hi
theorem FrX.rep {σ σ' : St} {a : Ar} (h : FrX σ σ') (hR : RepC σ a) : RepC σ' a := hR.fr (fun k i q => h k i (Or.inl q))
theorem HX.push {σ σ' : St} {L : List PT} {q : PT} (h : HX σ L) (h1 : σ' 54 1 = L.length + 1) (h2 : ∀ j i, j < L.length → σ' (56 + j) i = σ (56 + j) i) (h3 : σ' (56 + L.length) 0 = q.1 ∧ σ' (56 + L.length) 1 = q.2.1 ∧ σ' (56 + L.length) 2 = q.2.2.1 ∧ σ' (56 + L.length) 3 = q.2.2.2.1 ∧ σ' (56 + L.length) 4 = q.2.2.2.2) : HX σ' (L ++ [q]) := by
  refine ⟨by rw [h1, List.length_append]; simp, fun j r hj => ?_⟩
  rcases Nat.lt_or_ge j L.length with hlt | hge
  · rw [List.getElem?_append_left hlt] at hj
    rw [h2 j _ hlt, h2 j _ hlt, h2 j _ hlt, h2 j _ hlt, h2 j _ hlt]
    exact h.2 j r hj
  · rw [List.getElem?_append_right hge] at hj
    have hz : j = L.length := by
      have := (List.getElem?_eq_some_iff.mp hj).1
      simp at this
      omega
    subst hz
    simp at hj
    subst hj
    exact h3
/-- extents of a part -/
def PtOK (q : PT) : Prop := (0 ≤ q.1 ∧ q.1 < 3) ∧ (0 ≤ q.2.1 ∧ q.2.1 < 6) ∧ (q.2.2.1 = 0 ∨ q.2.2.1 = 1) ∧ (1 ≤ q.2.2.2.1 ∧ q.2.2.2.1 ≤ 18) ∧ (1 ≤ q.2.2.2.2 ∧ q.2.2.2.2 ≤ 18)
theorem wdt_b {a : Ar} (hI : InvP a) {s p : Nat} (hs : s < 3) (hp : p < 6) (hd : a (6 * p) = 1) : (1 ≤ wdt a s p ∧ wdt a s p ≤ 18) ∧ (1 ≤ lgt a s p ∧ lgt a s p ≤ 18) := by
  obtain ⟨h1, h2, h3, h4, h5⟩ := (hI p hp).2 hd
  unfold wdt lgt
  rcases (by omega : s = 0 ∨ s = 1 ∨ s = 2) with rfl | rfl | rfl <;> constructor <;> constructor <;> omega
theorem isFo_01 (a : Ar) (p : Nat) : isFo a p = 0 ∨ isFo a p = 1 := by
  unfold isFo
  split
  · exact Or.inl rfl
  · split
    · exact Or.inr rfl
    · exact Or.inl rfl
theorem isTu_01 (a : Ar) (s p : Nat) : isTu a s p = 0 ∨ isTu a s p = 1 := by
  unfold isTu
  repeat' split
  all_goals first | exact Or.inl rfl | exact Or.inr rfl
theorem partOf_ok {a : Ar} (hI : InvP a) {s p : Nat} (hs : s < 3) (hp : p < 6) (hd : a (6 * p) = 1) : PtOK (partOf a s p) := by
  obtain ⟨h1, h2⟩ := wdt_b hI hs hp hd
  refine ⟨⟨?_, ?_⟩, ⟨?_, ?_⟩, isFo_01 a p, ?_, ?_⟩
  · show (0 : Int) ≤ (s : Int); omega
  · show (s : Int) < 3; omega
  · show (0 : Int) ≤ (p : Int); omega
  · show (p : Int) < 6; omega
  · show 1 ≤ (if isTu a s p = 0 then lgt a s p else wdt a s p) ∧ (if isTu a s p = 0 then lgt a s p else wdt a s p) ≤ 18
    split <;> omega
  · show 1 ≤ (if isFo a p = 1 then (wdt a s p + 1) / 2 else if isTu a s p = 0 then wdt a s p else lgt a s p) ∧ (if isFo a p = 1 then (wdt a s p + 1) / 2 else if isTu a s p = 0 then wdt a s p else lgt a s p) ≤ 18
    split
    · omega
    · split <;> omega
theorem X_sideIn {σ : St} {a : Ar} (hR : RepC σ a) (hI : InvP a) {s p : Nat} (hs : s < 3) (hp : p < 6) (hd : a (6 * p) = 1) : Fc_sideIn (3 + p) 0 s σ = some (wdt a s p, σ) ∧ Fc_sideIn (3 + p) 1 s σ = some (lgt a s p, σ) := by
  have hf := (hR.1 p hp).2 hd
  obtain ⟨b1, b2⟩ := wdt_b hI hs hp hd
  simp only [wdt, lgt] at b1 b2 ⊢
  unfold Fc_sideIn
  rw [if_pos rfl, if_neg (by decide), hf 1 (by decide) (by decide), hf 2 (by decide) (by decide), hf 3 (by decide) (by decide), hf 4 (by decide) (by decide)]
  exact ⟨gmG_t ⟨by omega, by omega⟩, gmG_t ⟨by omega, by omega⟩⟩
theorem X_makePart {σ : St} {a : Ar} {L : List PT} {s p : Nat} (hs : s < 3) (hp : p < 6) (hR : RepC σ a) (hI : InvC a) (hd : a (6 * p) = 1) (hL : HX σ L) (hlen : L.length < 72) (hst : σ 54 2 = strip a) : ∃ σ', Fk_makePart s p σ = some σ' ∧ HX σ' (L ++ [partOf a s p]) ∧ FrX σ σ' ∧ σ' 54 2 = strip a := by
  obtain ⟨b1, b2⟩ := wdt_b hI.1 hs hp hd
  have hf := (hR.1 p hp).2 hd
  have hn := hL.1
  generalize hN : L.length = N at *
  unfold Fk_makePart
  rw [if_pos (by omega), gmG_t (by omega), gmL_s, gmG_t (by omega), gmL_s, gmG_t ⟨by omega, by omega⟩, gmL_s, gmTN, gmTg_2, gmTg_55, hn, gmTN]
  generalize h0 : gmUp σ 54 1 ((N : Int) + 1) = σ0
  have f0 : ∀ k i, k ≠ 54 → σ0 k i = σ k i := fun k i q => by rw [← h0]; exact gmUp_k q
  have f1 : σ0 54 1 = (N : Int) + 1 := by rw [← h0]; exact gmUp_s
  have f2 : σ0 54 2 = strip a := by rw [← h0, gmUp_i (by decide)]; exact hst
  have hR0 : RepC σ0 a := hR.fr (fun k i q => f0 k i (by omega))
  obtain ⟨e1, e2⟩ := X_sideIn hR0 hI.1 hs hp hd
  rw [e1, gmB_s, e2, gmB_s, gmL_s, gmL_s]
  generalize h2 : gmUp (gmUp σ0 (56 + N) 0 (s : Int)) (56 + N) 1 (p : Int) = σ2
  have u0 : ∀ k i, k ≠ 56 + N → σ2 k i = σ0 k i := fun k i q => by rw [← h2, gmUp_k q, gmUp_k q]
  have r16 : σ0 1 6 = a 71 := hR0.2.2.1
  have r17 : σ0 1 7 = a 72 := hR0.2.2.2.1
  have r5 : σ0 (3 + p) 5 = a (6 * p + 5) := (hR0.1 p hp).2 hd 5 (by decide) (by decide)
  rw [u0 1 6 (by omega), u0 (3 + p) 5 (by omega), r16, r5]
  rw [show (if a 71 = 0 then (0 : Int) else if a (6 * p + 5) = 1 then 1 else 0) = isFo a p from rfl, gmL_s]
  generalize h3 : gmUp σ2 (56 + N) 2 (isFo a p) = σ3
  have g0 : ∀ k i, k ≠ 56 + N → σ3 k i = σ0 k i := fun k i q => by rw [← h3, gmUp_k q, u0 k i q]
  have g1 : σ3 (56 + N) 0 = s := by rw [← h3, gmUp_i (by decide), ← h2, gmUp_i (by decide), gmUp_s]
  have g2 : σ3 (56 + N) 1 = p := by rw [← h3, gmUp_i (by decide), ← h2, gmUp_s]
  have g3 : σ3 (56 + N) 2 = isFo a p := by rw [← h3, gmUp_s]
  have fin : ∀ (x y : Int) (σ' : St), x = (partOf a s p).2.2.2.1 → y = (partOf a s p).2.2.2.2 → σ' = gmUp (gmUp σ3 (56 + N) 4 y) (56 + N) 3 x → HX σ' (L ++ [partOf a s p]) ∧ FrX σ σ' ∧ σ' 54 2 = strip a := by
    intro x y σ' hx hy he
    have k0 : ∀ k i, k ≠ 56 + N → σ' k i = σ3 k i := fun k i q => by rw [he, gmUp_k q, gmUp_k q]
    refine ⟨hL.push ?_ (fun j i hj => ?_) ?_, fun k i q => ?_, ?_⟩
    · rw [k0 _ _ (by omega), g0 _ _ (by omega), f1, hN]
    · rw [k0 _ _ (by omega), g0 _ _ (by omega), f0 _ _ (by omega)]
    · rw [hN]
      refine ⟨?_, ?_, ?_, ?_, ?_⟩
      · rw [he, gmUp_i (by decide), gmUp_i (by decide), g1]; rfl
      · rw [he, gmUp_i (by decide), gmUp_i (by decide), g2]; rfl
      · rw [he, gmUp_i (by decide), gmUp_i (by decide), g3]; rfl
      · rw [he, gmUp_s, hx]
      · rw [he, gmUp_i (by decide), gmUp_s, hy]
    · rw [k0 _ _ (by omega), g0 _ _ (by omega), f0 _ _ (by omega)]
    · rw [k0 _ _ (by omega), g0 _ _ (by omega), f2]
  rw [g3, g0 1 7 (by omega), r17]
  rcases isFo_01 a p with hfo | hfo
  · rw [if_pos hfo]
    by_cases h72 : a 72 = 0
    · rw [if_pos h72, gmL_s, gmL_s]
      have ht : isTu a s p = 0 := by unfold isTu; rw [if_pos h72]
      exact ⟨_, rfl, fin _ _ _ (by simp [partOf, ht]) (by simp [partOf, ht, hfo]) rfl⟩
    · rw [if_neg h72]
      unfold Fk_isBetterTurned
      rw [gmB_s, g0 54 2 (by omega), f2]
      have ht : (if strip a < lgt a s p then (0 : Int) else if strip a < wdt a s p then 1 else if lgt a s p ≤ wdt a s p then 0 else 1) = isTu a s p := by
        unfold isTu
        rw [if_neg h72, hfo, if_neg (show ¬ (0 : Int) = 1 by decide)]
      rw [ht, gmL_s]
      rcases isTu_01 a s p with h | h
      · rw [h, if_pos rfl, if_pos rfl, gmL_s, if_pos rfl, gmL_s]
        exact ⟨_, rfl, fin _ _ _ (by simp [partOf, h]) (by simp [partOf, h, hfo]) rfl⟩
      · rw [h, if_neg (by decide), if_neg (by decide), gmL_s, gmL_s]
        exact ⟨_, rfl, fin _ _ _ (by simp [partOf, h]) (by simp [partOf, h, hfo]) rfl⟩
  · rw [if_neg (by rw [hfo]; decide), gmG_t (by omega), gmL_s, gmL_s]
    have ht : isTu a s p = 0 := by
      unfold isTu
      rw [hfo]
      split <;> simp
    exact ⟨_, rfl, fin _ _ _ (by simp [partOf, ht]) (by simp [partOf, hfo]) rfl⟩
