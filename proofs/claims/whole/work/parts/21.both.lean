/-! CLASS AND REFERENCE TOGETHER: the state that both hold -/
def lc (k : Nat) : Nat := if k < 36 then 2 + k / 6 else if k = 36 then 0 else if k < 67 then 9 + (k - 37) / 5 else if k < 70 then 15 else if k < 75 then 0 else 16
def lf (k : Nat) : Nat := if k < 36 then k % 6 else if k = 36 then 2 else if k < 67 then (k - 37) % 5 else if k < 70 then k - 67 else if k < 75 then k - 65 else k - 75
theorem loc_inj : ∀ k, k < 78 → ∀ j, j < 78 → lc k = lc j → lf k = lf j → k = j := by decide +kernel
theorem loc_b : ∀ k, k < 78 → lc k ≤ 16 ∧ lc k ≠ 1 ∧ lc k ≠ 8 := by decide +kernel
def Live (a : Ar) (k : Nat) : Prop := (k < 36 → k % 6 = 0 ∨ a (6 * (k / 6)) = 1) ∧ (37 ≤ k → k < 67 → (((k - 37) / 5 : Nat) : Int) < a 36)
def RepS (σ : St) (B : Nat) (a : Ar) : Prop := ∀ k, k < 78 → Live a k → σ (B + lc k) (lf k) = a k
def SmOK (a : Ar) (s : Nat) : Prop := ((0 ≤ a (37 + 5 * s) ∧ a (37 + 5 * s) < 6) ∧ a (6 * (a (37 + 5 * s)).toNat) = 1) ∧ (0 ≤ a (38 + 5 * s) ∧ a (38 + 5 * s) ≤ 1) ∧ ((0 ≤ a (39 + 5 * s) ∧ a (39 + 5 * s) < 6) ∧ a (6 * (a (39 + 5 * s)).toNat) = 1) ∧ (0 ≤ a (40 + 5 * s) ∧ a (40 + 5 * s) ≤ 1) ∧ (-3 ≤ a (41 + 5 * s) ∧ a (41 + 5 * s) ≤ 3)
def InvS (a : Ar) : Prop := (0 ≤ a 36 ∧ a 36 ≤ 6) ∧ ∀ s : Nat, (s : Int) < a 36 → SmOK a s
def Inv (a : Ar) : Prop := InvC a ∧ InvS a
def SlotOK (σ : St) (i : Nat) : Prop := σ 53 i = σ 136 i ∧ (σ 53 i = 0 ∨ σ 53 i = 1) ∧ (σ 53 i = 1 → RepS σ (18 + 17 * i) (fun k => σ 135 (78 * i + k)) ∧ Inv (fun k => σ 135 (78 * i + k)))
def Rel (σ : St) : Prop := RepS σ 1 (σ 134) ∧ Inv (σ 134) ∧ ∀ i, i < 2 → SlotOK σ i
theorem RepS.fr {σ σ' : St} {B : Nat} {a : Ar} (h : RepS σ B a) (f : ∀ k i, B ≤ k → k ≤ B + 16 → σ' k i = σ k i) : RepS σ' B a := fun k hk hl => by
  have := (loc_b k hk).1
  rw [f _ _ (by omega) (by omega)]
  exact h k hk hl
theorem SlotOK.fr {σ σ' : St} {i : Nat} (hi : i < 2) (h : SlotOK σ i) (f : ∀ k j, ((18 ≤ k ∧ k ≤ 53) ∨ k = 135 ∨ k = 136) → σ' k j = σ k j) : SlotOK σ' i := by
  obtain ⟨h1, h2, h3⟩ := h
  unfold SlotOK
  rw [f 53 i (by omega), f 136 i (by omega), show (fun k => σ' 135 (78 * i + k)) = fun k => σ 135 (78 * i + k) from funext fun k => f _ _ (by omega)]
  exact ⟨h1, h2, fun h => ⟨(h3 h).1.fr (fun k j a b => f k j (by omega)), (h3 h).2⟩⟩
theorem Rel.upd {σ σ' : St} (h : Rel σ) (f : ∀ k j, ((18 ≤ k ∧ k ≤ 53) ∨ k = 135 ∨ k = 136) → σ' k j = σ k j) (h1 : RepS σ' 1 (σ' 134)) (h2 : Inv (σ' 134)) : Rel σ' := ⟨h1, h2, fun i hi => (h.2.2 i hi).fr hi f⟩
/-- looks change nothing of it -/
def Qu (σ σ' : St) : Prop := ∀ k i, (k < 54 ∨ (134 ≤ k ∧ k ≤ 136)) → σ' k i = σ k i
theorem Qu.rf {σ : St} : Qu σ σ := fun _ _ _ => rfl
theorem Qu.tr {σ σ' σ'' : St} (h : Qu σ σ') (h' : Qu σ' σ'') : Qu σ σ'' := fun k i q => (h' k i q).trans (h k i q)
theorem Qu.ar {σ σ' : St} (h : Qu σ σ') : σ' 134 = σ 134 := funext fun i => h 134 i (by omega)
theorem Qu.rel {σ σ' : St} (h : Qu σ σ') (hR : Rel σ) : Rel σ' := by
  refine hR.upd (fun k j q => h k j (by omega)) ?_ ?_
  · rw [h.ar]
    exact hR.1.fr (fun k i a b => h k i (by omega))
  · rw [h.ar]; exact hR.2.1
theorem FrX.qu {σ σ' : St} (h : FrX σ σ') : Qu σ σ' := fun k i q => h k i (by omega)
theorem FrP.qu {σ σ' : St} (h : FrP σ σ') : Qu σ σ' := fun k i q => h k i (by omega)
theorem FrM.qu {σ σ' : St} (h : FrM σ σ') : Qu σ σ' := fun k i q => h k i (by omega)
theorem FrQ.qu {σ σ' : St} (h : FrQ σ σ') : Qu σ σ' := fun k i q => h k i (by omega)
theorem RepS.pc {σ : St} {B : Nat} {a : Ar} (h : RepS σ B a) {p f : Nat} (hp : p < 6) (hf : f < 6) (hd : f = 0 ∨ a (6 * p) = 1) : σ (B + (2 + p)) f = a (6 * p + f) := by
  have h1 := h (6 * p + f) (by omega) ⟨fun _ => by
    rw [show (6 * p + f) / 6 = p by omega, show (6 * p + f) % 6 = f by omega]
    exact hd, fun z => by omega⟩
  unfold lc lf at h1
  rw [if_pos (by omega), if_pos (by omega), show (6 * p + f) / 6 = p by omega, show (6 * p + f) % 6 = f by omega] at h1
  exact h1
theorem RepS.sm {σ : St} {B : Nat} {a : Ar} (h : RepS σ B a) (hI : InvS a) {s f : Nat} (hs : (s : Int) < a 36) (hf : f < 5) : σ (B + (9 + s)) f = a (37 + 5 * s + f) := by
  have h6 := hI.1
  have h1 := h (37 + 5 * s + f) (by omega) ⟨fun z => by omega, fun _ _ => by
    rw [show (37 + 5 * s + f - 37) / 5 = s by omega]; exact hs⟩
  unfold lc lf at h1
  rw [if_neg (by omega), if_neg (by omega), if_pos (by omega), if_neg (by omega), if_neg (by omega), if_pos (by omega), show (37 + 5 * s + f - 37) / 5 = s by omega, show (37 + 5 * s + f - 37) % 5 = f by omega] at h1
  exact h1
theorem live_hi {a : Ar} {k : Nat} (h : k = 36 ∨ 67 ≤ k) : Live a k := ⟨fun z => by omega, fun z1 z2 => by omega⟩
theorem RepS.hi {σ : St} {B : Nat} {a : Ar} (h : RepS σ B a) {k : Nat} (hk : k = 36 ∨ (67 ≤ k ∧ k < 78)) : σ (B + lc k) (lf k) = a k := h k (by omega) (live_hi (by omega))
theorem RepS.c {σ : St} {a : Ar} (h : RepS σ 1 a) : RepC σ a := by
  refine ⟨fun p hp => ⟨?_, fun hd f f1 f2 => ?_⟩, h.hi (k := 70) (by omega), h.hi (k := 71) (by omega), h.hi (k := 72) (by omega), h.hi (k := 73) (by omega), h.hi (k := 74) (by omega), fun i hi => ?_⟩
  · have := h.pc hp (by omega : 0 < 6) (Or.inl rfl)
    rw [show 3 + p = 1 + (2 + p) by omega]
    exact this
  · have := h.pc hp f2 (Or.inr hd)
    rw [show 3 + p = 1 + (2 + p) by omega]
    exact this
  · rcases (by omega : i = 0 ∨ i = 1 ∨ i = 2) with rfl | rfl | rfl
    · exact h.hi (k := 75) (by omega)
    · exact h.hi (k := 76) (by omega)
    · exact h.hi (k := 77) (by omega)
theorem RepS.ra {σ : St} {a : Ar} (h : RepS σ 1 a) : ∀ i, i < 3 → σ 16 i = a (67 + i) := by
  intro i hi
  rcases (by omega : i = 0 ∨ i = 1 ∨ i = 2) with rfl | rfl | rfl
  · exact h.hi (k := 67) (by omega)
  · exact h.hi (k := 68) (by omega)
  · exact h.hi (k := 69) (by omega)
/-- one number that decides nothing's life -/
theorem RepS.set {σ : St} {B : Nat} {a : Ar} (h : RepS σ B a) {k0 : Nat} (hk : 67 ≤ k0 ∧ k0 < 78) (v : Int) : RepS (gmUp σ (B + lc k0) (lf k0) v) B (upA a k0 v) := by
  intro k hk2 hl
  by_cases e : k = k0
  · subst e
    rw [gmUp_s, upA_s]
  · rw [upA_n e]
    have hl' : Live a k := by
      refine ⟨fun z => ?_, fun z1 z2 => ?_⟩
      · have := hl.1 z
        rw [upA_n (by omega)] at this
        exact this
      · have := hl.2 z1 z2
        rw [upA_n (by omega)] at this
        exact this
    rw [← h k hk2 hl']
    by_cases e2 : lc k = lc k0
    · exact gmUp_i (fun z => e (loc_inj k hk2 k0 hk.2 e2 z))
    · exact gmUp_k (by omega)
theorem RepS.eqA {σ : St} {B : Nat} {a a' : Ar} (h : RepS σ B a) (e : ∀ k, k < 78 → a' k = a k) : RepS σ B a' := fun k hk hl => by
  rw [e k hk]
  refine h k hk ⟨fun z => ?_, fun z1 z2 => ?_⟩
  · have := hl.1 z
    rw [e _ (by omega)] at this
    exact this
  · have := hl.2 z1 z2
    rw [e _ (by omega)] at this
    exact this
theorem Inv.eqA {a a' : Ar} (h : Inv a) (e : ∀ k, k < 78 → a' k = a k) : Inv a' := by
  obtain ⟨⟨h1, h2, h3, h4, h5, h6, h7, h8⟩, h9, h10⟩ := h
  refine ⟨⟨fun p hp => ?_, ?_, ?_, ?_, ?_, ?_, fun i hi => ?_, fun i hi => ?_⟩, ?_, fun s hs => ?_⟩
  · rw [e _ (by omega), e _ (by omega), e _ (by omega), e _ (by omega), e _ (by omega), e _ (by omega)]; exact h1 p hp
  · rw [e _ (by omega)]; exact h2
  · rw [e _ (by omega)]; exact h3
  · rw [e _ (by omega)]; exact h4
  · rw [e _ (by omega)]; exact h5
  · rw [e _ (by omega)]; exact h6
  · rw [e _ (by omega)]; exact h7 i hi
  · rw [e _ (by omega)]; exact h8 i hi
  · rw [e _ (by omega)]; exact h9
  · rw [e _ (by omega)] at hs
    have := h10 s hs
    unfold SmOK at this ⊢
    rw [e (37 + 5 * s) (by omega), e (38 + 5 * s) (by omega), e (39 + 5 * s) (by omega), e (40 + 5 * s) (by omega), e (41 + 5 * s) (by omega), e (6 * (a (37 + 5 * s)).toNat) (by omega), e (6 * (a (39 + 5 * s)).toNat) (by omega)]
    exact this
/-- a change behind the seams keeps pieces and seams -/
theorem Inv.set {a : Ar} (h : Inv a) {k0 : Nat} (hk : 67 ≤ k0) (v : Int) (hC : InvC (upA a k0 v)) : Inv (upA a k0 v) := by
  obtain ⟨-, h9, h10⟩ := h
  refine ⟨hC, by rw [upA_n (by omega)]; exact h9, fun s hs => ?_⟩
  rw [upA_n (by omega)] at hs
  have := h10 s hs
  unfold SmOK at this ⊢
  rw [upA_n (show 37 + 5 * s ≠ k0 by omega), upA_n (show 38 + 5 * s ≠ k0 by omega), upA_n (show 39 + 5 * s ≠ k0 by omega), upA_n (show 40 + 5 * s ≠ k0 by omega), upA_n (show 41 + 5 * s ≠ k0 by omega), upA_n (show 6 * (a (37 + 5 * s)).toNat ≠ k0 by omega), upA_n (show 6 * (a (39 + 5 * s)).toNat ≠ k0 by omega)]
  exact this
theorem InvP.set {a : Ar} (h : InvP a) {k0 : Nat} (hk : 36 ≤ k0) (v : Int) : InvP (upA a k0 v) := fun p hp => by
  rw [upA_n (show 6 * p ≠ k0 by omega), upA_n (show 6 * p + 1 ≠ k0 by omega), upA_n (show 6 * p + 2 ≠ k0 by omega), upA_n (show 6 * p + 3 ≠ k0 by omega), upA_n (show 6 * p + 4 ≠ k0 by omega), upA_n (show 6 * p + 5 ≠ k0 by omega)]
  exact h p hp
def inR (v a b : Int) : Int := if v < a then 0 else if b < v then 0 else 1
theorem X_in (v a b : Int) (σ : St) : Fx_isWithin v a b σ = some (inR v a b, σ) := rfl
theorem M_in (v a b : Int) (σ : St) : Fm_in v a b σ = some (inR v a b, σ) := rfl
theorem inR_0 {v a b : Int} (h : ¬ (a ≤ v ∧ v ≤ b)) : inR v a b = 0 := by
  unfold inR
  split
  · rfl
  · rw [if_pos (by omega)]
theorem inR_1 {v a b : Int} (h : a ≤ v ∧ v ≤ b) : inR v a b = 1 := by
  unfold inR
  rw [if_neg (by omega), if_neg (by omega)]
theorem inR_01 (v a b : Int) : inR v a b = 0 ∨ inR v a b = 1 := by
  by_cases h : a ≤ v ∧ v ≤ b
  · exact Or.inr (inR_1 h)
  · exact Or.inl (inR_0 h)
theorem inR_p {v a b : Int} (h : inR v a b ≠ 0) : a ≤ v ∧ v ≤ b := Classical.byContradiction fun z => h (inR_0 z)
theorem X_size (v : Int) (σ : St) : Fx_isSize v σ = some (inR v 0 2, σ) := by
  unfold Fx_isSize
  rw [X_in, gmB_s, gmG_t (inR_01 _ _ _)]
theorem M_size (v : Int) (σ : St) : Fm_isSize v σ = some (inR v 0 2, σ) := by
  unfold Fm_isSize
  rw [M_in, gmB_s, gmG_t (inR_01 _ _ _)]
theorem M_set {v : Int} {k : Nat} (hk : k < 78) (σ : St) : Fm_set k v σ = some (σ 134 k, gmUp σ 134 k v) := by
  unfold Fm_set
  rw [gmG_t (by omega), gmTN, gmL_s, gmL_s]
/-- both answer the same, and hold the same state -/
def Same (f g : St → Option (Int × St)) (σ : St) : Prop := ∃ r σ1 σ2, f σ = some (r, σ1) ∧ g σ1 = some (r, σ2) ∧ Rel σ2
theorem Same.err {f g : St → Option (Int × St)} {σ : St} {r : Int} (hR : Rel σ) (h1 : f σ = some (r, σ)) (h2 : g σ = some (r, σ)) : Same f g σ := ⟨r, σ, σ, h1, h2, hR⟩
/-- both set one number -/
theorem Same.set {f g : St → Option (Int × St)} {σ : St} {k0 : Nat} {v r : Int} (hR : Rel σ) (hk : 67 ≤ k0 ∧ k0 < 78) (h1 : f σ = some (r, gmUp σ (1 + lc k0) (lf k0) v)) (h2 : ∀ τ, g τ = some (τ 134 k0, gmUp τ 134 k0 v)) (hr : r = σ 134 k0) (hC : InvC (upA (σ 134) k0 v)) : Same f g σ := by
  have hlc := (loc_b k0 hk.2).1
  refine ⟨r, _, gmUp (gmUp σ (1 + lc k0) (lf k0) v) 134 k0 v, h1, ?_, ?_⟩
  · rw [h2, gmUp_k (by omega), hr]
  · have e : gmUp (gmUp σ (1 + lc k0) (lf k0) v) 134 k0 v 134 = upA (σ 134) k0 v := by
      rw [gmUp_fun, gmUp_k' σ (by omega)]
    refine hR.upd (fun k j q => by rw [gmUp_k (by omega), gmUp_k (by omega)]) ?_ ?_
    · rw [e]
      exact (hR.1.set hk v).fr (fun k i a b => gmUp_k (by omega))
    · rw [e]
      exact hR.2.1.set hk.1 v hC
theorem InvC.set_ra {a : Ar} (h : InvC a) {i : Nat} (hi : i < 3) {v : Int} (hv : 0 ≤ v ∧ v ≤ 2) : InvC (upA a (67 + i) v) := by
  obtain ⟨h1, h2, h3, h4, h5, h6, h7, h8⟩ := h
  refine ⟨h1.set (by omega) v, by rw [upA_n (by omega)]; exact h2, by rw [upA_n (by omega)]; exact h3, by rw [upA_n (by omega)]; exact h4, by rw [upA_n (by omega)]; exact h5, by rw [upA_n (by omega)]; exact h6, fun j hj => ?_, fun j hj => by rw [upA_n (by omega)]; exact h8 j hj⟩
  by_cases e : j = i
  · rw [e, upA_s]; exact hv
  · rw [upA_n (by omega)]; exact h7 j hj
theorem InvC.set_or {a : Ar} (h : InvC a) {i : Nat} (hi : i < 3) {v : Int} (hv : 0 ≤ v ∧ v ≤ 99) : InvC (upA a (75 + i) v) := by
  obtain ⟨h1, h2, h3, h4, h5, h6, h7, h8⟩ := h
  refine ⟨h1.set (by omega) v, by rw [upA_n (by omega)]; exact h2, by rw [upA_n (by omega)]; exact h3, by rw [upA_n (by omega)]; exact h4, by rw [upA_n (by omega)]; exact h5, by rw [upA_n (by omega)]; exact h6, fun j hj => by rw [upA_n (by omega)]; exact h7 j hj, fun j hj => ?_⟩
  by_cases e : j = i
  · rw [e, upA_s]; exact hv
  · rw [upA_n (by omega)]; exact h8 j hj
theorem InvC.set_70 {a : Ar} (h : InvC a) {v : Int} (hv : 4 ≤ v ∧ v ≤ 24) : InvC (upA a 70 v) := by
  obtain ⟨h1, h2, h3, h4, h5, h6, h7, h8⟩ := h
  exact ⟨h1.set (by omega) v, by rw [upA_s]; exact hv, by rw [upA_n (by omega)]; exact h3, by rw [upA_n (by omega)]; exact h4, by rw [upA_n (by omega)]; exact h5, by rw [upA_n (by omega)]; exact h6, fun j hj => by rw [upA_n (by omega)]; exact h7 j hj, fun j hj => by rw [upA_n (by omega)]; exact h8 j hj⟩
theorem InvC.set_71 {a : Ar} (h : InvC a) {v : Int} (hv : v = 0 ∨ v = 1) : InvC (upA a 71 v) := by
  obtain ⟨h1, h2, h3, h4, h5, h6, h7, h8⟩ := h
  exact ⟨h1.set (by omega) v, by rw [upA_n (by omega)]; exact h2, by rw [upA_s]; exact hv, by rw [upA_n (by omega)]; exact h4, by rw [upA_n (by omega)]; exact h5, by rw [upA_n (by omega)]; exact h6, fun j hj => by rw [upA_n (by omega)]; exact h7 j hj, fun j hj => by rw [upA_n (by omega)]; exact h8 j hj⟩
theorem InvC.set_72 {a : Ar} (h : InvC a) {v : Int} (hv : v = 0 ∨ v = 1) : InvC (upA a 72 v) := by
  obtain ⟨h1, h2, h3, h4, h5, h6, h7, h8⟩ := h
  exact ⟨h1.set (by omega) v, by rw [upA_n (by omega)]; exact h2, by rw [upA_n (by omega)]; exact h3, by rw [upA_s]; exact hv, by rw [upA_n (by omega)]; exact h5, by rw [upA_n (by omega)]; exact h6, fun j hj => by rw [upA_n (by omega)]; exact h7 j hj, fun j hj => by rw [upA_n (by omega)]; exact h8 j hj⟩
theorem InvC.set_73 {a : Ar} (h : InvC a) {v : Int} (hv : 0 ≤ v ∧ v ≤ 1) : InvC (upA a 73 v) := by
  obtain ⟨h1, h2, h3, h4, h5, h6, h7, h8⟩ := h
  exact ⟨h1.set (by omega) v, by rw [upA_n (by omega)]; exact h2, by rw [upA_n (by omega)]; exact h3, by rw [upA_n (by omega)]; exact h4, by rw [upA_s]; exact hv, by rw [upA_n (by omega)]; exact h6, fun j hj => by rw [upA_n (by omega)]; exact h7 j hj, fun j hj => by rw [upA_n (by omega)]; exact h8 j hj⟩
theorem InvC.set_74 {a : Ar} (h : InvC a) {v : Int} (hv : 0 ≤ v ∧ v ≤ 3) : InvC (upA a 74 v) := by
  obtain ⟨h1, h2, h3, h4, h5, h6, h7, h8⟩ := h
  exact ⟨h1.set (by omega) v, by rw [upA_n (by omega)]; exact h2, by rw [upA_n (by omega)]; exact h3, by rw [upA_n (by omega)]; exact h4, by rw [upA_n (by omega)]; exact h5, by rw [upA_s]; exact hv, fun j hj => by rw [upA_n (by omega)]; exact h7 j hj, fun j hj => by rw [upA_n (by omega)]; exact h8 j hj⟩
theorem Op_setRatio {σ : St} (hR : Rel σ) (a0 a1 : Int) : Same (Fx_setRatio a0 a1) (Fm_setRatio a0 a1) σ := by
  by_cases h0 : 0 ≤ a0 ∧ a0 ≤ 2
  · obtain ⟨i, hi, rfl⟩ : ∃ i : Nat, i < 3 ∧ a0 = i := ⟨a0.toNat, by omega, by omega⟩
    by_cases h1 : 0 ≤ a1 ∧ a1 ≤ 2
    · refine Same.set (k0 := 67 + i) (v := a1) (r := σ 134 (67 + i)) hR (by omega) ?_ (fun τ => ?_) rfl (hR.2.1.1.set_ra hi h1)
      · unfold Fx_setRatio
        rw [X_size, gmB_s, inR_1 h0, if_neg (by decide), X_in, gmB_s, inR_1 h1, if_neg (by decide), gmG_t (by omega), gmTN, gmL_s, gmL_s, hR.1.ra i hi]
        rcases (by omega : i = 0 ∨ i = 1 ∨ i = 2) with rfl | rfl | rfl <;> rfl
      · unfold Fm_setRatio
        rw [M_size, gmB_s, inR_1 h0, if_neg (by decide), M_in, gmB_s, inR_1 h1, if_neg (by decide), gmG_t ⟨by omega, by omega⟩, show (67 : Int) + (i : Int) = ((67 + i : Nat) : Int) by omega, M_set (by omega), gmB_s]
    · refine Same.err (r := -1005) hR ?_ ?_
      · unfold Fx_setRatio
        rw [X_size, gmB_s, inR_1 h0, if_neg (by decide), X_in, gmB_s, inR_0 h1, if_pos rfl]
      · unfold Fm_setRatio
        rw [M_size, gmB_s, inR_1 h0, if_neg (by decide), M_in, gmB_s, inR_0 h1, if_pos rfl]
  · refine Same.err (r := -1002) hR ?_ ?_
    · unfold Fx_setRatio
      rw [X_size, gmB_s, inR_0 h0, if_pos rfl]
    · unfold Fm_setRatio
      rw [M_size, gmB_s, inR_0 h0, if_pos rfl]
theorem RepS.orr {σ : St} {a : Ar} (h : RepS σ 1 a) : ∀ i, i < 3 → σ 17 i = a (75 + i) := h.c.2.2.2.2.2.2
theorem Op_setOrdered {σ : St} (hR : Rel σ) (a0 a1 : Int) : Same (Fx_setOrdered a0 a1) (Fm_setOrdered a0 a1) σ := by
  by_cases h0 : 0 ≤ a0 ∧ a0 ≤ 2
  · obtain ⟨i, hi, rfl⟩ : ∃ i : Nat, i < 3 ∧ a0 = i := ⟨a0.toNat, by omega, by omega⟩
    by_cases h1 : 0 ≤ a1 ∧ a1 ≤ 99
    · refine Same.set (k0 := 75 + i) (v := a1) (r := σ 134 (75 + i)) hR (by omega) ?_ (fun τ => ?_) rfl (hR.2.1.1.set_or hi h1)
      · unfold Fx_setOrdered
        rw [X_size, gmB_s, inR_1 h0, if_neg (by decide), X_in, gmB_s, inR_1 h1, if_neg (by decide), gmG_t (by omega), gmTN, gmL_s, gmL_s, hR.1.orr i hi]
        rcases (by omega : i = 0 ∨ i = 1 ∨ i = 2) with rfl | rfl | rfl <;> rfl
      · unfold Fm_setOrdered
        rw [M_size, gmB_s, inR_1 h0, if_neg (by decide), M_in, gmB_s, inR_1 h1, if_neg (by decide), gmG_t ⟨by omega, by omega⟩, show (75 : Int) + (i : Int) = ((75 + i : Nat) : Int) by omega, M_set (by omega), gmB_s]
    · refine Same.err (r := -1005) hR ?_ ?_
      · unfold Fx_setOrdered
        rw [X_size, gmB_s, inR_1 h0, if_neg (by decide), X_in, gmB_s, inR_0 h1, if_pos rfl]
      · unfold Fm_setOrdered
        rw [M_size, gmB_s, inR_1 h0, if_neg (by decide), M_in, gmB_s, inR_0 h1, if_pos rfl]
  · refine Same.err (r := -1002) hR ?_ ?_
    · unfold Fx_setOrdered
      rw [X_size, gmB_s, inR_0 h0, if_pos rfl]
    · unfold Fm_setOrdered
      rw [M_size, gmB_s, inR_0 h0, if_pos rfl]
theorem Op_setClothWidth {σ : St} (hR : Rel σ) (a0 : Int) : Same (Fx_setClothWidth a0) (Fm_setClothWidth a0) σ := by
  by_cases h0 : 4 ≤ a0 ∧ a0 ≤ 24
  · refine Same.set (k0 := 70) (v := a0) (r := σ 134 70) hR (by omega) ?_ (fun τ => ?_) rfl (hR.2.1.1.set_70 h0)
    · unfold Fx_setClothWidth
      rw [X_in, gmB_s, inR_1 h0, if_neg (by decide), gmL_s, gmL_s, hR.1.c.2.1]
      rfl
    · unfold Fm_setClothWidth
      rw [M_in, gmB_s, inR_1 h0, if_neg (by decide), show (70 : Int) = ((70 : Nat) : Int) from rfl, M_set (by omega), gmB_s]
  · refine Same.err (r := -1005) hR ?_ ?_
    · unfold Fx_setClothWidth
      rw [X_in, gmB_s, inR_0 h0, if_pos rfl]
    · unfold Fm_setClothWidth
      rw [M_in, gmB_s, inR_0 h0, if_pos rfl]
theorem Op_setFolded {σ : St} (hR : Rel σ) {a0 : Int} (h0 : a0 = 0 ∨ a0 = 1) : Same (Fx_setFolded a0) (Fm_setFolded a0) σ := by
  have h71 := hR.2.1.1.2.2.1
  have hx : σ 1 6 = σ 134 71 := hR.1.c.2.2.1
  have e0 : (if a0 = 0 then (0 : Int) else 1) = a0 := by rcases h0 with h | h <;> rw [h] <;> rfl
  have e1 : ∀ z : Int, z = 0 ∨ z = 1 → (if z = 1 then (1 : Int) else 0) = z := fun z h => by rcases h with h | h <;> rw [h] <;> rfl
  refine ⟨σ 134 71, gmUp σ 1 6 a0, gmUp (gmUp σ 1 6 a0) 134 71 a0, ?_, ?_, ?_⟩
  · unfold Fx_setFolded
    rw [hx, gmL_s, gmG_t h0, gmL_s, gmG_t h71]
  · unfold Fm_setFolded
    rw [e0, show (71 : Int) = ((71 : Nat) : Int) from rfl, M_set (by omega), gmB_s, gmUp_k (by decide), e1 _ h71]
  · have e : gmUp (gmUp σ 1 6 a0) 134 71 a0 134 = upA (σ 134) 71 a0 := by rw [gmUp_fun, gmUp_k' σ (by omega)]
    refine hR.upd (fun k j q => by rw [gmUp_k (by omega), gmUp_k (by omega)]) ?_ ?_
    · rw [e]
      exact (hR.1.set (k0 := 71) (by omega) a0).fr (fun k i a b => gmUp_k (by omega))
    · rw [e]
      exact hR.2.1.set (by omega) a0 (hR.2.1.1.set_71 h0)
theorem Op_setRotation {σ : St} (hR : Rel σ) {a0 : Int} (h0 : a0 = 0 ∨ a0 = 1) : Same (Fx_setRotation a0) (Fm_setRotation a0) σ := by
  have h71 := hR.2.1.1.2.2.2.1
  have hx : σ 1 7 = σ 134 72 := hR.1.c.2.2.2.1
  have e0 : (if a0 = 0 then (0 : Int) else 1) = a0 := by rcases h0 with h | h <;> rw [h] <;> rfl
  have e1 : ∀ z : Int, z = 0 ∨ z = 1 → (if z = 1 then (1 : Int) else 0) = z := fun z h => by rcases h with h | h <;> rw [h] <;> rfl
  refine ⟨σ 134 72, gmUp σ 1 7 a0, gmUp (gmUp σ 1 7 a0) 134 72 a0, ?_, ?_, ?_⟩
  · unfold Fx_setRotation
    rw [hx, gmL_s, gmG_t h0, gmL_s, gmG_t h71]
  · unfold Fm_setRotation
    rw [e0, show (72 : Int) = ((72 : Nat) : Int) from rfl, M_set (by omega), gmB_s, gmUp_k (by decide), e1 _ h71]
  · have e : gmUp (gmUp σ 1 7 a0) 134 72 a0 134 = upA (σ 134) 72 a0 := by rw [gmUp_fun, gmUp_k' σ (by omega)]
    refine hR.upd (fun k j q => by rw [gmUp_k (by omega), gmUp_k (by omega)]) ?_ ?_
    · rw [e]
      exact (hR.1.set (k0 := 72) (by omega) a0).fr (fun k i a b => gmUp_k (by omega))
    · rw [e]
      exact hR.2.1.set (by omega) a0 (hR.2.1.1.set_72 h0)
def inPk (m b : Int) : Int := if inR m 0 1 = 0 then 0 else if inR b 0 3 = 0 then 0 else 1
theorem X_isPk (m b : Int) (σ : St) : Fx_isPacking m b σ = some (inPk m b, σ) := by
  unfold Fx_isPacking inPk
  rw [X_in, gmB_s]
  split
  · rfl
  · rw [X_in, gmB_s]
theorem M_isPk (m b : Int) (σ : St) : Fm_isPacking m b σ = some (inPk m b, σ) := by
  unfold Fm_isPacking inPk
  rw [M_in, gmB_s]
  split
  · rfl
  · rw [M_in, gmB_s]
theorem inPk_1 {m b : Int} (h : (0 ≤ m ∧ m ≤ 1) ∧ (0 ≤ b ∧ b ≤ 3)) : inPk m b = 1 := by
  unfold inPk
  rw [inR_1 h.1, inR_1 h.2]
  rfl
theorem inPk_0 {m b : Int} (h : ¬ ((0 ≤ m ∧ m ≤ 1) ∧ (0 ≤ b ∧ b ≤ 3))) : inPk m b = 0 := by
  unfold inPk
  by_cases h1 : 0 ≤ m ∧ m ≤ 1
  · rw [inR_1 h1, if_neg (by decide), inR_0 (fun z => h ⟨h1, z⟩), if_pos rfl]
  · rw [inR_0 h1, if_pos rfl]
theorem Op_setPacking {σ : St} (hR : Rel σ) (a0 a1 : Int) : Same (Fx_setPacking a0 a1) (Fm_setPacking a0 a1) σ := by
  by_cases h0 : (0 ≤ a0 ∧ a0 ≤ 1) ∧ (0 ≤ a1 ∧ a1 ≤ 3)
  · have i73 := hR.2.1.1.2.2.2.2.1
    have i74 := hR.2.1.1.2.2.2.2.2.1
    have x8 : σ 1 8 = σ 134 73 := hR.1.c.2.2.2.2.1
    have x9 : σ 1 9 = σ 134 74 := hR.1.c.2.2.2.2.2.1
    refine ⟨10 * σ 134 73 + σ 134 74, gmUp (gmUp σ 1 8 a0) 1 9 a1, gmUp (gmUp (gmUp (gmUp σ 1 8 a0) 1 9 a1) 134 73 a0) 134 74 a1, ?_, ?_, ?_⟩
    · unfold Fx_setPacking Fx_packingNumber
      rw [X_isPk, gmB_s, inPk_1 h0, if_neg (by decide), x8, x9, gmG_t ⟨by omega, by omega⟩, gmB_s, gmL_s, gmL_s]
    · unfold Fm_setPacking
      rw [M_isPk, gmB_s, inPk_1 h0, if_neg (by decide), gmUp_k (by decide), gmUp_k (by decide), gmUp_k (by decide), gmUp_k (by decide), gmL_s, gmL_s, gmL_s, gmG_t ⟨by omega, by omega⟩]
    · have e : gmUp (gmUp (gmUp (gmUp σ 1 8 a0) 1 9 a1) 134 73 a0) 134 74 a1 134 = upA (upA (σ 134) 73 a0) 74 a1 := by
        rw [gmUp_fun, gmUp_fun, gmUp_k' (gmUp σ 1 8 a0) (by omega), gmUp_k' σ (by omega)]
      refine hR.upd (fun k j q => by rw [gmUp_k (by omega), gmUp_k (by omega), gmUp_k (by omega), gmUp_k (by omega)]) ?_ ?_
      · rw [e]
        exact ((hR.1.set (k0 := 73) (by omega) a0).set (k0 := 74) (by omega) a1).fr (fun k i a b => by rw [gmUp_k (by omega), gmUp_k (by omega)]; rfl)
      · rw [e]
        have h73 := hR.2.1.set (k0 := 73) (by omega) a0 (hR.2.1.1.set_73 h0.1)
        exact h73.set (k0 := 74) (by omega) a1 (h73.1.set_74 h0.2)
  · refine Same.err (r := -1005) hR ?_ ?_
    · unfold Fx_setPacking
      rw [X_isPk, gmB_s, inPk_0 h0, if_pos rfl]
    · unfold Fm_setPacking
      rw [M_isPk, gmB_s, inPk_0 h0, if_pos rfl]
theorem Op_ratio {σ : St} (hR : Rel σ) (a0 : Int) : Same (Fx_ratio a0) (Fm_ratio a0) σ := by
  by_cases h0 : 0 ≤ a0 ∧ a0 ≤ 2
  · obtain ⟨i, hi, rfl⟩ : ∃ i : Nat, i < 3 ∧ a0 = i := ⟨a0.toNat, by omega, by omega⟩
    refine Same.err (r := σ 134 (67 + i)) hR ?_ ?_
    · unfold Fx_ratio
      rw [X_size, gmB_s, inR_1 h0, gmG_t (fun _ => by omega), if_neg (by decide), gmTN, hR.1.ra i hi]
    · unfold Fm_ratio
      rw [M_size, gmB_s, inR_1 h0, gmG_t (fun _ => by omega), if_neg (by decide), show ((67 : Int) + (i : Int)).toNat = 67 + i by omega]
  · refine Same.err (r := -1002) hR ?_ ?_
    · unfold Fx_ratio
      rw [X_size, gmB_s, inR_0 h0, gmG_t (fun z => absurd rfl z), if_pos rfl]
    · unfold Fm_ratio
      rw [M_size, gmB_s, inR_0 h0, gmG_t (fun z => absurd rfl z), if_pos rfl]
theorem Op_seamCount {σ : St} (hR : Rel σ) : Same Fx_seamCount Fm_seamCount σ := by
  refine Same.err (r := σ 134 36) hR ?_ rfl
  unfold Fx_seamCount
  have : σ 1 2 = σ 134 36 := hR.1.hi (k := 36) (by omega)
  rw [this]
