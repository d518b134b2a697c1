/-! LOOKS AT THE PARTS, both -/
theorem Same.look {f g : St → Option (Int × St)} {σ : St} {r : Int} (hR : Rel σ) (h1 : ∃ σ1, f σ = some (r, σ1) ∧ Qu σ σ1) (h2 : ∀ τ, Qu σ τ → ∃ τ', g τ = some (r, τ') ∧ Qu τ τ') : Same f g σ := by
  obtain ⟨σ1, e1, q1⟩ := h1
  obtain ⟨σ2, e2, q2⟩ := h2 σ1 q1
  exact ⟨r, σ1, σ2, e1, e2, (q1.tr q2).rel hR⟩
theorem X_mk16 {σ : St} (hR : Rel σ) : ∃ σ1, Fk_makeParts 16 σ = some σ1 ∧ HX σ1 (pts (σ 134)) ∧ FrX σ σ1 ∧ σ1 54 2 = strip (σ 134) := X_makeParts (Or.inl rfl) hR.1.ra hR.1.c hR.2.1.1
theorem X_has {σ : St} {L : List PT} (hX : HX σ L) (hl : L.length ≤ 72) (v : Int) : Fk_has v σ = some (inR v 0 ((L.length : Int) - 1), σ) := by
  unfold Fk_has
  rw [hX.1, gmG_t ⟨by omega, by omega⟩, X_in, gmB_s, gmG_t (inR_01 _ _ _)]
theorem M_part {τ : St} {a : Ar} (hA : τ 134 = a) (hI : InvC a) (v : Int) : ∃ τ', Fm_isPart v τ = some (inR v 0 (((pts a).length : Int) - 1), τ') ∧ HM τ' (pts a) ∧ FrM τ τ' := by
  have hl := pts_len hI
  obtain ⟨τ', e, h, f⟩ := M_layParts hA hI
  refine ⟨τ', ?_, h, f⟩
  unfold Fm_isPart
  rw [e, gmBv_s, h.1, gmG_t ⟨by omega, by omega⟩, M_in, gmB_s, gmG_t (inR_01 _ _ _)]
theorem Op_partCount {σ : St} (hR : Rel σ) : Same Fx_partCount Fm_partCount σ := by
  obtain ⟨σ1, e1, h1, f1, w1⟩ := X_mk16 hR
  refine Same.look (r := (pts (σ 134)).length) hR ⟨σ1, ?_, f1.qu⟩ (fun τ q => ?_)
  · unfold Fx_partCount
    rw [e1, gmBv_s, h1.1]
  · obtain ⟨τ', e2, h2, f2⟩ := M_layParts q.ar hR.2.1.1
    refine ⟨τ', ?_, f2.qu⟩
    unfold Fm_partCount
    rw [e2, gmBv_s, h2.1]
theorem Op_fld {σ : St} (hR : Rel σ) (a0 : Int) (F G : Nat) (fx : PT → Int) (hx : ∀ τ L, HX τ L → ∀ j, j < L.length → τ (56 + j) F = fx (pq L j)) (hm : ∀ τ L, HM τ L → ∀ j, j < L.length → τ G j = fx (pq L j)) : Same (fun σ => gmBv (Fk_makeParts 16 σ) (fun s1 => gmB (Fk_has a0 s1) (fun r3 s2 => gmG ((¬ r3 = 0) → 0 ≤ a0 ∧ a0 < 72) (some ((if r3 = 0 then (-1004) else (s2 (gmTg 55 (a0).toNat) F)), s2))))) (fun σ => gmB (Fm_isPart a0 σ) (fun r2 s1 => gmG ((¬ r2 = 0) → 0 ≤ a0 ∧ a0 < 72) (some ((if r2 = 0 then (-1004) else (s1 G (a0).toNat)), s1)))) σ := by
  have hl := pts_len hR.2.1.1
  obtain ⟨σ1, e1, h1, f1, w1⟩ := X_mk16 hR
  by_cases h0 : 0 ≤ a0 ∧ a0 ≤ ((pts (σ 134)).length : Int) - 1
  · obtain ⟨j, hj, rfl⟩ : ∃ j : Nat, j < (pts (σ 134)).length ∧ a0 = j := ⟨a0.toNat, by omega, by omega⟩
    refine Same.look (r := fx (pq (pts (σ 134)) j)) hR ⟨σ1, ?_, f1.qu⟩ (fun τ q => ?_)
    · show gmBv (Fk_makeParts 16 σ) _ = _
      rw [e1, gmBv_s, X_has h1 hl, gmB_s, inR_1 h0, gmG_t (fun _ => by omega), if_neg (by decide), gmTN, gmTg_55, hx σ1 _ h1 j hj]
    · obtain ⟨τ', e2, h2, f2⟩ := M_part q.ar hR.2.1.1 (j : Int)
      refine ⟨τ', ?_, f2.qu⟩
      show gmB (Fm_isPart (j : Int) τ) _ = _
      rw [e2, gmB_s, inR_1 h0, gmG_t (fun _ => by omega), if_neg (by decide), gmTN, hm τ' _ h2 j hj]
  · refine Same.look (r := -1004) hR ⟨σ1, ?_, f1.qu⟩ (fun τ q => ?_)
    · show gmBv (Fk_makeParts 16 σ) _ = _
      rw [e1, gmBv_s, X_has h1 hl, gmB_s, inR_0 h0, gmG_t (fun z => absurd rfl z), if_pos rfl]
    · obtain ⟨τ', e2, h2, f2⟩ := M_part q.ar hR.2.1.1 a0
      refine ⟨τ', ?_, f2.qu⟩
      show gmB (Fm_isPart a0 τ) _ = _
      rw [e2, gmB_s, inR_0 h0, gmG_t (fun z => absurd rfl z), if_pos rfl]
theorem Op_partSize {σ : St} (hR : Rel σ) (a0 : Int) : Same (Fx_partSize a0) (Fm_partSize a0) σ := Op_fld hR a0 0 137 (fun q => q.1) (fun _ _ h j hj => (h.2 j _ (pq_at hj)).1) (fun _ _ h j hj => (h.2 j _ (pq_at hj)).1)
theorem Op_partPiece {σ : St} (hR : Rel σ) (a0 : Int) : Same (Fx_partPiece a0) (Fm_partPiece a0) σ := Op_fld hR a0 1 138 (fun q => q.2.1) (fun _ _ h j hj => (h.2 j _ (pq_at hj)).2.1) (fun _ _ h j hj => (h.2 j _ (pq_at hj)).2.1)
theorem Op_partAlongExtent {σ : St} (hR : Rel σ) (a0 : Int) : Same (Fx_partAlongExtent a0) (Fm_partAlongExtent a0) σ := Op_fld hR a0 3 140 (fun q => q.2.2.2.1) (fun _ _ h j hj => (h.2 j _ (pq_at hj)).2.2.2.1) (fun _ _ h j hj => (h.2 j _ (pq_at hj)).2.2.2.1)
theorem Op_partAcrossExtent {σ : St} (hR : Rel σ) (a0 : Int) : Same (Fx_partAcrossExtent a0) (Fm_partAcrossExtent a0) σ := Op_fld hR a0 4 139 (fun q => q.2.2.2.2) (fun _ _ h j hj => (h.2 j _ (pq_at hj)).2.2.2.2) (fun _ _ h j hj => (h.2 j _ (pq_at hj)).2.2.2.2)
def fcN (L : List PT) : Nat → Int
  | 0 => 0
  | n + 1 => fcN L n + pfo L n
theorem fcN_b {L : List PT} (hO : AllOK L) : ∀ n, n ≤ L.length → 0 ≤ fcN L n ∧ fcN L n ≤ n
  | 0, _ => ⟨Int.le_refl 0, Int.le_refl 0⟩
  | n + 1, h => by
    have := fcN_b hO n (by omega)
    have := pfo_b hO (by omega : n < L.length)
    unfold fcN
    omega
theorem Op_foldPartCount {σ : St} (hR : Rel σ) : Same Fx_foldPartCount Fm_foldPartCount σ := by
  have hO := pts_all hR.2.1.1
  have hl := hO.1
  generalize hL : pts (σ 134) = L at hO hl
  have kx : ∀ (d n c : Nat) (τ : St), HX τ L → d < n → c + d = L.length → Fk_foldParts_4 n (fcN L c) c τ (fun x7 s8 => some (x7, s8)) = some (fcN L L.length, τ) := by
    intro d
    induction d with
    | zero =>
      intro n c τ hX hn hd
      obtain ⟨n, rfl⟩ : ∃ m, n = m + 1 := ⟨n - 1, by omega⟩
      obtain rfl : c = L.length := by omega
      rw [Fk_foldParts_4.eq_2, hX.1, if_pos (by omega)]
    | succ d ih =>
      intro n c τ hX hn hd
      obtain ⟨n, rfl⟩ : ∃ m, n = m + 1 := ⟨n - 1, by omega⟩
      have hb := fcN_b hO c (by omega)
      have ih := ih n (c + 1) τ hX (by omega) (by omega)
      have hf := (hX.at (by omega : c < L.length)).1
      rw [Fk_foldParts_4.eq_2, hX.1, if_neg (by omega), gmG_t (by omega), gmTN, gmTg_55, hf]
      rcases pfo_b hO (by omega : c < L.length) with h | h
      · have e : fcN L (c + 1) = fcN L c := by
          show fcN L c + pfo L c = _
          omega
        rw [e] at ih
        rw [if_pos h, gmG_t ⟨by omega, by omega⟩, show (c : Int) + 1 = ((c + 1 : Nat) : Int) by omega]
        exact ih
      · have e : fcN L (c + 1) = fcN L c + 1 := by
          show fcN L c + pfo L c = _
          omega
        rw [e] at ih
        rw [if_neg (by omega), gmG_t ⟨by omega, by omega⟩, gmG_t ⟨by omega, by omega⟩, show (c : Int) + 1 = ((c + 1 : Nat) : Int) by omega]
        exact ih
  have km : ∀ (d n c : Nat) (τ : St), HM τ L → d < n → c + d = L.length → Fm_foldPartCount_8 n (fcN L c) c τ (fun x7 s8 => some (x7, s8)) = some (fcN L L.length, τ) := by
    intro d
    induction d with
    | zero =>
      intro n c τ hX hn hd
      obtain ⟨n, rfl⟩ : ∃ m, n = m + 1 := ⟨n - 1, by omega⟩
      obtain rfl : c = L.length := by omega
      rw [Fm_foldPartCount_8.eq_2, hX.1, if_pos (by omega)]
    | succ d ih =>
      intro n c τ hX hn hd
      obtain ⟨n, rfl⟩ : ∃ m, n = m + 1 := ⟨n - 1, by omega⟩
      have hb := fcN_b hO (c + 1) (by omega)
      have ih := ih n (c + 1) τ hX (by omega) (by omega)
      have hf := (hX.at (by omega : c < L.length)).1
      have e : fcN L c + (if pfo L c = 0 then (0 : Int) else 1) = fcN L (c + 1) := by
        show _ = fcN L c + pfo L c
        rcases pfo_b hO (by omega : c < L.length) with h | h <;> rw [h] <;> rfl
      rw [Fm_foldPartCount_8.eq_2, hX.1, if_neg (by omega), gmG_t (by omega), gmTN, hf, e, gmL_s, gmG_t ⟨by omega, by omega⟩, gmG_t ⟨by omega, by omega⟩, show (c : Int) + 1 = ((c + 1 : Nat) : Int) by omega]
      exact ih
  obtain ⟨σ1, e1, h1, f1, w1⟩ := X_mk16 hR
  rw [hL] at h1
  refine Same.look (r := fcN L L.length) hR ⟨σ1, ?_, f1.qu⟩ (fun τ q => ?_)
  · unfold Fx_foldPartCount Fk_foldParts
    have := kx L.length gmN 0 σ1 h1 (by rw [gmN_e]; omega) (by omega)
    rw [e1, gmBv_s, show Fk_foldParts_4 gmN 0 0 σ1 (fun x7 s8 => some (x7, s8)) = _ from this, gmB_s]
  · obtain ⟨τ', e2, h2, f2⟩ := M_layParts q.ar hR.2.1.1
    rw [hL] at h2
    refine ⟨τ', ?_, f2.qu⟩
    unfold Fm_foldPartCount
    rw [e2, gmBv_s]
    exact km L.length gmN 0 τ' h2 (by rw [gmN_e]; omega) (by omega)
/-- what the class' looks leave -/
def FrK (σ σ' : St) : Prop := ∀ k i, (k < 54 ∨ 132 ≤ k) → σ' k i = σ k i
theorem FrK.tr {σ σ' σ'' : St} (h : FrK σ σ') (h' : FrK σ' σ'') : FrK σ σ'' := fun k i q => (h' k i q).trans (h k i q)
theorem FrX.k {σ σ' : St} (h : FrX σ σ') : FrK σ σ' := fun k i q => h k i (by omega)
theorem FrP.k {σ σ' : St} (h : FrP σ σ') : FrK σ σ' := fun k i q => h k i (by omega)
theorem FrK.qu {σ σ' : St} (h : FrK σ σ') : Qu σ σ' := fun k i q => h k i (by omega)
theorem FrK.rep {σ σ' : St} {a : Ar} (h : FrK σ σ') (hR : RepC σ a) : RepC σ' a := hR.fr (fun k i q => h k i (Or.inl q))
theorem Op_place {σ : St} (hR : Rel σ) (a0 : Int) (F G : Nat) (fx : Int × Int → Int) (hx : ∀ τ L P, PlX τ L P → ∀ j, j < L.length → τ (56 + j) F = fx (P j)) (hm : ∀ τ L P, PlM τ L P → ∀ j, j < L.length → τ G j = fx (P j)) : Same (fun σ => gmB (Fx_placeOrError a0 σ) (fun r2 s1 => gmG ((r2 = 0) → 0 ≤ a0 ∧ a0 < 72) (some ((if r2 = 0 then (s1 (gmTg 55 (a0).toNat) F) else r2), s1)))) (fun σ => gmB (Fm_isPart a0 σ) (fun r2 s1 => if r2 = 0 then some ((-1004), s1) else gmB (Fm_packNow s1) (fun r5 s4 => gmG ((¬ r5 = 0) → 0 ≤ a0 ∧ a0 < 72) (some ((if r5 = 0 then (-1007) else (s4 G (a0).toNat)), s4))))) σ := by
  have hI := hR.2.1.1
  have hl := pts_len hI
  have hw := strip_b hI
  have i74 := hI.2.2.2.2.2.1
  obtain ⟨σ1, e1, h1, f1, w1⟩ := X_mk16 hR
  by_cases h0 : 0 ≤ a0 ∧ a0 ≤ ((pts (σ 134)).length : Int) - 1
  · obtain ⟨j, hj, rfl⟩ : ∃ j : Nat, j < (pts (σ 134)).length ∧ a0 = j := ⟨a0.toNat, by omega, by omega⟩
    obtain ⟨r, σ2, e2, l2, f2, p2⟩ := X_lengthPacked (b := σ1 1 9) (m := σ1 1 8) (pts_all hI) (by omega) hw.2 h1 w1
    have r8 : σ1 1 8 = σ 134 73 := by rw [f1 1 8 (by omega)]; exact hR.1.c.2.2.2.2.1
    have r9 : σ1 1 9 = σ 134 74 := by rw [f1 1 9 (by omega)]; exact hR.1.c.2.2.2.2.2.1
    have eX : Fx_placeOrError (j : Int) σ = some (if r = -1007 then -1007 else 0, σ2) := by
      unfold Fx_placeOrError
      rw [e1, gmBv_s, X_has h1 hl, gmB_s, inR_1 h0, if_neg (by decide), e2, gmB_s]
    have q2 : Qu σ σ2 := f1.qu.tr f2.qu
    have eM : ∀ τ, Qu σ τ → ∃ r τ1 τ', Fm_isPart (j : Int) τ = some (1, τ1) ∧ Fm_packNow τ1 = some (r, τ') ∧ Qu τ τ' ∧ ((layO (pts (σ 134)) (strip (σ 134)) ∧ r = 1 ∧ ∃ P, PosP (pts (σ 134)) (strip (σ 134)) (σ 134 74) (σ 134 73) P ∧ PlM τ' (pts (σ 134)) P ∧ ∀ j, j < (pts (σ 134)).length → 0 ≤ (P j).1 ∧ (P j).1 + pal (pts (σ 134)) j ≤ 1296) ∨ (¬ layO (pts (σ 134)) (strip (σ 134)) ∧ r = 0)) := fun τ q => by
      obtain ⟨τ1, a1, a2, a3⟩ := M_part q.ar hI (j : Int)
      obtain ⟨r, τ2, b1, b2, b3, b4⟩ := M_pack (m := σ 134 73) i74 (a3.q.ar q.ar) hI
      refine ⟨r, τ1, τ2, by rw [a1, inR_1 h0], ?_, a3.qu.tr b3.qu, b4⟩
      unfold Fm_packNow
      rw [a3.q.ar q.ar, b1, gmB_s, gmG_t (by rcases b4 with ⟨-, z, -⟩ | ⟨-, z⟩ <;> omega)]
    by_cases hlay : layO (pts (σ 134)) (strip (σ 134))
    · obtain ⟨P, P1, P2⟩ := p2 hlay
      have hr : ¬ r = -1007 := fun z => l2.lay.mp z hlay
      refine Same.look (r := fx (P j)) hR ⟨σ2, ?_, q2⟩ (fun τ q => ?_)
      · show gmB (Fx_placeOrError (j : Int) σ) _ = _
        rw [eX, if_neg hr, gmB_s, gmG_t (fun _ => by omega), if_pos rfl, gmTN, gmTg_55, hx σ2 _ P P2 j hj]
      · obtain ⟨r', τ1, τ2, b1, b2, b3, b4⟩ := eM τ q
        refine ⟨τ2, ?_, b3⟩
        show gmB (Fm_isPart (j : Int) τ) _ = _
        rcases b4 with ⟨-, rfl, P', c1, c2, -⟩ | ⟨z, -⟩
        · rw [r8, r9] at P1
          rw [b1, gmB_s, if_neg (by decide), b2, gmB_s, gmG_t (fun _ => by omega), if_neg (by decide), gmTN, hm τ2 _ P' c2 j hj, P1.uniq c1 j hj]
        · exact absurd hlay z
    · have hr : r = -1007 := l2.lay.mpr hlay
      refine Same.look (r := -1007) hR ⟨σ2, ?_, q2⟩ (fun τ q => ?_)
      · show gmB (Fx_placeOrError (j : Int) σ) _ = _
        rw [eX, if_pos hr, gmB_s, gmG_t (fun z => absurd z (by decide)), if_neg (by decide)]
      · obtain ⟨r', τ1, τ2, b1, b2, b3, b4⟩ := eM τ q
        refine ⟨τ2, ?_, b3⟩
        show gmB (Fm_isPart (j : Int) τ) _ = _
        rcases b4 with ⟨z, -⟩ | ⟨-, rfl⟩
        · exact absurd z hlay
        · rw [b1, gmB_s, if_neg (by decide), b2, gmB_s, gmG_t (fun z => absurd rfl z), if_pos rfl]
  · refine Same.look (r := -1004) hR ⟨σ1, ?_, f1.qu⟩ (fun τ q => ?_)
    · show gmB (Fx_placeOrError a0 σ) _ = _
      unfold Fx_placeOrError
      rw [e1, gmBv_s, X_has h1 hl, gmB_s, inR_0 h0, if_pos rfl, gmB_s, gmG_t (fun z => absurd z (by decide)), if_neg (by decide)]
    · obtain ⟨τ', e2, h2, f2⟩ := M_part q.ar hI a0
      refine ⟨τ', ?_, f2.qu⟩
      show gmB (Fm_isPart a0 τ) _ = _
      rw [e2, gmB_s, inR_0 h0, if_pos rfl]
theorem Op_partAlong {σ : St} (hR : Rel σ) (a0 : Int) : Same (Fx_partAlong a0) (Fm_partAlong a0) σ := Op_place hR a0 5 143 (fun q => q.1) (fun _ _ _ h j hj => (h j hj).1) (fun _ _ _ h j hj => (h j hj).1)
theorem Op_partAcross {σ : St} (hR : Rel σ) (a0 : Int) : Same (Fx_partAcross a0) (Fm_partAcross a0) σ := Op_place hR a0 6 144 (fun q => q.2) (fun _ _ _ h j hj => (h j hj).2.1) (fun _ _ _ h j hj => (h j hj).2)
