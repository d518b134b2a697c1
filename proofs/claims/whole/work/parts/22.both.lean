/-! PIECES AND SEAMS, both
-/
def dfd (a : Ar) (v : Int) : Int := if inR v 0 5 = 0 then 0 else if a (6 * v.toNat) = 1 then 1 else 0
theorem dfd_p {a : Ar} {v : Int} (h : ¬ dfd a v = 0) : ∃ p : Nat, p < 6 ∧ v = p ∧ a (6 * p) = 1 := by
  unfold dfd at h
  by_cases h1 : inR v 0 5 = 0
  · rw [if_pos h1] at h
    exact absurd rfl h
  · rw [if_neg h1] at h
    have := inR_p h1
    by_cases h2 : a (6 * v.toNat) = 1
    · exact ⟨v.toNat, by omega, by omega, h2⟩
    · rw [if_neg h2] at h
      exact absurd rfl h
theorem X_dfd {σ : St} {a : Ar} (hR : RepC σ a) (hI : InvP a) (v : Int) : Ft_isDefined v σ = some (dfd a v, σ) := by
  unfold Ft_isDefined dfd
  rw [X_in, gmB_s]
  by_cases h1 : inR v 0 5 = 0
  · rw [if_pos h1, if_pos h1, gmG_t (fun z => absurd h1 z)]
  · have := inR_p h1
    obtain ⟨p, hp, rfl⟩ : ∃ p : Nat, p < 6 ∧ v = p := ⟨v.toNat, by omega, by omega⟩
    rw [if_neg h1, if_neg h1, gmG_t (fun _ => by omega), gmTN, gmTg_2, (hR.1 p hp).1]
    rcases (hI p hp).1 with h | h
    · rw [h, if_pos rfl, if_neg (by decide)]
    · rw [h, if_neg (by decide), if_pos rfl]
theorem M_dfd {σ : St} {a : Ar} (hA : σ 134 = a) (v : Int) : Fm_isPiece v σ = some (dfd a v, σ) := by
  unfold Fm_isPiece dfd
  rw [M_in, gmB_s]
  by_cases h1 : inR v 0 5 = 0
  · rw [if_pos h1, if_pos h1, gmG_t (fun z => absurd h1 z)]
  · have := inR_p h1
    obtain ⟨p, hp, rfl⟩ : ∃ p : Nat, p < 6 ∧ v = p := ⟨v.toNat, by omega, by omega⟩
    rw [if_neg h1, if_neg h1, gmG_t (fun _ => by omega), hA, gmTN, show ((0 : Int) + (6 * (p : Int))).toNat = 6 * p by omega]
theorem Op_side {σ : St} (hR : Rel σ) (a0 a1 : Int) : Same (Fx_pieceWidth a0 a1) (Fm_pieceWidth a0 a1) σ ∧ Same (Fx_pieceLength a0 a1) (Fm_pieceLength a0 a1) σ := by
  have hC := hR.1.c
  have hP := hR.2.1.1.1
  by_cases hd : dfd (σ 134) a0 = 0
  · constructor
    · refine Same.err (r := -1001) hR ?_ ?_
      · unfold Fx_pieceWidth Fx_sideOrError
        rw [X_dfd hC hP, gmB_s, hd, if_pos rfl, gmB_s]
      · unfold Fm_pieceWidth
        rw [M_dfd rfl, gmB_s, hd, if_pos rfl]
    · refine Same.err (r := -1001) hR ?_ ?_
      · unfold Fx_pieceLength Fx_sideOrError
        rw [X_dfd hC hP, gmB_s, hd, if_pos rfl, gmB_s]
      · unfold Fm_pieceLength
        rw [M_dfd rfl, gmB_s, hd, if_pos rfl]
  · obtain ⟨p, hp, rfl, hdp⟩ := dfd_p hd
    by_cases h1 : 0 ≤ a1 ∧ a1 ≤ 2
    · obtain ⟨s, hs, rfl⟩ : ∃ s : Nat, s < 3 ∧ a1 = s := ⟨a1.toNat, by omega, by omega⟩
      obtain ⟨x1, x2⟩ := X_sideIn hC hP hs hp hdp
      obtain ⟨m1, m2⟩ := M_sideOf (σ := σ) rfl hP hs hp hdp
      constructor
      · refine Same.err (r := wdt (σ 134) s p) hR ?_ ?_
        · unfold Fx_pieceWidth Fx_sideOrError
          rw [X_dfd hC hP, gmB_s, if_neg hd, X_size, gmB_s, inR_1 h1, if_neg (by decide), gmG_t (by omega), gmTN, gmTg_2, x1, gmB_s, gmB_s]
        · unfold Fm_pieceWidth
          rw [M_dfd rfl, gmB_s, if_neg hd, M_size, gmB_s, inR_1 h1, if_neg (by decide), m1, gmB_s]
      · refine Same.err (r := lgt (σ 134) s p) hR ?_ ?_
        · unfold Fx_pieceLength Fx_sideOrError
          rw [X_dfd hC hP, gmB_s, if_neg hd, X_size, gmB_s, inR_1 h1, if_neg (by decide), gmG_t (by omega), gmTN, gmTg_2, x2, gmB_s, gmB_s]
        · unfold Fm_pieceLength
          rw [M_dfd rfl, gmB_s, if_neg hd, M_size, gmB_s, inR_1 h1, if_neg (by decide), m2, gmB_s]
    · constructor
      · refine Same.err (r := -1002) hR ?_ ?_
        · unfold Fx_pieceWidth Fx_sideOrError
          rw [X_dfd hC hP, gmB_s, if_neg hd, X_size, gmB_s, inR_0 h1, if_pos rfl, gmB_s]
        · unfold Fm_pieceWidth
          rw [M_dfd rfl, gmB_s, if_neg hd, M_size, gmB_s, inR_0 h1, if_pos rfl]
      · refine Same.err (r := -1002) hR ?_ ?_
        · unfold Fx_pieceLength Fx_sideOrError
          rw [X_dfd hC hP, gmB_s, if_neg hd, X_size, gmB_s, inR_0 h1, if_pos rfl, gmB_s]
        · unfold Fm_pieceLength
          rw [M_dfd rfl, gmB_s, if_neg hd, M_size, gmB_s, inR_0 h1, if_pos rfl]
def cntP (a : Ar) : Nat → Int
  | 0 => 0
  | n + 1 => cntP a n + a (6 * n)
theorem cntP_b {a : Ar} (hI : InvP a) : ∀ n, n ≤ 6 → 0 ≤ cntP a n ∧ cntP a n ≤ n
  | 0, _ => ⟨Int.le_refl 0, Int.le_refl 0⟩
  | n + 1, h => by
    have := cntP_b hI n (by omega)
    have := (hI n (by omega)).1
    unfold cntP
    omega
theorem X_cnt {σ : St} {a : Ar} (hR : RepC σ a) (hI : InvP a) : Ft_definedPieces σ = some (cntP a 6, σ) := by
  have key : ∀ (d n c : Nat), d < n → c + d = 6 → Ft_definedPieces_4 n (cntP a c) c σ (fun x7 s8 => some (x7, s8)) = some (cntP a 6, σ) := by
    intro d
    induction d with
    | zero =>
      intro n c hn hd
      obtain ⟨n, rfl⟩ : ∃ m, n = m + 1 := ⟨n - 1, by omega⟩
      rw [Ft_definedPieces_4.eq_2, if_pos (by omega)]
      have : c = 6 := by omega
      rw [this]
    | succ d ih =>
      intro n c hn hd
      obtain ⟨n, rfl⟩ : ∃ m, n = m + 1 := ⟨n - 1, by omega⟩
      have hb := cntP_b hI c (by omega)
      have ih := ih n (c + 1) (by omega) (by omega)
      rw [Ft_definedPieces_4.eq_2, if_neg (by omega), gmG_t (by omega), gmTN, gmTg_2, (hR.1 c (by omega)).1]
      rcases (hI c (by omega)).1 with h | h
      · have e : cntP a (c + 1) = cntP a c := by
          show cntP a c + a (6 * c) = _
          omega
        rw [e] at ih
        rw [if_pos h, gmG_t ⟨by omega, by omega⟩, show (c : Int) + 1 = ((c + 1 : Nat) : Int) by omega]
        exact ih
      · have e : cntP a (c + 1) = cntP a c + 1 := by
          show cntP a c + a (6 * c) = _
          omega
        rw [e] at ih
        rw [if_neg (by omega), gmG_t ⟨by omega, by omega⟩, gmG_t ⟨by omega, by omega⟩, show (c : Int) + 1 = ((c + 1 : Nat) : Int) by omega]
        exact ih
  unfold Ft_definedPieces
  exact key 6 gmN 0 (by rw [gmN_e]; omega) (by omega)
theorem M_cnt {σ : St} {a : Ar} (hA : σ 134 = a) (hI : InvP a) : Fm_definePiece_142 gmN 0 0 σ (fun x37 s38 => some (x37, s38)) = some (cntP a 6, σ) := by
  have key : ∀ (d n c : Nat), d < n → c + d = 6 → Fm_definePiece_142 n (cntP a c) c σ (fun x37 s38 => some (x37, s38)) = some (cntP a 6, σ) := by
    intro d
    induction d with
    | zero =>
      intro n c hn hd
      obtain ⟨n, rfl⟩ : ∃ m, n = m + 1 := ⟨n - 1, by omega⟩
      rw [Fm_definePiece_142.eq_2, if_pos (by omega)]
      have : c = 6 := by omega
      rw [this]
    | succ d ih =>
      intro n c hn hd
      obtain ⟨n, rfl⟩ : ∃ m, n = m + 1 := ⟨n - 1, by omega⟩
      have hb := cntP_b hI c (by omega)
      have h01 := (hI c (by omega)).1
      rw [Fm_definePiece_142.eq_2, if_neg (by omega), gmG_t (by omega), show ((0 : Int) + (6 * (c : Int))).toNat = 6 * c by omega, hA, gmL_s, gmG_t ⟨by omega, by omega⟩, gmG_t ⟨by omega, by omega⟩, show (c : Int) + 1 = ((c + 1 : Nat) : Int) by omega]
      exact ih n (c + 1) (by omega) (by omega)
  exact key 6 gmN 0 (by rw [gmN_e]; omega) (by omega)
def dpA (a : Ar) (p : Nat) (v1 v2 v3 v4 v5 : Int) : Ar := upA (upA (upA (upA (upA (upA a (6 * p) 1) (6 * p + 1) v1) (6 * p + 2) v2) (6 * p + 3) v3) (6 * p + 4) v4) (6 * p + 5) v5
theorem dpA_n {a : Ar} {p k : Nat} {v1 v2 v3 v4 v5 : Int} (h : k < 6 * p ∨ 6 * p + 5 < k) : dpA a p v1 v2 v3 v4 v5 k = a k := by
  unfold dpA
  rw [upA_n (by omega), upA_n (by omega), upA_n (by omega), upA_n (by omega), upA_n (by omega), upA_n (by omega)]
theorem dpA_0 {a : Ar} {p : Nat} {v1 v2 v3 v4 v5 : Int} : dpA a p v1 v2 v3 v4 v5 (6 * p) = 1 ∧ dpA a p v1 v2 v3 v4 v5 (6 * p + 1) = v1 ∧ dpA a p v1 v2 v3 v4 v5 (6 * p + 2) = v2 ∧ dpA a p v1 v2 v3 v4 v5 (6 * p + 3) = v3 ∧ dpA a p v1 v2 v3 v4 v5 (6 * p + 4) = v4 ∧ dpA a p v1 v2 v3 v4 v5 (6 * p + 5) = v5 := by
  unfold dpA
  refine ⟨?_, ?_, ?_, ?_, ?_, ?_⟩
  · rw [upA_n (by omega), upA_n (by omega), upA_n (by omega), upA_n (by omega), upA_n (by omega), upA_s]
  · rw [upA_n (by omega), upA_n (by omega), upA_n (by omega), upA_n (by omega), upA_s]
  · rw [upA_n (by omega), upA_n (by omega), upA_n (by omega), upA_s]
  · rw [upA_n (by omega), upA_n (by omega), upA_s]
  · rw [upA_n (by omega), upA_s]
  · rw [upA_s]
theorem Op_definePiece {σ : St} (hR : Rel σ) (a0 a1 a2 a3 a4 a5 : Int) : Same (Fx_definePiece a0 a1 a2 a3 a4 a5) (Fm_definePiece a0 a1 a2 a3 a4 a5) σ := by
  by_cases h0 : 0 ≤ a0 ∧ a0 ≤ 5
  · by_cases h1 : (1 ≤ a1 ∧ a1 ≤ 12) ∧ (1 ≤ a2 ∧ a2 ≤ 12) ∧ (0 ≤ a3 ∧ a3 ≤ 3) ∧ (0 ≤ a4 ∧ a4 ≤ 3) ∧ (1 ≤ a5 ∧ a5 ≤ 2)
    · obtain ⟨g1, g2, g3, g4, g5⟩ := h1
      obtain ⟨p, hp, rfl⟩ : ∃ p : Nat, p < 6 ∧ a0 = p := ⟨a0.toNat, by omega, by omega⟩
      generalize hσ1 : gmUp (gmUp (gmUp (gmUp (gmUp (gmUp σ (3 + p) 0 1) (3 + p) 1 a1) (3 + p) 2 a2) (3 + p) 3 a3) (3 + p) 4 a4) (3 + p) 5 a5 = σ1
      have x0 : ∀ k i, k ≠ 3 + p → σ1 k i = σ k i := fun k i q => by
        rw [← hσ1, gmUp_k q, gmUp_k q, gmUp_k q, gmUp_k q, gmUp_k q, gmUp_k q]
      have x1 : σ1 (3 + p) 0 = 1 ∧ σ1 (3 + p) 1 = a1 ∧ σ1 (3 + p) 2 = a2 ∧ σ1 (3 + p) 3 = a3 ∧ σ1 (3 + p) 4 = a4 ∧ σ1 (3 + p) 5 = a5 := by
        rw [← hσ1]
        simp [gmUp]
      have hI' : Inv (dpA (σ 134) p a1 a2 a3 a4 a5) := by
        obtain ⟨⟨i1, i2, i3, i4, i5, i6, i7, i8⟩, i9, i10⟩ := hR.2.1
        obtain ⟨d0, d1, d2, d3, d4, d5⟩ := @dpA_0 (σ 134) p a1 a2 a3 a4 a5
        have d1s : ∀ q : Nat, σ 134 (6 * q) = 1 → q < 6 → dpA (σ 134) p a1 a2 a3 a4 a5 (6 * q) = 1 := fun q hq _ => by
          by_cases e : q = p
          · rw [e]; exact d0
          · rw [dpA_n (by omega)]; exact hq
        refine ⟨⟨fun q hq => ?_, by rw [dpA_n (by omega)]; exact i2, by rw [dpA_n (by omega)]; exact i3, by rw [dpA_n (by omega)]; exact i4, by rw [dpA_n (by omega)]; exact i5, by rw [dpA_n (by omega)]; exact i6, fun i hi => by rw [dpA_n (by omega)]; exact i7 i hi, fun i hi => by rw [dpA_n (by omega)]; exact i8 i hi⟩, by rw [dpA_n (by omega)]; exact i9, fun s hs => ?_⟩
        · by_cases e : q = p
          · subst e
            rw [d0, d1, d2, d3, d4, d5]
            exact ⟨Or.inr rfl, fun _ => ⟨g1, g2, g3, g4, g5⟩⟩
          · rw [dpA_n (by omega), dpA_n (by omega), dpA_n (by omega), dpA_n (by omega), dpA_n (by omega), dpA_n (by omega)]
            exact i1 q hq
        · rw [dpA_n (by omega)] at hs
          obtain ⟨⟨s1, s2⟩, s3, ⟨s4, s5⟩, s6, s7⟩ := i10 s hs
          unfold SmOK
          rw [dpA_n (show 37 + 5 * s < 6 * p ∨ 6 * p + 5 < 37 + 5 * s by omega), dpA_n (show 38 + 5 * s < 6 * p ∨ 6 * p + 5 < 38 + 5 * s by omega), dpA_n (show 39 + 5 * s < 6 * p ∨ 6 * p + 5 < 39 + 5 * s by omega), dpA_n (show 40 + 5 * s < 6 * p ∨ 6 * p + 5 < 40 + 5 * s by omega), dpA_n (show 41 + 5 * s < 6 * p ∨ 6 * p + 5 < 41 + 5 * s by omega)]
          exact ⟨⟨s1, d1s _ s2 (by omega)⟩, s3, ⟨s4, d1s _ s5 (by omega)⟩, s6, s7⟩
      have hS' : RepS σ1 1 (dpA (σ 134) p a1 a2 a3 a4 a5) := by
        intro k hk hl
        by_cases hb : 6 * p ≤ k ∧ k ≤ 6 * p + 5
        · obtain ⟨d0, d1, d2, d3, d4, d5⟩ := @dpA_0 (σ 134) p a1 a2 a3 a4 a5
          obtain ⟨y0, y1, y2, y3, y4, y5⟩ := x1
          unfold lc lf
          rw [if_pos (by omega), if_pos (by omega), show k / 6 = p by omega, show 1 + (2 + p) = 3 + p by omega]
          rcases (by omega : k = 6 * p ∨ k = 6 * p + 1 ∨ k = 6 * p + 2 ∨ k = 6 * p + 3 ∨ k = 6 * p + 4 ∨ k = 6 * p + 5) with e | e | e | e | e | e
          · rw [e, show 6 * p % 6 = 0 by omega, y0, d0]
          · rw [e, show (6 * p + 1) % 6 = 1 by omega, y1, d1]
          · rw [e, show (6 * p + 2) % 6 = 2 by omega, y2, d2]
          · rw [e, show (6 * p + 3) % 6 = 3 by omega, y3, d3]
          · rw [e, show (6 * p + 4) % 6 = 4 by omega, y4, d4]
          · rw [e, show (6 * p + 5) % 6 = 5 by omega, y5, d5]
        · have hlc : 1 + lc k ≠ 3 + p := by
            unfold lc
            split
            · omega
            · split
              · omega
              · split
                · omega
                · split
                  · omega
                  · split <;> omega
          rw [x0 _ _ hlc, dpA_n (by omega)]
          refine hR.1 k hk ⟨fun z => ?_, fun z1 z2 => ?_⟩
          · have := hl.1 z
            rw [dpA_n (by omega)] at this
            exact this
          · have := hl.2 z1 z2
            rw [dpA_n (by omega)] at this
            exact this
      generalize hσ2 : gmUp (gmUp (gmUp (gmUp (gmUp (gmUp σ1 134 (6 * p) 1) 134 (6 * p + 1) a1) 134 (6 * p + 2) a2) 134 (6 * p + 3) a3) 134 (6 * p + 4) a4) 134 (6 * p + 5) a5 = σ2
      have z0 : ∀ k i, k ≠ 134 → σ2 k i = σ1 k i := fun k i q => by
        rw [← hσ2, gmUp_k q, gmUp_k q, gmUp_k q, gmUp_k q, gmUp_k q, gmUp_k q]
      have z1 : σ2 134 = dpA (σ 134) p a1 a2 a3 a4 a5 := by
        have : σ1 134 = σ 134 := funext fun i => x0 134 i (by omega)
        rw [← hσ2, gmUp_fun, gmUp_fun, gmUp_fun, gmUp_fun, gmUp_fun, gmUp_fun, this]
        rfl
      refine ⟨cntP (dpA (σ 134) p a1 a2 a3 a4 a5) 6, σ1, σ2, ?_, ?_, ?_⟩
      · unfold Fx_definePiece
        rw [X_in, gmB_s, inR_1 h0, if_neg (by decide), X_in, gmB_s, inR_1 g1, if_neg (by decide), X_in, gmB_s, inR_1 g2, if_neg (by decide), X_in, gmB_s, inR_1 g3, if_neg (by decide), X_in, gmB_s, inR_1 g4, if_neg (by decide), X_in, gmB_s, inR_1 g5, if_neg (by decide), gmG_t (by omega), gmTN, gmTg_2, gmL_s, gmL_s, gmL_s, gmL_s, gmL_s, gmL_s, gmL_s, hσ1, X_cnt hS'.c hI'.1.1, gmB_s]
      · unfold Fm_definePiece
        rw [M_in, gmB_s, inR_1 h0, if_neg (by decide), M_in, gmB_s, inR_1 g1, if_neg (by decide), M_in, gmB_s, inR_1 g2, if_neg (by decide), M_in, gmB_s, inR_1 g3, if_neg (by decide), M_in, gmB_s, inR_1 g4, if_neg (by decide), M_in, gmB_s, inR_1 g5, if_neg (by decide), gmL_s]
        rw [gmG_t (by omega), gmL_s, gmG_t (by omega), gmL_s, gmG_t (by omega), gmL_s, gmG_t (by omega), gmL_s, gmG_t (by omega), gmL_s, gmG_t (by omega), gmL_s]
        rw [show ((0 : Int) + (6 * (p : Int))).toNat = 6 * p by omega, show ((0 : Int) + (6 * (p : Int)) + 1).toNat = 6 * p + 1 by omega, show ((0 : Int) + (6 * (p : Int)) + 2).toNat = 6 * p + 2 by omega, show ((0 : Int) + (6 * (p : Int)) + 3).toNat = 6 * p + 3 by omega, show ((0 : Int) + (6 * (p : Int)) + 4).toNat = 6 * p + 4 by omega, show ((0 : Int) + (6 * (p : Int)) + 5).toNat = 6 * p + 5 by omega, hσ2]
        exact M_cnt z1 hI'.1.1
      · refine hR.upd (fun k j q => by rw [z0 k j (by omega), x0 k j (by omega)]) ?_ ?_
        · rw [z1]
          exact hS'.fr (fun k i u v => z0 k i (by omega))
        · rw [z1]; exact hI'
    · refine Same.err (r := -1005) hR ?_ ?_
      · unfold Fx_definePiece
        rw [X_in, gmB_s, inR_1 h0, if_neg (by decide), X_in, gmB_s]
        by_cases q1 : 1 ≤ a1 ∧ a1 ≤ 12
        · rw [inR_1 q1, if_neg (by decide), X_in, gmB_s]
          by_cases q2 : 1 ≤ a2 ∧ a2 ≤ 12
          · rw [inR_1 q2, if_neg (by decide), X_in, gmB_s]
            by_cases q3 : 0 ≤ a3 ∧ a3 ≤ 3
            · rw [inR_1 q3, if_neg (by decide), X_in, gmB_s]
              by_cases q4 : 0 ≤ a4 ∧ a4 ≤ 3
              · rw [inR_1 q4, if_neg (by decide), X_in, gmB_s, inR_0 (fun q5 => h1 ⟨q1, q2, q3, q4, q5⟩), if_pos rfl]
              · rw [inR_0 q4, if_pos rfl]
            · rw [inR_0 q3, if_pos rfl]
          · rw [inR_0 q2, if_pos rfl]
        · rw [inR_0 q1, if_pos rfl]
      · unfold Fm_definePiece
        rw [M_in, gmB_s, inR_1 h0, if_neg (by decide), M_in, gmB_s]
        by_cases q1 : 1 ≤ a1 ∧ a1 ≤ 12
        · rw [inR_1 q1, if_neg (by decide), M_in, gmB_s]
          by_cases q2 : 1 ≤ a2 ∧ a2 ≤ 12
          · rw [inR_1 q2, if_neg (by decide), M_in, gmB_s]
            by_cases q3 : 0 ≤ a3 ∧ a3 ≤ 3
            · rw [inR_1 q3, if_neg (by decide), M_in, gmB_s]
              by_cases q4 : 0 ≤ a4 ∧ a4 ≤ 3
              · rw [inR_1 q4, if_neg (by decide), M_in, gmB_s, inR_0 (fun q5 => h1 ⟨q1, q2, q3, q4, q5⟩), if_pos rfl]
              · rw [inR_0 q4, if_pos rfl]
            · rw [inR_0 q3, if_pos rfl]
          · rw [inR_0 q2, if_pos rfl]
        · rw [inR_0 q1, if_pos rfl]
  · refine Same.err (r := -1001) hR ?_ ?_
    · unfold Fx_definePiece
      rw [X_in, gmB_s, inR_0 h0, if_pos rfl]
    · unfold Fm_definePiece
      rw [M_in, gmB_s, inR_0 h0, if_pos rfl]
