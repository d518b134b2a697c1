/-! MIXES, both -/
def aM (a : Ar) (i : Nat) : Ar := upA (upA (upA a 67 ((i / 9 : Nat) : Int)) 68 ((i / 3 % 3 : Nat) : Int)) 69 ((i % 3 : Nat) : Int)
theorem aM_n {a : Ar} {i k : Nat} (h : k < 67 ∨ 70 ≤ k) : aM a i k = a k := by
  unfold aM
  rw [upA_n (by omega), upA_n (by omega), upA_n (by omega)]
theorem aM_0 {a : Ar} {i : Nat} : aM a i 67 = ((i / 9 : Nat) : Int) := by
  unfold aM
  rw [upA_n (by omega), upA_n (by omega), upA_s]
theorem aM_1 {a : Ar} {i : Nat} : aM a i 68 = ((i / 3 % 3 : Nat) : Int) := by
  unfold aM
  rw [upA_n (by omega), upA_s]
theorem aM_2 {a : Ar} {i : Nat} : aM a i 69 = ((i % 3 : Nat) : Int) := by
  unfold aM
  rw [upA_s]
theorem InvC.mx {a : Ar} (h : InvC a) {i : Nat} (hi : i < 27) : InvC (aM a i) := ((h.set_ra (i := 0) (v := ((i / 9 : Nat) : Int)) (by omega) (by omega)).set_ra (i := 1) (v := ((i / 3 % 3 : Nat) : Int)) (by omega) (by omega)).set_ra (i := 2) (v := ((i % 3 : Nat) : Int)) (by omega) (by omega)
theorem RepC.mx {σ : St} {a a' : Ar} (h : RepC σ a) (e : ∀ k, (k < 67 ∨ 70 ≤ k) → a' k = a k) : RepC σ a' := by
  obtain ⟨h1, h2, h3, h4, h5, h6, h7⟩ := h
  refine ⟨fun p hp => ⟨?_, fun hd f f1 f2 => ?_⟩, ?_, ?_, ?_, ?_, ?_, fun i hi => ?_⟩
  · rw [e _ (by omega)]; exact (h1 p hp).1
  · rw [e _ (by omega)] at hd ⊢
    exact (h1 p hp).2 hd f f1 f2
  · rw [e _ (by omega)]; exact h2
  · rw [e _ (by omega)]; exact h3
  · rw [e _ (by omega)]; exact h4
  · rw [e _ (by omega)]; exact h5
  · rw [e _ (by omega)]; exact h6
  · rw [e _ (by omega)]; exact h7 i hi
def dec (i : Nat) : Int := 100 * ((i / 9 : Nat) : Int) + 10 * ((i / 3 % 3 : Nat) : Int) + ((i % 3 : Nat) : Int)
theorem dec_b {i : Nat} (h : i < 27) : 0 ≤ dec i ∧ dec i ≤ 222 := by
  unfold dec
  omega
def FrB (σ σ' : St) : Prop := ∀ k i, (k < 54 ∨ 133 ≤ k) → σ' k i = σ k i
theorem FrB.rf {σ : St} : FrB σ σ := fun _ _ _ => rfl
theorem FrB.tr {σ σ' σ'' : St} (h : FrB σ σ') (h' : FrB σ' σ'') : FrB σ σ'' := fun k i q => (h' k i q).trans (h k i q)
theorem FrK.b {σ σ' : St} (h : FrK σ σ') : FrB σ σ' := fun k i q => h k i (by omega)
theorem FrB.qu {σ σ' : St} (h : FrB σ σ') : Qu σ σ' := fun k i q => h k i (by omega)
theorem FrB.rep {σ σ' : St} {a : Ar} (h : FrB σ σ') (hR : RepC σ a) : RepC σ' a := hR.fr (fun k i q => h k i (Or.inl q))
theorem X_look {σ : St} {i : Nat} (hi : i < 27) (a : Ar) : ∃ σ', Fx_lookAtMix i σ = some σ' ∧ (∀ t, t < 3 → σ' 132 t = aM a i (67 + t)) ∧ (σ' 132 0 = ((i / 9 : Nat) : Int) ∧ σ' 132 1 = ((i / 3 % 3 : Nat) : Int) ∧ σ' 132 2 = ((i % 3 : Nat) : Int)) ∧ ∀ k j, k ≠ 132 → σ' k j = σ k j := by
  generalize hS : gmUp (gmUp (gmUp σ 132 0 ((i / 9 : Nat) : Int)) 132 1 ((i / 3 % 3 : Nat) : Int)) 132 2 ((i % 3 : Nat) : Int) = S
  have h0 : S 132 0 = ((i / 9 : Nat) : Int) := by rw [← hS, gmUp_i (by decide), gmUp_i (by decide), gmUp_s]
  have h1 : S 132 1 = ((i / 3 % 3 : Nat) : Int) := by rw [← hS, gmUp_i (by decide), gmUp_s]
  have h2 : S 132 2 = ((i % 3 : Nat) : Int) := by rw [← hS, gmUp_s]
  refine ⟨S, ?_, fun t ht => ?_, ⟨h0, h1, h2⟩, fun k j h => by rw [← hS, gmUp_k h, gmUp_k h, gmUp_k h]⟩
  · unfold Fx_lookAtMix
    rw [gmG_t (by omega), gmL_s, gmG_t (by omega), gmL_s, gmL_s, show (i : Int) / 9 = ((i / 9 : Nat) : Int) by omega, show (i : Int) / 3 % 3 = ((i / 3 % 3 : Nat) : Int) by omega, show (i : Int) % 3 = ((i % 3 : Nat) : Int) by omega, hS]
  · rcases (by omega : t = 0 ∨ t = 1 ∨ t = 2) with rfl | rfl | rfl
    · rw [h0]; exact aM_0.symm
    · rw [h1]; exact aM_1.symm
    · rw [h2]; exact aM_2.symm
theorem X_mixStep {a : Ar} {σ : St} {i : Nat} {r : Int} (hI : InvC a) (hR : RepC σ a) (hi : i < 27) (hr : LenR (pts (aM a i)) (strip (aM a i)) (aM a i 74) (aM a i 73) r) : ∃ σ2 σ3, Fx_lookAtMix i σ = some σ2 ∧ Fk_makeParts 132 σ2 = some σ3 ∧ Ft_pliesFor 132 σ3 = some (plV (aM a i), σ3) ∧ Fk_hasLayout σ3 = some (if r = -1007 then 0 else 1, σ3) ∧ FrB σ σ3 ∧ (∀ t, t < 3 → σ3 132 t = aM a i (67 + t)) ∧ HX σ3 (pts (aM a i)) ∧ σ3 54 2 = strip (aM a i) := by
  have hIM := hI.mx hi
  obtain ⟨σ2, e1, e2, -, e3⟩ := X_look (σ := σ) hi a
  have hRM : RepC σ2 (aM a i) := (hR.fr (fun k j q => e3 k j (by omega))).mx (fun k q => aM_n q)
  obtain ⟨σ3, f1, f2, f3, f4⟩ := X_makeParts (Or.inr rfl) e2 hRM hIM
  have h132 : ∀ t, t < 3 → σ3 132 t = aM a i (67 + t) := fun t ht => by rw [f3 132 t (by omega)]; exact e2 t ht
  have hb : FrB σ σ3 := fun k j q => by rw [f3 k j (by omega), e3 k j (by omega)]
  refine ⟨σ2, σ3, e1, f1, X_plies (Or.inr rfl) hIM h132 (f3.rep hRM), ?_, hb, h132, f2, f4⟩
  obtain ⟨y1, y2⟩ := X_hasLayout (pts_all hIM) f2 f4
  by_cases h : r = -1007
  · rw [if_pos h]; exact y2 (hr.lay.mp h)
  · rw [if_neg h]
    exact y1 (Classical.byContradiction fun z => h (hr.lay.mpr z))
section
variable (a : Ar) (rs : Nat → Int)
def gN : Nat → Int
  | 0 => 0
  | j + 1 => if plV (aM a (j + 1)) = -1008 then gN j else if rs (j + 1) = -1007 then gN j else gN j + 1
def clN (i : Nat) : Int := plV (aM a i) * rs i
def suN (i : Nat) : Int := suF (aM a i) (plV (aM a i)) 3
def mF : Nat → Int × Int × Int
  | 0 => (0, 0, 0)
  | j + 1 => if plV (aM a (j + 1)) = -1008 then mF j else if rs (j + 1) = -1007 then mF j else if (mF j).1 = 0 then (((j + 1 : Nat) : Int), clN a rs (j + 1), suN a (j + 1)) else if clN a rs (j + 1) < (mF j).2.1 then (((j + 1 : Nat) : Int), clN a rs (j + 1), suN a (j + 1)) else if clN a rs (j + 1) = (mF j).2.1 then (if (mF j).2.2 ≤ suN a (j + 1) then mF j else (((j + 1 : Nat) : Int), clN a rs (j + 1), suN a (j + 1))) else mF j
end
theorem gN_b (a : Ar) (rs : Nat → Int) : ∀ j, 0 ≤ gN a rs j ∧ gN a rs j ≤ j
  | 0 => ⟨Int.le_refl 0, Int.le_refl 0⟩
  | j + 1 => by
    have := gN_b a rs j
    unfold gN
    split
    · omega
    · split <;> omega
theorem mF_at (a : Ar) (rs : Nat → Int) : ∀ j, mF a rs j = (0, 0, 0) ∨ ∃ i, 1 ≤ i ∧ i ≤ j ∧ mF a rs j = ((i : Int), clN a rs i, suN a i) ∧ ¬ plV (aM a i) = -1008 ∧ ¬ rs i = -1007
  | 0 => Or.inl rfl
  | j + 1 => by
    have old : mF a rs (j + 1) = mF a rs j → mF a rs (j + 1) = (0, 0, 0) ∨ ∃ i, 1 ≤ i ∧ i ≤ j + 1 ∧ mF a rs (j + 1) = ((i : Int), clN a rs i, suN a i) ∧ ¬ plV (aM a i) = -1008 ∧ ¬ rs i = -1007 := fun e => by
      rw [e]
      rcases mF_at a rs j with h | ⟨i, h1, h2, h3⟩
      · exact Or.inl h
      · exact Or.inr ⟨i, h1, by omega, h3⟩
    by_cases g1 : plV (aM a (j + 1)) = -1008
    · exact old (by rw [mF.eq_2, if_pos g1])
    · by_cases g2 : rs (j + 1) = -1007
      · exact old (by rw [mF.eq_2, if_neg g1, if_pos g2])
      · have new : mF a rs (j + 1) = (((j + 1 : Nat) : Int), clN a rs (j + 1), suN a (j + 1)) → mF a rs (j + 1) = (0, 0, 0) ∨ ∃ i, 1 ≤ i ∧ i ≤ j + 1 ∧ mF a rs (j + 1) = ((i : Int), clN a rs i, suN a i) ∧ ¬ plV (aM a i) = -1008 ∧ ¬ rs i = -1007 := fun e => Or.inr ⟨j + 1, by omega, by omega, e, g1, g2⟩
        by_cases g3 : (mF a rs j).1 = 0
        · exact new (by rw [mF.eq_2, if_neg g1, if_neg g2, if_pos g3])
        · by_cases g4 : clN a rs (j + 1) < (mF a rs j).2.1
          · exact new (by rw [mF.eq_2, if_neg g1, if_neg g2, if_neg g3, if_pos g4])
          · by_cases g5 : clN a rs (j + 1) = (mF a rs j).2.1
            · by_cases g6 : (mF a rs j).2.2 ≤ suN a (j + 1)
              · exact old (by rw [mF.eq_2, if_neg g1, if_neg g2, if_neg g3, if_neg g4, if_pos g5, if_pos g6])
              · exact new (by rw [mF.eq_2, if_neg g1, if_neg g2, if_neg g3, if_neg g4, if_pos g5, if_neg g6])
            · exact old (by rw [mF.eq_2, if_neg g1, if_neg g2, if_neg g3, if_neg g4, if_neg g5])
abbrev MixR (a : Ar) (rs : Nat → Int) : Prop := ∀ i, i < 27 → LenR (pts (aM a i)) (strip (aM a i)) (aM a i 74) (aM a i 73) (rs i)
theorem mix_ex {a : Ar} (hI : InvC a) : ∃ rs, MixR a rs := by
  obtain ⟨rs, h⟩ := Classical.axiomOfChoice (r := fun (i : Nat) (r : Int) => i < 27 → LenR (pts (aM a i)) (strip (aM a i)) (aM a i 74) (aM a i 73) r) (fun i => by
    by_cases hi : i < 27
    · obtain ⟨r, l⟩ := len_ex (hI.mx hi) (b := aM a i 74) (m := aM a i 73) (hI.mx hi).2.2.2.2.2.1
      exact ⟨r, fun _ => l⟩
    · exact ⟨0, fun z => absurd z hi⟩)
  exact ⟨rs, h⟩
theorem X_gm4 {a : Ar} {rs : Nat → Int} (hI : InvC a) (hrs : MixR a rs) : ∀ (d n j : Nat) (σ : St), d < n → j + d = 26 → RepC σ a → ∃ σ', Fx_goodMixes_4 n (gN a rs j) ((j + 1 : Nat) : Int) σ (fun x14 s15 => some (x14, s15)) = some (gN a rs 26, σ') ∧ FrB σ σ' := by
  intro d
  induction d with
  | zero =>
    intro n j σ hn hd hR
    obtain ⟨n, rfl⟩ : ∃ m, n = m + 1 := ⟨n - 1, by omega⟩
    obtain rfl : j = 26 := by omega
    exact ⟨σ, by rw [Fx_goodMixes_4.eq_2, if_pos (by omega)], FrB.rf⟩
  | succ d ih =>
    intro n j σ hn hd hR
    obtain ⟨n, rfl⟩ : ∃ m, n = m + 1 := ⟨n - 1, by omega⟩
    obtain ⟨σ2, σ3, e1, e2, e3, e4, e5, -⟩ := X_mixStep hI hR (by omega) (hrs (j + 1) (by omega))
    obtain ⟨σ', f1, f2⟩ := ih n (j + 1) σ3 (by omega) (by omega) (e5.rep hR)
    have hb := gN_b a rs j
    refine ⟨σ', ?_, e5.tr f2⟩
    rw [Fx_goodMixes_4.eq_2, if_neg (by omega), e1, gmBv_s, e2, gmBv_s, e3, gmB_s, ← f1, gN.eq_2]
    by_cases g1 : plV (aM a (j + 1)) = -1008
    · rw [if_pos g1, if_pos g1, gmG_t ⟨by omega, by omega⟩, show ((j + 1 : Nat) : Int) + 1 = ((j + 1 + 1 : Nat) : Int) by omega]
    · rw [if_neg g1, if_neg g1, e4, gmB_s]
      by_cases g2 : rs (j + 1) = -1007
      · rw [if_pos g2, if_pos g2, if_pos rfl, gmG_t ⟨by omega, by omega⟩, show ((j + 1 : Nat) : Int) + 1 = ((j + 1 + 1 : Nat) : Int) by omega]
      · rw [if_neg g2, if_neg g2, if_neg (by decide), gmG_t ⟨by omega, by omega⟩, gmG_t ⟨by omega, by omega⟩, show ((j + 1 : Nat) : Int) + 1 = ((j + 1 + 1 : Nat) : Int) by omega]
theorem clN_b {a : Ar} {rs : Nat → Int} (hI : InvC a) (hrs : MixR a rs) {i : Nat} (hi : i < 27) (g1 : ¬ plV (aM a i) = -1008) (g2 : ¬ rs i = -1007) : 0 ≤ clN a rs i ∧ clN a rs i ≤ 128304 := by
  have h1 := plV_b (hI.mx hi)
  have h2 := (hrs i hi).b
  exact mulB (x := plV (aM a i)) (y := rs i) (X := 99) (Y := 1296) (by omega) (by omega)
theorem X_bm9 {a : Ar} {rs : Nat → Int} (hI : InvC a) (hrs : MixR a rs) : ∀ (d n j : Nat) (σ : St), d < n → j + d = 26 → RepC σ a → ∃ σ', Fx_findBestMix_9 n (mF a rs j).1 (mF a rs j).2.1 (mF a rs j).2.2 ((j + 1 : Nat) : Int) σ (fun x28 s29 => some (x28, s29)) = some ((mF a rs 26).1, σ') ∧ FrB σ σ' := by
  intro d
  induction d with
  | zero =>
    intro n j σ hn hd hR
    obtain ⟨n, rfl⟩ : ∃ m, n = m + 1 := ⟨n - 1, by omega⟩
    obtain rfl : j = 26 := by omega
    exact ⟨σ, by rw [Fx_findBestMix_9.eq_2, if_pos (by omega)], FrB.rf⟩
  | succ d ih =>
    intro n j σ hn hd hR
    obtain ⟨n, rfl⟩ : ∃ m, n = m + 1 := ⟨n - 1, by omega⟩
    have hi : j + 1 < 27 := by omega
    have hIM := hI.mx hi
    have hwM := strip_b hIM
    have hpb := plV_b hIM
    obtain ⟨σ2, σ3, e1, e2, e3, e4, e5, e6, e7, e8⟩ := X_mixStep hI hR hi (hrs (j + 1) hi)
    have hR3 := e5.rep hR
    have ih := fun τ z => ih n (j + 1) τ (by omega) (by omega) z
    rw [Fx_findBestMix_9.eq_2, if_neg (by omega), e1, gmBv_s, e2, gmBv_s, e3, gmB_s]
    by_cases g1 : plV (aM a (j + 1)) = -1008
    · obtain ⟨σ', f1, f2⟩ := ih σ3 hR3
      rw [show mF a rs (j + 1) = mF a rs j by rw [mF.eq_2, if_pos g1]] at f1
      refine ⟨σ', ?_, e5.tr f2⟩
      rw [if_pos g1, gmG_t ⟨by omega, by omega⟩, show ((j + 1 : Nat) : Int) + 1 = ((j + 1 + 1 : Nat) : Int) by omega, f1]
    · rw [if_neg g1, e4, gmB_s]
      by_cases g2 : rs (j + 1) = -1007
      · obtain ⟨σ', f1, f2⟩ := ih σ3 hR3
        rw [show mF a rs (j + 1) = mF a rs j by rw [mF.eq_2, if_neg g1, if_pos g2]] at f1
        refine ⟨σ', ?_, e5.tr f2⟩
        rw [if_pos g2, if_pos rfl, gmG_t ⟨by omega, by omega⟩, show ((j + 1 : Nat) : Int) + 1 = ((j + 1 + 1 : Nat) : Int) by omega, f1]
      · have hc := clN_b hI hrs hi g1 g2
        have r8 : σ3 1 8 = aM a (j + 1) 73 := by rw [aM_n (by omega)]; exact hR3.2.2.2.2.1
        have r9 : σ3 1 9 = aM a (j + 1) 74 := by rw [aM_n (by omega)]; exact hR3.2.2.2.2.2.1
        obtain ⟨r, σ4, l1, l2, l3, -⟩ := X_lengthPacked (b := aM a (j + 1) 74) (m := aM a (j + 1) 73) (pts_all hIM) (by omega) hwM.2 e7 e8
        have er := l2.uniq (hrs (j + 1) hi)
        subst er
        have hB4 : FrB σ σ4 := e5.tr l3.k.b
        have hR4 := hB4.rep hR
        obtain ⟨σ', f1, f2⟩ := ih σ4 hR4
        have hsu : Ft_surplusFor 132 (plV (aM a (j + 1))) σ4 = some (suN a (j + 1), σ4) := X_surplus (Or.inr rfl) hIM (fun t ht => by rw [l3 132 t (by omega)]; exact e6 t ht) (hR4.mx (fun k q => aM_n q)) (by omega)
        rw [mF.eq_2, if_neg g1, if_neg g2] at f1
        refine ⟨σ', ?_, hB4.tr f2⟩
        rw [if_neg g2, if_neg (by decide), r8, r9, l1, gmB_s, show plV (aM a (j + 1)) * rs (j + 1) = clN a rs (j + 1) from rfl, gmL_s, hsu, gmB_s, gmG_t ⟨by omega, by omega⟩, gmG_t ⟨by omega, by omega⟩, gmG_t ⟨by omega, by omega⟩, show ((j + 1 : Nat) : Int) + 1 = ((j + 1 + 1 : Nat) : Int) by omega]
        by_cases g3 : (mF a rs j).1 = 0
        · rw [if_pos g3] at f1 ⊢
          exact f1
        · rw [if_neg g3] at f1 ⊢
          by_cases g4 : clN a rs (j + 1) < (mF a rs j).2.1
          · rw [if_pos g4] at f1 ⊢
            exact f1
          · rw [if_neg g4] at f1 ⊢
            by_cases g5 : clN a rs (j + 1) = (mF a rs j).2.1
            · rw [if_pos g5] at f1 ⊢
              by_cases g6 : (mF a rs j).2.2 ≤ suN a (j + 1)
              · rw [if_pos g6] at f1 ⊢
                rw [gmG_t ⟨by omega, by omega⟩]
                exact f1
              · rw [if_neg g6] at f1 ⊢
                exact f1
            · rw [if_neg g5] at f1 ⊢
              rw [gmG_t ⟨by omega, by omega⟩]
              exact f1
