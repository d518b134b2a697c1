def mOp (a0 : Int) (s10 : St) : Option (Int × St) := gmG ((¬ (s10 133 15) = 0) → 0 ≤ ((s10 133 15) - 1) ∧ ((s10 133 15) - 1) < 72) (gmG ((¬ (s10 133 15) = 0) → 0 ≤ ((s10 133 15) - 1) ∧ ((s10 133 15) - 1) < 72) (gmL ((if (s10 133 15) = 0 then 0 else ((s10 145 (((s10 133 15) - 1)).toNat) + (s10 146 (((s10 133 15) - 1)).toNat))) : Int) (fun x14 => gmG (gmR x14) (gmG (0 ≤ (s10 133 15) ∧ (s10 133 15) < 72) (gmL (gmUp s10 145 ((s10 133 15)).toNat x14) (fun s17 => gmG (0 ≤ a0 ∧ a0 < 72) (gmG (0 ≤ (s17 133 15) ∧ (s17 133 15) < 72) (gmL (gmUp s17 146 ((s17 133 15)).toNat (s17 140 (a0).toNat)) (fun s20 => gmG (0 ≤ (s20 133 15) ∧ (s20 133 15) < 72) (gmL (gmUp s20 147 ((s20 133 15)).toNat 0) (fun s22 => gmG (gmR ((s22 133 15) + 1)) (gmL (gmUp s22 133 15 ((s22 133 15) + 1)) (fun s24 => gmG (gmR ((s24 133 15) - 1)) (some (((s24 133 15) - 1), s24)))))))))))))))
theorem M_sfE (a0 a1 : Int) (σ : St) : Fm_shelfFor a0 a1 σ = Fm_shelfFor_2 gmN a0 a1 0 σ (fun s10 => mOp a0 s10) := rfl
def PM (σ : St) (q : Nat) (a c : Int) : Prop := σ 143 q = a ∧ σ 144 q = c
theorem M_sf2 {L : List PT} {T : ShT} {w : Int} {k : St → Option (Int × St)} {q : Nat} {σ : St} (hO : AllOK L) (hq : q < L.length) (hX : HM σ L) (hfo : pfo L q = 0) (hT : ShM σ T) (hB : ShB T 72 w) (hw2 : w ≤ 24) : ∀ (d n : Nat), d ≤ T.1 → d < n → (shF T (pal L q) (pac L q) w d = T.1 → Fm_shelfFor_2 n q w ((T.1 - d : Nat) : Int) σ k = k σ) ∧ (shF T (pal L q) (pac L q) w d < T.1 → Fm_shelfFor_2 n q w ((T.1 - d : Nat) : Int) σ k = some ((shF T (pal L q) (pac L q) w d : Int), σ)) := by
  have hl := hO.1
  have h72 := hB.1
  intro d
  induction d with
  | zero =>
    intro n hd hn
    obtain ⟨n, rfl⟩ : ∃ m, n = m + 1 := ⟨n - 1, by omega⟩
    rw [Fm_shelfFor_2.eq_2, hT.1, if_pos (by omega)]
    exact ⟨fun _ => rfl, fun h => absurd h (by unfold shF; omega)⟩
  | succ d ih =>
    intro n hd hn
    obtain ⟨n, rfl⟩ : ∃ m, n = m + 1 := ⟨n - 1, by omega⟩
    obtain ⟨h2, h3, h4⟩ := hX.at hq
    obtain ⟨-, t2, t3⟩ := hT.2 (T.1 - (d + 1)) (by omega)
    have bb := hB.2 (T.1 - (d + 1)) (by omega)
    have b2 := pac_b hO hq
    have ih := ih n (by omega) (by omega)
    have hnx : ((T.1 - (d + 1) : Nat) : Int) + 1 = ((T.1 - d : Nat) : Int) := by omega
    rw [Fm_shelfFor_2.eq_2, hT.1, if_neg (by omega), gmG_t (by omega), gmTN, gmTN, h2, hfo, if_pos rfl, gmG_t (by omega), t2, t3, h3, h4]
    unfold shF
    by_cases c1 : T.2.2.1 (T.1 - (d + 1)) < pal L q
    · rw [if_pos c1, if_pos c1, gmG_t ⟨by omega, by omega⟩, hnx]
      exact ih
    · rw [if_neg c1, if_neg c1, gmG_t ⟨by omega, by omega⟩]
      by_cases c2 : w < T.2.2.2 (T.1 - (d + 1)) + pac L q
      · rw [if_pos c2, if_pos c2, gmG_t ⟨by omega, by omega⟩, hnx]
        exact ih
      · rw [if_neg c2, if_neg c2]
        exact ⟨fun h => absurd h (by omega), fun _ => rfl⟩
def FrT (σ σ' : St) : Prop := ∀ k i, (k ≠ 133 ∨ i ≠ 15) → (k < 145 ∨ 147 < k) → σ' k i = σ k i
theorem M_op {L : List PT} {T : ShT} {w : Int} {q i : Nat} {σ : St} (hO : AllOK L) (hq : q < L.length) (hX : HM σ L) (hT : ShM σ T) (hB : ShB T i w) (hi : i < 72) : ∃ σ', mOp q σ = some ((T.1 : Int), σ') ∧ ShM σ' (shOpen T (pal L q)) ∧ FrT σ σ' := by
  have hl := hO.1
  have h72 := hB.1
  have he := hB.end
  obtain ⟨-, h3, h4⟩ := hX.at hq
  have b1 := pal_b hO hq
  have hend : (if (T.1 : Int) = 0 then (0 : Int) else σ 145 ((T.1 : Int) - 1).toNat + σ 146 ((T.1 : Int) - 1).toNat) = shEnd T := by
    unfold shEnd
    by_cases h : T.1 = 0
    · rw [if_pos (by omega), if_pos h]
    · rw [if_neg (by omega), if_neg h, show ((T.1 : Int) - 1).toNat = T.1 - 1 by omega]
      obtain ⟨u1, u2, -⟩ := hT.2 (T.1 - 1) (by omega)
      rw [u1, u2]
  unfold mOp
  rw [hT.1, gmG_t (fun _ => by omega), gmG_t (fun _ => by omega), hend, gmL_s, gmG_t ⟨by omega, by omega⟩, gmTN, gmG_t (by omega), gmL_s, gmG_t (by omega), gmTN]
  rw [gmUp_k (show (133 : Nat) ≠ 145 by decide), gmUp_k (show (140 : Nat) ≠ 145 by decide), hT.1, h3, gmTN, gmG_t (by omega), gmL_s]
  rw [gmUp_k (show (133 : Nat) ≠ 146 by decide), gmUp_k (show (133 : Nat) ≠ 145 by decide), hT.1, gmTN, gmG_t (by omega), gmL_s]
  rw [gmUp_k (show (133 : Nat) ≠ 147 by decide), gmUp_k (show (133 : Nat) ≠ 146 by decide), gmUp_k (show (133 : Nat) ≠ 145 by decide), hT.1, gmG_t ⟨by omega, by omega⟩, gmL_s, gmUp_s, gmG_t ⟨by omega, by omega⟩]
  refine ⟨_, by rw [show (T.1 : Int) + 1 - 1 = (T.1 : Int) by omega], ⟨?_, fun t ht => ?_⟩, fun k i g1 g2 => ?_⟩
  · rw [gmUp_s]; rfl
  · have ht : t < T.1 + 1 := ht
    rw [gmUp_k (show (145 : Nat) ≠ 133 by decide), gmUp_k (show (146 : Nat) ≠ 133 by decide), gmUp_k (show (147 : Nat) ≠ 133 by decide), gmUp_k (show (145 : Nat) ≠ 147 by decide), gmUp_k (show (145 : Nat) ≠ 146 by decide), gmUp_k (show (146 : Nat) ≠ 147 by decide)]
    show _ = upA T.2.1 T.1 (shEnd T) t ∧ _ = upA T.2.2.1 T.1 (pal L q) t ∧ _ = upA T.2.2.2 T.1 0 t
    by_cases e : t = T.1
    · rw [e, gmUp_s, gmUp_s, gmUp_s, upA_s, upA_s, upA_s]
      exact ⟨rfl, rfl, rfl⟩
    · obtain ⟨u1, u2, u3⟩ := hT.2 t (by omega)
      simp only [gmUp_i e, upA_n e]
      exact ⟨u1, u2, u3⟩
  · have h1 : gmUp (gmUp (gmUp (gmUp σ 145 T.1 (shEnd T)) 146 T.1 (pal L q)) 147 T.1 0) 133 15 ((T.1 : Int) + 1) k i = gmUp (gmUp (gmUp σ 145 T.1 (shEnd T)) 146 T.1 (pal L q)) 147 T.1 0 k i := by
      rcases g1 with g | g
      · exact gmUp_k g
      · exact gmUp_i g
    rw [h1, gmUp_k (by omega), gmUp_k (by omega), gmUp_k (by omega)]
theorem M_sf {L : List PT} {T : ShT} {w : Int} {q i : Nat} {σ : St} (hO : AllOK L) (hq : q < L.length) (hX : HM σ L) (hT : ShM σ T) (hB : ShB T i w) (hw2 : w ≤ 24) (hi : i < 72) : ∃ σ', Fm_shelfFor q w σ = some ((shI T (pfo L q) (pal L q) (pac L q) w : Int), σ') ∧ ShM σ' (shAt T (shI T (pfo L q) (pal L q) (pac L q) w) (pal L q)) ∧ FrT σ σ' := by
  have hl := hO.1
  have h72 := hB.1
  have hB72 : ShB T 72 w := ⟨by omega, hB.2⟩
  have hop : shI T (pfo L q) (pal L q) (pac L q) w = T.1 → Fm_shelfFor_2 gmN q w 0 σ (fun s10 => mOp q s10) = mOp q σ → ∃ σ', Fm_shelfFor q w σ = some ((shI T (pfo L q) (pal L q) (pac L q) w : Int), σ') ∧ ShM σ' (shAt T (shI T (pfo L q) (pal L q) (pac L q) w) (pal L q)) ∧ FrT σ σ' := by
    intro hs he
    obtain ⟨σ1, e1, T1, f1⟩ := M_op hO hq hX hT hB hi
    refine ⟨σ1, by rw [M_sfE, he, e1, hs], ?_, f1⟩
    rw [hs]
    unfold shAt
    rw [if_pos rfl]
    exact T1
  obtain ⟨h2, -, -⟩ := hX.at hq
  rcases pfo_b hO hq with hfo | hfo
  · obtain ⟨a1, a2⟩ := M_sf2 (k := fun s10 => mOp q s10) hO hq hX hfo hT hB72 hw2 T.1 gmN (Nat.le_refl _) (by rw [gmN_e]; omega)
    rw [show ((T.1 - T.1 : Nat) : Int) = 0 by omega] at a1 a2
    have hI0 : shI T (pfo L q) (pal L q) (pac L q) w = shF T (pal L q) (pac L q) w T.1 := by
      unfold shI
      rw [if_pos hfo]
    have hle := shF_le T (pal L q) (pac L q) w T.1
    rcases Nat.lt_or_ge (shF T (pal L q) (pac L q) w T.1) T.1 with h | h
    · refine ⟨σ, by rw [M_sfE, a2 h, hI0], ?_, fun _ _ _ _ => rfl⟩
      unfold shAt
      rw [hI0, if_neg (by omega)]
      exact hT
    · have hs : shF T (pal L q) (pac L q) w T.1 = T.1 := by omega
      exact hop (by rw [hI0]; exact hs) (a1 hs)
  · refine hop (by unfold shI; rw [if_neg (by rw [hfo]; decide)]) ?_
    rw [show gmN = 1499 + 1 from rfl, Fm_shelfFor_2.eq_2, hT.1]
    by_cases h0 : (T.1 : Int) ≤ 0
    · rw [if_pos h0]
    · rw [if_neg h0, gmG_t (by omega), gmTN, h2, hfo, if_neg (by decide)]
def OrdM (σ : St) (n : Nat) (o : Nat → Nat) : Prop := ∀ i, i < n → σ 142 i = (o i : Int)
theorem M_sh7 {L : List PT} {w : Int} {o : Nat → Nat} {k : St → Option St} (hO : AllOK L) (ho : Ord L.length o) (hw1 : 0 ≤ w) (hw2 : w ≤ 24) (hlay : layO L w) : ∀ (d n i : Nat) (σ : St), d < n → i + d = L.length → HM σ L → OrdM σ L.length o → ShM σ (shS L w o i) → (∀ j, j < i → PM σ (o j) (shA L w o j) (shC L w o j)) → ∃ σ', Fm_packShelves_7 n w i σ k = k σ' ∧ (∀ j, j < L.length → PM σ' (o j) (shA L w o j) (shC L w o j)) ∧ ∀ k' i', (k' ≠ 133 ∨ i' ≠ 15) → (k' < 143 ∨ 147 < k') → σ' k' i' = σ k' i' := by
  have hl := hO.1
  intro d
  induction d with
  | zero =>
    intro n i σ hn hd hX hor hT hP
    obtain ⟨n, rfl⟩ : ∃ m, n = m + 1 := ⟨n - 1, by omega⟩
    rw [Fm_packShelves_7.eq_2, hX.1, if_pos (by omega)]
    have : i = L.length := by omega
    subst this
    exact ⟨σ, rfl, hP, fun _ _ _ _ => rfl⟩
  | succ d ih =>
    intro n i σ hn hd hX hor hT hP
    obtain ⟨n, rfl⟩ : ∃ m, n = m + 1 := ⟨n - 1, by omega⟩
    have hoi := ho.1 i (by omega)
    have hB := shS_b hO hw1 hlay i (fun j hj => ho.1 j (by omega))
    have b2 := pac_b hO hoi
    obtain ⟨σ1, e1, T1, f1⟩ := M_sf hO hoi hX hT hB hw2 (by omega)
    obtain ⟨hB1, hlt⟩ := hB.at hw1 (pal_b hO hoi) (shI_le (shS L w o i) (pfo L (o i)) (pal L (o i)) (pac L (o i)) w)
    have hs72 := hB1.1
    have hfit := shAt_fit (T := shS L w o i) (fo := pfo L (o i)) (al := pal L (o i)) (hlay _ hoi)
    have bb := hB1.2 _ hlt
    obtain ⟨u1, u2, u3⟩ := T1.2 _ hlt
    have hX1 : HM σ1 L := hX.only (fun k i q => f1 k i (by omega) (by omega))
    rw [Fm_packShelves_7.eq_2, hX.1, if_neg (by omega), gmG_t (by omega), gmTN, hor i (by omega), gmL_s, e1, gmB_s, gmG_t (by omega), gmG_t (by omega), gmTN, gmTN, u1, gmL_s, gmUp_k (show (147 : Nat) ≠ 143 by decide), u3, gmL_s]
    rw [gmUp_k (show (147 : Nat) ≠ 144 by decide), gmUp_k (show (147 : Nat) ≠ 143 by decide), u3, gmUp_k (show (139 : Nat) ≠ 144 by decide), gmUp_k (show (139 : Nat) ≠ 143 by decide), (hX1.at hoi).2.2, gmG_t ⟨by omega, by omega⟩, gmL_s, gmG_t ⟨by omega, by omega⟩, show (i : Int) + 1 = ((i + 1 : Nat) : Int) by omega]
    generalize hs : shI (shS L w o i) (pfo L (o i)) (pal L (o i)) (pac L (o i)) w = s at *
    have eA : (shAt (shS L w o i) s (pal L (o i))).2.1 s = shA L w o i := by unfold shA; rw [hs]
    have eC : (shAt (shS L w o i) s (pal L (o i))).2.2.2 s = shC L w o i := by unfold shC; rw [hs]
    have eS : shS L w o (i + 1) = shPut (shAt (shS L w o i) s (pal L (o i))) s (pac L (o i)) := by rw [← hs]; rfl
    generalize hσ : gmUp (gmUp (gmUp σ1 143 (o i) ((shAt (shS L w o i) s (pal L (o i))).2.1 s)) 144 (o i) ((shAt (shS L w o i) s (pal L (o i))).2.2.2 s)) 147 s ((shAt (shS L w o i) s (pal L (o i))).2.2.2 s + pac L (o i)) = σ2
    have g0 : ∀ k i, k ≠ 143 → k ≠ 144 → k ≠ 147 → σ2 k i = σ1 k i := fun k i a b c => by rw [← hσ, gmUp_k c, gmUp_k b, gmUp_k a]
    have g3 : ∀ j, σ2 143 j = upA (σ1 143) (o i) (shA L w o i) j := fun j => by
      rw [← hσ, gmUp_k (by decide), gmUp_k (by decide), gmUp_fun, eA]
    have g4 : ∀ j, σ2 144 j = upA (σ1 144) (o i) (shC L w o i) j := fun j => by
      rw [← hσ, gmUp_k (by decide), gmUp_fun, gmUp_k' σ1, eC]
    have g7 : ∀ j, σ2 147 j = upA (σ1 147) s ((shAt (shS L w o i) s (pal L (o i))).2.2.2 s + pac L (o i)) j := fun j => by
      rw [← hσ, gmUp_fun, gmUp_k' (gmUp σ1 143 _ _), gmUp_k' σ1]
    have hX2 : HM σ2 L := hX1.only (fun k i q => g0 k i (by omega) (by omega) (by omega))
    obtain ⟨σ3, e3, p3, f3⟩ := ih n (i + 1) σ2 (by omega) (by omega) hX2 (fun j hj => by rw [g0 142 j (by decide) (by decide) (by decide), f1 142 j (by omega) (by omega)]; exact hor j hj)
      (by
        rw [eS]
        refine ⟨by rw [g0 133 15 (by decide) (by decide) (by decide)]; exact T1.1, fun t ht => ?_⟩
        have ht : t < (shAt (shS L w o i) s (pal L (o i))).1 := ht
        obtain ⟨v1, v2, v3⟩ := T1.2 t ht
        refine ⟨by rw [g0 145 t (by decide) (by decide) (by decide)]; exact v1, by rw [g0 146 t (by decide) (by decide) (by decide)]; exact v2, ?_⟩
        rw [g7]
        show _ = upA (shAt (shS L w o i) s (pal L (o i))).2.2.2 s _ t
        by_cases e : t = s
        · rw [e, upA_s, upA_s]
        · rw [upA_n e, upA_n e]; exact v3)
      (fun j hj => by
        unfold PM
        rw [g3, g4]
        by_cases e : j = i
        · rw [e, upA_s, upA_s]; exact ⟨rfl, rfl⟩
        · have hne : o j ≠ o i := fun z => e (ho.2.1 j i (by omega) (by omega) z)
          rw [upA_n hne, upA_n hne, f1 143 (o j) (by omega) (by omega), f1 144 (o j) (by omega) (by omega)]
          exact hP j (by omega))
    refine ⟨σ3, e3, p3, fun k' i' a b => ?_⟩
    rw [f3 k' i' a b, g0 k' i' (by omega) (by omega) (by omega), f1 k' i' a (by omega)]
theorem M_shelves {L : List PT} {w : Int} {o : Nat → Nat} {σ : St} (hO : AllOK L) (ho : Ord L.length o) (hw1 : 0 ≤ w) (hw2 : w ≤ 24) (hlay : layO L w) (hX : HM σ L) (hor : OrdM σ L.length o) : ∃ σ', Fm_packShelves w σ = some σ' ∧ (∀ j, j < L.length → PM σ' (o j) (shA L w o j) (shC L w o j)) ∧ ∀ k' i', (k' ≠ 133 ∨ i' ≠ 15) → (k' < 143 ∨ 147 < k') → σ' k' i' = σ k' i' := by
  have hl := hO.1
  unfold Fm_packShelves
  rw [gmL_s]
  have fr : ∀ k' i', (k' ≠ 133 ∨ i' ≠ 15) → gmUp σ 133 15 0 k' i' = σ k' i' := fun k' i' h => by
    rcases h with h | h
    · exact gmUp_k h
    · exact gmUp_i h
  obtain ⟨σ1, e1, p1, f1⟩ := M_sh7 (k := fun s14 => some s14) hO ho hw1 hw2 hlay L.length gmN 0 (gmUp σ 133 15 0) (by rw [gmN_e]; omega) (by omega) (hX.only (fun k i q => fr k i (by omega))) (fun j hj => by rw [fr 142 j (by omega)]; exact hor j hj) ⟨gmUp_s, fun s h => absurd h (Nat.not_lt_zero s)⟩ (fun j h => absurd h (Nat.not_lt_zero j))
  exact ⟨σ1, e1, p1, fun k' i' a b => by rw [f1 k' i' a b, fr k' i' a]⟩
