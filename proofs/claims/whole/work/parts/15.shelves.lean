def xOp (n : Nat) (r y1 y2 y3 : Int) (p4 : Nat) (s6 : St) (k : St → Option St) : Option St := gmG (0 ≤ r ∧ r < 72) (gmL (gmUp s6 129 (r).toNat y2) (fun s15 => gmL (gmUp s15 130 (r).toNat (s15 p4 3)) (fun s16 => gmL (gmUp s16 131 (r).toNat 0) (fun s17 => gmL ((y2 + (s17 p4 3)) : Int) (fun x18 => gmBv (Fp_placeAt p4 (s17 129 (r).toNat) (s17 131 (r).toNat) s17) (fun s19 => gmG (gmR ((s19 131 (r).toNat) + (s19 p4 4))) (gmL (gmUp s19 131 (r).toNat ((s19 131 (r).toNat) + (s19 p4 4))) (fun s21 => gmG (gmR (y1 + 1)) (gmG (gmR x18) (gmG (gmR (y3 + 1)) (Fk_packShelves_6 n (y1 + 1) x18 (y3 + 1) s21 k)))))))))))
def xPl (n : Nat) (r y1 y2 y3 : Int) (p4 : Nat) (s6 : St) (k : St → Option St) : Option St := gmG (0 ≤ r ∧ r < 72) (gmBv (Fp_placeAt p4 (s6 129 (r).toNat) (s6 131 (r).toNat) s6) (fun s10 => gmG (gmR ((s10 131 (r).toNat) + (s10 p4 4))) (gmL (gmUp s10 131 (r).toNat ((s10 131 (r).toNat) + (s10 p4 4))) (fun s12 => gmG (gmR (y3 + 1)) (Fk_packShelves_6 n y1 y2 (y3 + 1) s12 k)))))
theorem gmUp_k' (σ : St) {k k' i : Nat} {v : Int} (h : k' ≠ k := by decide) : gmUp σ k i v k' = σ k' := by
  funext j
  exact gmUp_k h
theorem X_sh6e (n : Nat) (y1 y2 y3 : Int) (σ : St) (k : St → Option St) : Fk_packShelves_6 (n + 1) y1 y2 y3 σ k = if (σ 54 1) ≤ y3 then k σ else gmG (0 ≤ y3 ∧ y3 < 72) (gmG (0 ≤ (σ 128 (y3).toNat) ∧ (σ 128 (y3).toNat) < 72) (gmL (gmTg 55 ((σ 128 (y3).toNat)).toNat) (fun p4 => if (σ p4 2) = 0 then gmB (Fk_firstShelfFor p4 y1 σ) (fun r7 s6 => if r7 = y1 then xOp n r7 y1 y2 y3 p4 s6 k else xPl n r7 y1 y2 y3 p4 s6 k) else if y1 = y1 then xOp n y1 y1 y2 y3 p4 σ k else xPl n y1 y1 y2 y3 p4 σ k))) := by
  rw [Fk_packShelves_6.eq_2]
  rfl
def ShX (σ : St) (T : ShT) : Prop := ∀ s, s < T.1 → σ 129 s = T.2.1 s ∧ σ 130 s = T.2.2.1 s ∧ σ 131 s = T.2.2.2 s
def ShM (σ : St) (T : ShT) : Prop := σ 133 15 = T.1 ∧ ∀ s, s < T.1 → σ 145 s = T.2.1 s ∧ σ 146 s = T.2.2.1 s ∧ σ 147 s = T.2.2.2 s
/-- a part is placed -/
def PX (σ : St) (L : List PT) (q : Nat) (a c : Int) : Prop := σ (56 + q) 5 = a ∧ σ (56 + q) 6 = c ∧ σ (56 + q) 7 = a + pal L q ∧ σ (56 + q) 8 = bitI (pac L q) c
theorem X_fs2 {L : List PT} {T : ShT} {w : Int} {k : St → Option (Int × St)} {q : Nat} {σ : St} (hO : AllOK L) (hq : q < L.length) (hX : HX σ L) (hw : σ 54 2 = w) (hT : ShX σ T) (hB : ShB T 72 w) (hw2 : w ≤ 24) : ∀ (d n : Nat), d ≤ T.1 → d < n → (shF T (pal L q) (pac L q) w d = T.1 → Fk_firstShelfFor_2 n (56 + q) T.1 ((T.1 - d : Nat) : Int) σ k = k σ) ∧ (shF T (pal L q) (pac L q) w d < T.1 → Fk_firstShelfFor_2 n (56 + q) T.1 ((T.1 - d : Nat) : Int) σ k = some ((shF T (pal L q) (pac L q) w d : Int), σ)) := by
  have hl := hO.1
  have h72 := hB.1
  intro d
  induction d with
  | zero =>
    intro n hd hn
    obtain ⟨n, rfl⟩ : ∃ m, n = m + 1 := ⟨n - 1, by omega⟩
    rw [Fk_firstShelfFor_2.eq_2, if_pos (by omega)]
    exact ⟨fun _ => rfl, fun h => absurd h (by unfold shF; omega)⟩
  | succ d ih =>
    intro n hd hn
    obtain ⟨n, rfl⟩ : ∃ m, n = m + 1 := ⟨n - 1, by omega⟩
    obtain ⟨-, h3, h4⟩ := hX.at hq
    obtain ⟨-, t2, t3⟩ := hT (T.1 - (d + 1)) (by omega)
    have bb := hB.2 (T.1 - (d + 1)) (by omega)
    have b2 := pac_b hO hq
    have ih := ih n (by omega) (by omega)
    have hnx : ((T.1 - (d + 1) : Nat) : Int) + 1 = ((T.1 - d : Nat) : Int) := by omega
    rw [Fk_firstShelfFor_2.eq_2, if_neg (by omega), gmG_t (by omega), gmTN, t2, t3, h3, h4, hw]
    unfold shF
    by_cases c1 : T.2.2.1 (T.1 - (d + 1)) < pal L q
    · rw [if_pos c1, if_pos c1, gmG_t ⟨by omega, by omega⟩, hnx]
      exact ih
    · rw [if_neg c1, if_neg c1, gmG_t ⟨by omega, by omega⟩]
      by_cases c2 : w < T.2.2.2 (T.1 - (d + 1)) + pac L q
      · rw [if_pos c2, if_pos c2, gmG_t ⟨by omega, by omega⟩, hnx]
        exact ih
      · rw [if_neg c2, if_neg c2]
        exact ⟨fun h => absurd h (by omega), fun _ => rfl⟩
theorem X_fs {L : List PT} {T : ShT} {w : Int} {q : Nat} {σ : St} (hO : AllOK L) (hq : q < L.length) (hX : HX σ L) (hw : σ 54 2 = w) (hT : ShX σ T) (hB : ShB T 72 w) (hw2 : w ≤ 24) : Fk_firstShelfFor (56 + q) T.1 σ = some ((shF T (pal L q) (pac L q) w T.1 : Int), σ) := by
  have h72 := hB.1
  unfold Fk_firstShelfFor
  obtain ⟨h1, h2⟩ := X_fs2 (k := fun s8 => some ((T.1 : Int), s8)) hO hq hX hw hT hB hw2 T.1 gmN (Nat.le_refl _) (by rw [gmN_e]; omega)
  rw [show ((T.1 - T.1 : Nat) : Int) = 0 by omega] at h1 h2
  have hle := shF_le T (pal L q) (pac L q) w T.1
  rcases Nat.lt_or_ge (shF T (pal L q) (pac L q) w T.1) T.1 with h | h
  · exact h2 h
  · have : shF T (pal L q) (pac L q) w T.1 = T.1 := by omega
    rw [this]
    exact h1 this
/-- what stays while shelves are filled: all but the shelves and the place of part q -/
def FrS (σ σ' : St) (q : Nat) : Prop := ∀ k i, (k < 129 ∨ 131 < k) → (k ≠ 56 + q ∨ i < 5 ∨ 8 < i) → σ' k i = σ k i
theorem X_pl {L : List PT} {T : ShT} {w : Int} {q s i n : Nat} {y1 y2 : Int} {σ : St} {k : St → Option St} (hO : AllOK L) (hq : q < L.length) (hX : HX σ L) (hT : ShX σ T) (hB : ShB T 72 w) (hw2 : w ≤ 24) (hs : s < T.1) (hf : T.2.2.2 s + pac L q ≤ w) (hi : i < 72) : ∃ σ', xPl n s y1 y2 i (56 + q) σ k = Fk_packShelves_6 n y1 y2 ((i + 1 : Nat) : Int) σ' k ∧ ShX σ' (shPut T s (pac L q)) ∧ PX σ' L q (T.2.1 s) (T.2.2.2 s) ∧ FrS σ σ' q := by
  have hl := hO.1
  have h72 := hB.1
  obtain ⟨-, h3, h4⟩ := hX.at hq
  have bb := hB.2 s hs
  have b1 := pal_b hO hq
  have b2 := pac_b hO hq
  obtain ⟨t1, t2, t3⟩ := hT s hs
  unfold xPl
  rw [gmG_t (by omega), gmTN, t1, t3, X_placeAt h3 h4 b1 b2 (by omega) (by omega), gmBv_s]
  generalize hp : plc σ (56 + q) (T.2.1 s) (T.2.2.2 s) (T.2.1 s + pal L q) (bitI (pac L q) (T.2.2.2 s)) = σ1
  have f1 : ∀ k' i', k' ≠ 56 + q ∨ i' < 5 ∨ 8 < i' → σ1 k' i' = σ k' i' := fun k' i' h => by rw [← hp]; exact plc_k h
  have f2 := @plc_at σ (56 + q) (T.2.1 s) (T.2.2.2 s) (T.2.1 s + pal L q) (bitI (pac L q) (T.2.2.2 s))
  rw [hp] at f2
  rw [f1 131 s (by omega), f1 (56 + q) 4 (by omega), t3, h4, gmG_t ⟨by omega, by omega⟩, gmL_s, gmG_t ⟨by omega, by omega⟩, show (i : Int) + 1 = ((i + 1 : Nat) : Int) by omega]
  refine ⟨_, rfl, fun t ht => ?_, ?_, fun k' i' g1 g2 => ?_⟩
  · have ht : t < T.1 := ht
    obtain ⟨u1, u2, u3⟩ := hT t ht
    rw [gmUp_k (by decide), gmUp_k (by decide), f1 129 t (by omega), f1 130 t (by omega)]
    refine ⟨u1, u2, ?_⟩
    show _ = upA T.2.2.2 s (T.2.2.2 s + pac L q) t
    by_cases e : t = s
    · rw [e, gmUp_s, upA_s]
    · rw [gmUp_i e, upA_n e, f1 131 t (by omega), u3]
  · unfold PX
    rw [gmUp_k (by omega), gmUp_k (by omega), gmUp_k (by omega), gmUp_k (by omega)]
    exact f2
  · rw [gmUp_k (by omega), f1 k' i' g2]
theorem X_op {L : List PT} {T : ShT} {w : Int} {q i n : Nat} {σ : St} {k : St → Option St} (hO : AllOK L) (hq : q < L.length) (hX : HX σ L) (hT : ShX σ T) (hB : ShB T i w) (hw2 : w ≤ 24) (hf : pac L q ≤ w) (hi : i < 72) : ∃ σ', xOp n T.1 T.1 (shEnd T) i (56 + q) σ k = Fk_packShelves_6 n ((T.1 + 1 : Nat) : Int) (shEnd T + pal L q) ((i + 1 : Nat) : Int) σ' k ∧ ShX σ' (shPut (shOpen T (pal L q)) T.1 (pac L q)) ∧ PX σ' L q (shEnd T) 0 ∧ FrS σ σ' q := by
  have hl := hO.1
  have h72 := hB.1
  have he := hB.end
  obtain ⟨-, h3, h4⟩ := hX.at hq
  have b1 := pal_b hO hq
  have b2 := pac_b hO hq
  unfold xOp
  rw [gmG_t (by omega), gmTN, gmL_s, gmL_s, gmL_s, gmUp_k (show 56 + q ≠ 129 by omega), h3]
  generalize h0 : gmUp (gmUp (gmUp σ 129 T.1 (shEnd T)) 130 T.1 (pal L q)) 131 T.1 0 = σ0
  have f0 : ∀ k' i', (k' < 129 ∨ 131 < k') → σ0 k' i' = σ k' i' := fun k' i' h => by rw [← h0, gmUp_k (by omega), gmUp_k (by omega), gmUp_k (by omega)]
  have e1 : ∀ t, σ0 129 t = upA (σ 129) T.1 (shEnd T) t := fun t => by rw [← h0, gmUp_k (by decide), gmUp_k (by decide), gmUp_fun]
  have e2 : ∀ t, σ0 130 t = upA (σ 130) T.1 (pal L q) t := fun t => by rw [← h0, gmUp_k (by decide), gmUp_fun, gmUp_k' σ]
  have e3 : ∀ t, σ0 131 t = upA (σ 131) T.1 0 t := fun t => by rw [← h0, gmUp_fun, gmUp_k' (gmUp σ 129 T.1 (shEnd T)), gmUp_k' σ]
  have h30 : σ0 (56 + q) 3 = pal L q := by rw [f0 _ _ (by omega)]; exact h3
  have h40 : σ0 (56 + q) 4 = pac L q := by rw [f0 _ _ (by omega)]; exact h4
  rw [gmL_s, e1, e3, upA_s, upA_s, h30, X_placeAt h30 h40 b1 b2 (by omega) (by omega), gmBv_s]
  generalize hp : plc σ0 (56 + q) (shEnd T) 0 (shEnd T + pal L q) (bitI (pac L q) 0) = σ1
  have f1 : ∀ k' i', k' ≠ 56 + q ∨ i' < 5 ∨ 8 < i' → σ1 k' i' = σ0 k' i' := fun k' i' h => by rw [← hp]; exact plc_k h
  have f2 := @plc_at σ0 (56 + q) (shEnd T) 0 (shEnd T + pal L q) (bitI (pac L q) 0)
  rw [hp] at f2
  rw [f1 131 T.1 (by omega), f1 (56 + q) 4 (by omega), e3, upA_s, h40, gmG_t ⟨by omega, by omega⟩, gmL_s, gmG_t ⟨by omega, by omega⟩, gmG_t ⟨by omega, by omega⟩, gmG_t ⟨by omega, by omega⟩, show (i : Int) + 1 = ((i + 1 : Nat) : Int) by omega, show (T.1 : Int) + 1 = ((T.1 + 1 : Nat) : Int) by omega]
  refine ⟨_, rfl, fun t ht => ?_, ?_, fun k' i' g1 g2 => ?_⟩
  · have ht : t < T.1 + 1 := ht
    rw [gmUp_k (by decide), gmUp_k (by decide), f1 129 t (by omega), f1 130 t (by omega), e1, e2]
    show upA (σ 129) T.1 (shEnd T) t = upA T.2.1 T.1 (shEnd T) t ∧ upA (σ 130) T.1 (pal L q) t = upA T.2.2.1 T.1 (pal L q) t ∧ _ = upA (upA T.2.2.2 T.1 0) T.1 (upA T.2.2.2 T.1 0 T.1 + pac L q) t
    by_cases e : t = T.1
    · rw [e, gmUp_s, upA_s, upA_s, upA_s, upA_s, upA_s, upA_s]
      exact ⟨rfl, rfl, rfl⟩
    · obtain ⟨u1, u2, u3⟩ := hT t (by omega)
      rw [gmUp_i e, upA_n e, upA_n e, upA_n e, upA_n e, upA_n e, upA_n e, f1 131 t (by omega), e3, upA_n e]
      exact ⟨u1, u2, u3⟩
  · unfold PX
    rw [gmUp_k (by omega), gmUp_k (by omega), gmUp_k (by omega), gmUp_k (by omega)]
    exact f2
  · rw [gmUp_k (by omega), f1 k' i' g2, f0 k' i' g1]
theorem shEnd_open {T : ShT} {al ac : Int} : shEnd (shPut (shOpen T al) T.1 ac) = shEnd T + al := by
  show (if T.1 + 1 = 0 then (0 : Int) else upA T.2.1 T.1 (shEnd T) (T.1 + 1 - 1) + upA T.2.2.1 T.1 al (T.1 + 1 - 1)) = _
  rw [if_neg (by omega), Nat.add_sub_cancel, upA_s, upA_s]
theorem PX.fr {σ σ' : St} {L : List PT} {q p : Nat} {a c : Int} (h : PX σ L p a c) (f : FrS σ σ' q) (hp : p < 72) (hn : p ≠ q) : PX σ' L p a c := by
  unfold PX
  rw [f _ _ (by omega) (by omega), f _ _ (by omega) (by omega), f _ _ (by omega) (by omega), f _ _ (by omega) (by omega)]
  exact h
theorem FrS.hx {σ σ' : St} {L : List PT} {q : Nat} (f : FrS σ σ' q) (h : HX σ L) (hl : L.length ≤ 72) (hq : q < 72) : HX σ' L := h.only (fun k i g => f k i (by omega) (by omega)) hl
/-- the order, as the machines hold it -/
def OrdX (σ : St) (n : Nat) (o : Nat → Nat) : Prop := ∀ i, i < n → σ 128 i = (o i : Int)
def Ord (n : Nat) (o : Nat → Nat) : Prop := (∀ i, i < n → o i < n) ∧ (∀ i j, i < n → j < n → o i = o j → i = j) ∧ ∀ v, v < n → ∃ i, i < n ∧ o i = v
theorem X_sh6 {L : List PT} {w : Int} {o : Nat → Nat} {k : St → Option St} (hO : AllOK L) (ho : Ord L.length o) (hw1 : 0 ≤ w) (hw2 : w ≤ 24) (hlay : layO L w) : ∀ (d n i : Nat) (σ : St), d < n → i + d = L.length → HX σ L → OrdX σ L.length o → σ 54 2 = w → ShX σ (shS L w o i) → (∀ j, j < i → PX σ L (o j) (shA L w o j) (shC L w o j)) → ∃ σ', Fk_packShelves_6 n (shS L w o i).1 (shEnd (shS L w o i)) i σ k = k σ' ∧ (∀ j, j < L.length → PX σ' L (o j) (shA L w o j) (shC L w o j)) ∧ ∀ k' i', (k' < 129 ∨ 131 < k') → (k' < 56 ∨ 128 ≤ k' ∨ i' < 5 ∨ 8 < i') → σ' k' i' = σ k' i' := by
  have hl := hO.1
  intro d
  induction d with
  | zero =>
    intro n i σ hn hd hX hor hw hT hP
    obtain ⟨n, rfl⟩ : ∃ m, n = m + 1 := ⟨n - 1, by omega⟩
    rw [X_sh6e, hX.1, if_pos (by omega)]
    have : i = L.length := by omega
    subst this
    exact ⟨σ, rfl, hP, fun _ _ _ _ => rfl⟩
  | succ d ih =>
    intro n i σ hn hd hX hor hw hT hP
    obtain ⟨n, rfl⟩ : ∃ m, n = m + 1 := ⟨n - 1, by omega⟩
    have hoi := ho.1 i (by omega)
    have hB := shS_b hO hw1 hlay i (fun j hj => ho.1 j (by omega))
    have hB72 : ShB (shS L w o i) 72 w := ⟨by have := hB.1; omega, hB.2⟩
    have key : ∀ σ', FrS σ σ' (o i) → ShX σ' (shS L w o (i + 1)) → PX σ' L (o i) (shA L w o i) (shC L w o i) → ∃ σ'', Fk_packShelves_6 n (shS L w o (i + 1)).1 (shEnd (shS L w o (i + 1))) ((i + 1 : Nat) : Int) σ' k = k σ'' ∧ (∀ j, j < L.length → PX σ'' L (o j) (shA L w o j) (shC L w o j)) ∧ ∀ k' i', (k' < 129 ∨ 131 < k') → (k' < 56 ∨ 128 ≤ k' ∨ i' < 5 ∨ 8 < i') → σ'' k' i' = σ k' i' := by
      intro σ' f h1 h2
      obtain ⟨σ2, e2, p2, f2⟩ := ih n (i + 1) σ' (by omega) (by omega) (f.hx hX hl (by omega)) (fun j hj => by rw [f 128 j (by omega) (by omega)]; exact hor j hj) (by rw [f 54 2 (by omega) (by omega)]; exact hw) h1 (fun j hj => by
        by_cases e : j = i
        · rw [e]; exact h2
        · have := ho.1 j (by omega)
          exact (hP j (by omega)).fr f (by omega) (fun z => e (ho.2.1 j i (by omega) (by omega) z)))
      exact ⟨σ2, e2, p2, fun k' i' g1 g2 => by rw [f2 k' i' g1 g2, f k' i' g1 (by omega)]⟩
    rw [X_sh6e, hX.1, if_neg (by omega), gmG_t (by omega), gmTN, hor i (by omega), gmG_t (by omega), gmTN, gmTg_55, gmL_s, (hX.at hoi).1, if_pos rfl]
    have hopen : shI (shS L w o i) (pfo L (o i)) (pal L (o i)) (pac L (o i)) w = (shS L w o i).1 → ∃ σ'', xOp n (shS L w o i).1 (shS L w o i).1 (shEnd (shS L w o i)) i (56 + o i) σ k = k σ'' ∧ (∀ j, j < L.length → PX σ'' L (o j) (shA L w o j) (shC L w o j)) ∧ ∀ k' i', (k' < 129 ∨ 131 < k') → (k' < 56 ∨ 128 ≤ k' ∨ i' < 5 ∨ 8 < i') → σ'' k' i' = σ k' i' := by
      intro hs
      obtain ⟨σ1, e1, T1, P1, f1⟩ := X_op (n := n) (k := k) hO hoi hX hT hB hw2 (hlay _ hoi) (by omega)
      have e3 : shS L w o (i + 1) = shPut (shOpen (shS L w o i) (pal L (o i))) (shS L w o i).1 (pac L (o i)) := by
        show shPut (shAt _ _ _) _ _ = _
        rw [hs]
        unfold shAt
        rw [if_pos rfl]
      have e4 : shA L w o i = shEnd (shS L w o i) := by
        unfold shA
        rw [hs]
        unfold shAt
        rw [if_pos rfl]
        exact upA_s
      have e5 : shC L w o i = 0 := by
        unfold shC
        rw [hs]
        unfold shAt
        rw [if_pos rfl]
        exact upA_s
      rw [← e3] at T1
      rw [← e4, ← e5] at P1
      obtain ⟨σ2, e2, r⟩ := key σ1 f1 T1 P1
      refine ⟨σ2, ?_, r⟩
      rw [e1, ← e2, e3, shEnd_open]
      rfl
    have hplace : shI (shS L w o i) (pfo L (o i)) (pal L (o i)) (pac L (o i)) w ≠ (shS L w o i).1 → ∃ σ'', xPl n (shI (shS L w o i) (pfo L (o i)) (pal L (o i)) (pac L (o i)) w) (shS L w o i).1 (shEnd (shS L w o i)) i (56 + o i) σ k = k σ'' ∧ (∀ j, j < L.length → PX σ'' L (o j) (shA L w o j) (shC L w o j)) ∧ ∀ k' i', (k' < 129 ∨ 131 < k') → (k' < 56 ∨ 128 ≤ k' ∨ i' < 5 ∨ 8 < i') → σ'' k' i' = σ k' i' := by
      intro hs
      have hle := shI_le (shS L w o i) (pfo L (o i)) (pal L (o i)) (pac L (o i)) w
      obtain ⟨σ1, e1, T1, P1, f1⟩ := X_pl (n := n) (k := k) (y1 := ((shS L w o i).1 : Int)) (y2 := shEnd (shS L w o i)) (s := shI (shS L w o i) (pfo L (o i)) (pal L (o i)) (pac L (o i)) w) hO hoi hX hT hB72 hw2 (by omega) (shI_fit (by omega)) (by omega : i < 72)
      have e3 : shS L w o (i + 1) = shPut (shS L w o i) (shI (shS L w o i) (pfo L (o i)) (pal L (o i)) (pac L (o i)) w) (pac L (o i)) := by
        show shPut (shAt _ _ _) _ _ = _
        unfold shAt
        rw [if_neg hs]
      have e4 : shA L w o i = (shS L w o i).2.1 (shI (shS L w o i) (pfo L (o i)) (pal L (o i)) (pac L (o i)) w) := by
        unfold shA shAt
        rw [if_neg hs]
      have e5 : shC L w o i = (shS L w o i).2.2.2 (shI (shS L w o i) (pfo L (o i)) (pal L (o i)) (pac L (o i)) w) := by
        unfold shC shAt
        rw [if_neg hs]
      rw [← e3] at T1
      rw [← e4, ← e5] at P1
      obtain ⟨σ2, e2, r⟩ := key σ1 f1 T1 P1
      refine ⟨σ2, ?_, r⟩
      rw [e1, ← e2, e3]
      rfl
    rcases pfo_b hO hoi with hfo | hfo
    · have hI0 : shI (shS L w o i) (pfo L (o i)) (pal L (o i)) (pac L (o i)) w = shF (shS L w o i) (pal L (o i)) (pac L (o i)) w (shS L w o i).1 := by
        unfold shI
        rw [if_pos hfo]
      rw [if_pos hfo, X_fs hO hoi hX hw hT hB72 hw2, gmB_s, ← hI0]
      by_cases hs : shI (shS L w o i) (pfo L (o i)) (pal L (o i)) (pac L (o i)) w = (shS L w o i).1
      · rw [if_pos (by rw [hs]), hs]
        exact hopen hs
      · rw [if_neg (by omega)]
        exact hplace hs
    · rw [if_neg (by rw [hfo]; decide)]
      exact hopen (by unfold shI; rw [if_neg (by rw [hfo]; decide)])
theorem X_shelves {L : List PT} {w : Int} {o : Nat → Nat} {σ : St} (hO : AllOK L) (ho : Ord L.length o) (hw1 : 0 ≤ w) (hw2 : w ≤ 24) (hlay : layO L w) (hX : HX σ L) (hor : OrdX σ L.length o) (hw : σ 54 2 = w) : ∃ σ', Fk_packShelves σ = some σ' ∧ (∀ j, j < L.length → PX σ' L (o j) (shA L w o j) (shC L w o j)) ∧ ∀ k' i', (k' < 129 ∨ 131 < k') → (k' < 56 ∨ 128 ≤ k' ∨ i' < 5 ∨ 8 < i') → σ' k' i' = σ k' i' := by
  have hl := hO.1
  unfold Fk_packShelves
  exact X_sh6 (k := fun s42 => some s42) hO ho hw1 hw2 hlay L.length gmN 0 σ (by rw [gmN_e]; omega) (by omega) hX hor hw (fun s h => absurd h (Nat.not_lt_zero s)) (fun j h => absurd h (Nat.not_lt_zero j))
