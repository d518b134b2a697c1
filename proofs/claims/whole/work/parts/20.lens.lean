/-! LENGTHS -/
def oOf (L : List PT) (b : Int) (i : Nat) : Nat := (ordA (keyL L b) L.length i).toNat
theorem oOf_ord (L : List PT) (b : Int) : Ord L.length (oOf L b) := by
  obtain ⟨h1, h2, h3⟩ := ordA_perm (keyL L b) L.length
  refine ⟨fun i hi => ?_, fun i j hi hj he => ?_, fun v hv => ?_⟩
  · have := h1 i hi
    unfold oOf
    omega
  · have a1 := h1 i hi
    have a2 := h1 j hj
    unfold oOf at he
    exact h2 i j hi hj (by omega)
  · obtain ⟨i, hi, he⟩ := h3 v hv
    exact ⟨i, hi, by unfold oOf; omega⟩
theorem oOf_e {L : List PT} {b : Int} {i : Nat} (h : i < L.length) : ordA (keyL L b) L.length i = (oOf L b i : Int) := by
  have := (ordA_perm (keyL L b) L.length).1 i h
  unfold oOf
  omega
/-- the places, in the order of the order -/
def PosO (L : List PT) (w b m : Int) (pA pC : Nat → Int) : Prop := if m = 0 then ∀ i, i < L.length → pA i = shA L w (oOf L b) i ∧ pC i = shC L w (oOf L b) i else FFp L w (oOf L b) pA pC L.length
theorem PosO.uniq {L : List PT} {w b m : Int} {pA pC qA qC : Nat → Int} (h : PosO L w b m pA pC) (h' : PosO L w b m qA qC) : ∀ i, i < L.length → pA i = qA i ∧ pC i = qC i := by
  unfold PosO at h h'
  by_cases hm : m = 0
  · rw [if_pos hm] at h h'
    intro i hi
    rw [(h i hi).1, (h i hi).2, (h' i hi).1, (h' i hi).2]
    exact ⟨rfl, rfl⟩
  · rw [if_neg hm] at h h'
    exact h.uniq h'
/-- the places of the parts -/
def PosP (L : List PT) (w b m : Int) (P : Nat → Int × Int) : Prop := ∃ pA pC, PosO L w b m pA pC ∧ ∀ i, i < L.length → P (oOf L b i) = (pA i, pC i)
theorem PosP.uniq {L : List PT} {w b m : Int} {P Q : Nat → Int × Int} (h : PosP L w b m P) (h' : PosP L w b m Q) : ∀ j, j < L.length → P j = Q j := by
  obtain ⟨pA, pC, h1, h2⟩ := h
  obtain ⟨qA, qC, h3, h4⟩ := h'
  intro j hj
  obtain ⟨i, hi, rfl⟩ := (oOf_ord L b).2.2 j hj
  rw [h2 i hi, h4 i hi, (h1.uniq h3 i hi).1, (h1.uniq h3 i hi).2]
def mxF (f : Nat → Int) : Nat → Int
  | 0 => 0
  | n + 1 => if mxF f n < f n then f n else mxF f n
theorem mxF_congr {f g : Nat → Int} : ∀ n, (∀ j, j < n → f j = g j) → mxF f n = mxF g n
  | 0, _ => rfl
  | n + 1, h => by
    unfold mxF
    rw [mxF_congr n (fun j hj => h j (by omega)), h n (by omega)]
theorem mxF_b {f : Nat → Int} {B : Int} (hB : 0 ≤ B) : ∀ n, (∀ j, j < n → f j ≤ B) → 0 ≤ mxF f n ∧ mxF f n ≤ B
  | 0, _ => ⟨Int.le_refl 0, hB⟩
  | n + 1, h => by
    have ih := mxF_b hB n (fun j hj => h j (by omega))
    have := h n (by omega)
    unfold mxF
    split <;> omega
def LenR (L : List PT) (w b m r : Int) : Prop := (¬ layO L w ∧ r = -1007) ∨ (layO L w ∧ (0 ≤ r ∧ r ≤ 1296) ∧ ∃ P, PosP L w b m P ∧ r = mxF (fun j => (P j).1 + pal L j) L.length)
theorem LenR.uniq {L : List PT} {w b m r r' : Int} (h : LenR L w b m r) (h' : LenR L w b m r') : r = r' := by
  rcases h with ⟨a, e⟩ | ⟨a, -, P, hP, e⟩
  · rcases h' with ⟨-, e'⟩ | ⟨a', -⟩
    · rw [e, e']
    · exact absurd a' a
  · rcases h' with ⟨a', -⟩ | ⟨-, -, Q, hQ, e'⟩
    · exact absurd a a'
    · rw [e, e']
      exact mxF_congr _ (fun j hj => by rw [hP.uniq hQ j hj])
theorem LenR.b {L : List PT} {w b m r : Int} (h : LenR L w b m r) : r = -1007 ∨ (0 ≤ r ∧ r ≤ 1296) := by
  rcases h with ⟨-, e⟩ | ⟨-, e, -⟩
  · exact Or.inl e
  · exact Or.inr e
theorem LenR.lay {L : List PT} {w b m r : Int} (h : LenR L w b m r) : r = -1007 ↔ ¬ layO L w := by
  rcases h with ⟨a, e⟩ | ⟨a, e, -⟩
  · exact ⟨fun _ => a, fun _ => e⟩
  · exact ⟨fun z => by omega, fun z => absurd a z⟩
def PlX (σ : St) (L : List PT) (P : Nat → Int × Int) : Prop := ∀ j, j < L.length → σ (56 + j) 5 = (P j).1 ∧ σ (56 + j) 6 = (P j).2 ∧ σ (56 + j) 7 = (P j).1 + pal L j
def PlM (σ : St) (L : List PT) (P : Nat → Int × Int) : Prop := ∀ j, j < L.length → σ 143 j = (P j).1 ∧ σ 144 j = (P j).2
def FrP (σ σ' : St) : Prop := ∀ k i, (k < 56 ∨ 132 ≤ k ∨ (k < 128 ∧ i < 5)) → σ' k i = σ k i
theorem FrP.rf {σ : St} : FrP σ σ := fun _ _ _ => rfl
theorem FrP.tr {σ σ' σ'' : St} (h : FrP σ σ') (h' : FrP σ' σ'') : FrP σ σ'' := fun k i q => (h' k i q).trans (h k i q)
theorem FrP.hx {σ σ' : St} {L : List PT} (f : FrP σ σ') (h : HX σ L) (hl : L.length ≤ 72) : HX σ' L := h.only (fun k i q => f k i (by omega)) hl
theorem X_lp36 {L : List PT} {P : Nat → Int × Int} {k : Int → St → Option (Int × St)} (hO : AllOK L) (hb : ∀ j, j < L.length → 0 ≤ (P j).1 ∧ (P j).1 + pal L j ≤ 1296) : ∀ (d n c : Nat) (σ : St), d < n → c + d = L.length → HX σ L → PlX σ L P → Fk_lengthPacked_36 n (mxF (fun j => (P j).1 + pal L j) c) c σ k = k (mxF (fun j => (P j).1 + pal L j) L.length) σ := by
  have hl := hO.1
  intro d
  induction d with
  | zero =>
    intro n c σ hn hd hX hP
    obtain ⟨n, rfl⟩ : ∃ m, n = m + 1 := ⟨n - 1, by omega⟩
    rw [Fk_lengthPacked_36.eq_2, hX.1, if_pos (by omega)]
    have : c = L.length := by omega
    subst this
    rfl
  | succ d ih =>
    intro n c σ hn hd hX hP
    obtain ⟨n, rfl⟩ : ∃ m, n = m + 1 := ⟨n - 1, by omega⟩
    rw [Fk_lengthPacked_36.eq_2, hX.1, if_neg (by omega), gmG_t (by omega), gmTN, gmTg_55, (hP c (by omega)).2.2, gmL_s, gmG_t ⟨by omega, by omega⟩, show (c : Int) + 1 = ((c + 1 : Nat) : Int) by omega]
    exact ih n (c + 1) σ (by omega) (by omega) hX hP
theorem PosO_b {L : List PT} {w b m : Int} {pA pC : Nat → Int} (hO : AllOK L) (hw : 0 ≤ w) (hlay : layO L w) (hm : m = 0) (h : PosO L w b m pA pC) : ∀ i, i < L.length → 0 ≤ pA i ∧ pA i ≤ 18 * i := by
  unfold PosO at h
  rw [if_pos hm] at h
  intro i hi
  have ho := oOf_ord L b
  have hB := shS_b (o := oOf L b) hO hw hlay i (fun j hj => ho.1 j (by omega))
  obtain ⟨hB1, hlt⟩ := hB.at hw (pal_b hO (ho.1 i hi)) (shI_le (shS L w (oOf L b) i) (pfo L (oOf L b i)) (pal L (oOf L b i)) (pac L (oOf L b i)) w)
  have h2 := hB1.2 _ hlt
  have h3 := hB1.1
  rw [(h i hi).1]
  unfold shA
  omega
theorem X_lengthPacked {L : List PT} {w b m : Int} {σ : St} (hO : AllOK L) (hw1 : 0 ≤ w) (hw2 : w ≤ 24) (hX : HX σ L) (hw : σ 54 2 = w) : ∃ r σ', Fk_lengthPacked m b σ = some (r, σ') ∧ LenR L w b m r ∧ FrP σ σ' ∧ (layO L w → ∃ P, PosP L w b m P ∧ PlX σ' L P) := by
  have hl := hO.1
  obtain ⟨hlay1, hlay2⟩ := X_hasLayout hO hX hw
  unfold Fk_lengthPacked
  by_cases hlay : layO L w
  · rw [hlay1 hlay, gmB_s, if_neg (by decide)]
    obtain ⟨σ1, e1, s1, f1⟩ := X_sort (b := b) hO hX
    rw [e1, gmBv_s]
    have hX1 : HX σ1 L := hX.only (fun k i q => f1 k i (by omega)) hl
    have hw1' : σ1 54 2 = w := by rw [f1 54 2 (by decide)]; exact hw
    have hor : OrdX σ1 L.length (oOf L b) := fun i hi => by rw [s1 i hi]; exact oOf_e hi
    have ho := oOf_ord L b
    have fin : ∀ (σ2 : St) (pA pC : Nat → Int), PosO L w b m pA pC → (∀ i, i < L.length → 0 ≤ pA i ∧ pA i ≤ 18 * i) → (∀ j, j < L.length → PX σ2 L (oOf L b j) (pA j) (pC j)) → FrP σ σ2 → ∃ r σ', Fk_lengthPacked_36 gmN 0 0 σ2 (fun x14 s15 => some (x14, s15)) = some (r, σ') ∧ LenR L w b m r ∧ FrP σ σ' ∧ (layO L w → ∃ P, PosP L w b m P ∧ PlX σ' L P) := by
      intro σ2 pA pC hpos hpb hPX hfr
      have hX2 := hfr.hx hX hl
      have hPl : PlX σ2 L (fun j => (σ2 (56 + j) 5, σ2 (56 + j) 6)) := fun j hj => by
        obtain ⟨i, hi, rfl⟩ := ho.2.2 j hj
        obtain ⟨a1, a2, a3, -⟩ := hPX i hi
        exact ⟨rfl, rfl, by show σ2 (56 + oOf L b i) 7 = σ2 (56 + oOf L b i) 5 + pal L (oOf L b i); rw [a3, a1]⟩
      have hPP : PosP L w b m (fun j => (σ2 (56 + j) 5, σ2 (56 + j) 6)) := ⟨pA, pC, hpos, fun i hi => by
        obtain ⟨a1, a2, -, -⟩ := hPX i hi
        show (σ2 (56 + oOf L b i) 5, σ2 (56 + oOf L b i) 6) = _
        rw [a1, a2]⟩
      have hb : ∀ j, j < L.length → 0 ≤ σ2 (56 + j) 5 ∧ σ2 (56 + j) 5 + pal L j ≤ 1296 := fun j hj => by
        obtain ⟨i, hi, rfl⟩ := ho.2.2 j hj
        have := (hPX i hi).1
        have := hpb i hi
        have := pal_b hO hj
        omega
      refine ⟨_, σ2, X_lp36 (P := fun j => (σ2 (56 + j) 5, σ2 (56 + j) 6)) (k := fun x14 s15 => some (x14, s15)) hO hb L.length gmN 0 σ2 (by rw [gmN_e]; omega) (by omega) hX2 hPl, Or.inr ⟨hlay, mxF_b (by omega) _ (fun j hj => (hb j hj).2), _, hPP, rfl⟩, hfr, fun _ => ⟨_, hPP, hPl⟩⟩
    by_cases hm : m = 0
    · rw [if_pos hm]
      obtain ⟨σ2, e2, p2, f2⟩ := X_shelves hO ho hw1 hw2 hlay hX1 hor hw1'
      rw [e2, gmBv_s]
      have hpos : PosO L w b m (shA L w (oOf L b)) (shC L w (oOf L b)) := by
        unfold PosO
        rw [if_pos hm]
        exact fun _ _ => ⟨rfl, rfl⟩
      exact fin σ2 _ _ hpos (PosO_b hO hw1 hlay hm hpos) p2 (fun k i q => by rw [f2 k i (by omega) (by omega), f1 k i (by omega)])
    · rw [if_neg hm]
      obtain ⟨σ2, pA, pC, e2, q1, q2, p2, f2⟩ := X_firstFree hO ho hw2 hlay hX1 hor hw1'
      rw [e2, gmBv_s]
      have hpos : PosO L w b m pA pC := by
        unfold PosO
        rw [if_neg hm]
        exact q1
      exact fin σ2 _ _ hpos (fun i hi => (q2 i hi).1) p2 (fun k i q => by rw [f2 k i (by omega), f1 k i (by omega)])
  · rw [hlay2 hlay, gmB_s, if_pos rfl]
    exact ⟨-1007, σ, rfl, Or.inl ⟨hlay, rfl⟩, FrP.rf, fun h => absurd h hlay⟩
/-- what the reference's looks leave -/
def FrQ (σ σ' : St) : Prop := ∀ k i, (k ≤ 132 ∨ (134 ≤ k ∧ k ≤ 136) ∨ (k = 133 ∧ i ≠ 8 ∧ i ≠ 15) ∨ 149 ≤ k) → σ' k i = σ k i
theorem FrQ.rf {σ : St} : FrQ σ σ := fun _ _ _ => rfl
theorem FrQ.tr {σ σ' σ'' : St} (h : FrQ σ σ') (h' : FrQ σ' σ'') : FrQ σ σ'' := fun k i q => (h' k i q).trans (h k i q)
theorem FrQ.ar {σ σ' : St} {a : Ar} (h : FrQ σ σ') (hA : σ 134 = a) : σ' 134 = a := by
  rw [← hA]; funext i; exact h 134 i (by omega)
theorem FrM.q {σ σ' : St} (h : FrM σ σ') : FrQ σ σ' := fun k i q => h k i (by omega)
theorem pts_all {a : Ar} (hI : InvC a) : AllOK (pts a) := ⟨pts_len hI, pts_ok hI⟩
theorem M_pack {a : Ar} {b m : Int} {σ : St} (hb : 0 ≤ b ∧ b ≤ 3) (hA : σ 134 = a) (hI : InvC a) : ∃ r σ', Fm_pack m b σ = some (r, σ') ∧ HM σ' (pts a) ∧ FrQ σ σ' ∧ ((layO (pts a) (strip a) ∧ r = 1 ∧ ∃ P, PosP (pts a) (strip a) b m P ∧ PlM σ' (pts a) P ∧ ∀ j, j < (pts a).length → 0 ≤ (P j).1 ∧ (P j).1 + pal (pts a) j ≤ 1296) ∨ (¬ layO (pts a) (strip a) ∧ r = 0)) := by
  have hO := pts_all hI
  have hl := hO.1
  have hw := strip_b hI
  obtain ⟨σ1, e1, h1, f1⟩ := M_layParts hA hI
  obtain ⟨l1, l2⟩ := M_pk12 (w := strip a) (u := m) (v := b) (k := fun s8 => gmBv (Fm_layOrder b s8) (fun s9 => if m = 0 then gmBv (Fm_packShelves (strip a) s9) (fun s12 => some (1, s12)) else gmBv (Fm_packFree (strip a) s9) (fun s11 => some (1, s11)))) hO (pts a).length gmN 0 σ1 (by rw [gmN_e]; omega) (by omega) h1
  unfold Fm_pack
  rw [e1, gmBv_s, M_strip (f1.ar hA) hI, gmB_s]
  rw [layC_0] at l1 l2
  by_cases hlay : layO (pts a) (strip a)
  · have ho := oOf_ord (pts a) b
    obtain ⟨σ2, e2, s2, f2⟩ := M_sort hb hO h1
    have h2 : HM σ2 (pts a) := h1.only (fun k i q => f2 k i (by omega))
    have hor : OrdM σ2 (pts a).length (oOf (pts a) b) := fun i hi => by rw [s2 i hi]; exact oOf_e hi
    have fin : ∀ (σ3 : St) (pA pC : Nat → Int), PosO (pts a) (strip a) b m pA pC → (∀ i, i < (pts a).length → 0 ≤ pA i ∧ pA i ≤ 18 * i) → (∀ j, j < (pts a).length → PM σ3 (oOf (pts a) b j) (pA j) (pC j)) → ∃ P, PosP (pts a) (strip a) b m P ∧ PlM σ3 (pts a) P ∧ ∀ j, j < (pts a).length → 0 ≤ (P j).1 ∧ (P j).1 + pal (pts a) j ≤ 1296 := by
      intro σ3 pA pC hpos hpb hPM
      refine ⟨fun j => (σ3 143 j, σ3 144 j), ⟨pA, pC, hpos, fun i hi => ?_⟩, fun j hj => ⟨rfl, rfl⟩, fun j hj => ?_⟩
      · obtain ⟨a1, a2⟩ := hPM i hi
        show (σ3 143 (oOf (pts a) b i), σ3 144 (oOf (pts a) b i)) = _
        rw [a1, a2]
      · obtain ⟨i, hi, rfl⟩ := ho.2.2 j hj
        have := (hPM i hi).1
        have := hpb i hi
        have := pal_b hO hj
        show 0 ≤ σ3 143 (oOf (pts a) b i) ∧ σ3 143 (oOf (pts a) b i) + pal (pts a) (oOf (pts a) b i) ≤ 1296
        omega
    by_cases hm : m = 0
    · obtain ⟨σ3, e3, p3, f3⟩ := M_shelves hO ho (by omega) hw.2 hlay h2 hor
      have hpos : PosO (pts a) (strip a) b m (shA (pts a) (strip a) (oOf (pts a) b)) (shC (pts a) (strip a) (oOf (pts a) b)) := by
        unfold PosO
        rw [if_pos hm]
        exact fun _ _ => ⟨rfl, rfl⟩
      refine ⟨1, σ3, ?_, h2.only (fun k i q => f3 k i (by omega) (by omega)), fun k i q => by rw [f3 k i (by omega) (by omega), f2 k i (by omega), f1.q k i q], Or.inl ⟨hlay, rfl, fin σ3 _ _ hpos (PosO_b hO (by omega) hlay hm hpos) p3⟩⟩
      refine (l1 hlay).trans ?_
      rw [e2, gmBv_s, if_pos hm, e3, gmBv_s]
    · obtain ⟨σ3, pA, pC, e3, q1, q2, p3, f3⟩ := M_firstFree hO ho hw.2 hlay h2 hor
      have hpos : PosO (pts a) (strip a) b m pA pC := by
        unfold PosO
        rw [if_neg hm]
        exact q1
      refine ⟨1, σ3, ?_, h2.only (fun k i q => f3 k i (by omega)), fun k i q => by rw [f3 k i (by omega), f2 k i (by omega), f1.q k i q], Or.inl ⟨hlay, rfl, fin σ3 _ _ hpos (fun i hi => (q2 i hi).1) p3⟩⟩
      refine (l1 hlay).trans ?_
      rw [e2, gmBv_s, if_neg hm, e3, gmBv_s]
  · exact ⟨0, σ1, l2 hlay, h1, f1.q, Or.inr ⟨hlay, rfl⟩⟩
theorem M_pl4 {L : List PT} {P : Nat → Int × Int} {k : Int → St → Option (Int × St)} (hO : AllOK L) (hb : ∀ j, j < L.length → 0 ≤ (P j).1 ∧ (P j).1 + pal L j ≤ 1296) : ∀ (d n c : Nat) (σ : St), d < n → c + d = L.length → HM σ L → PlM σ L P → Fm_packedLength_4 n (mxF (fun j => (P j).1 + pal L j) c) c σ k = k (mxF (fun j => (P j).1 + pal L j) L.length) σ := by
  have hl := hO.1
  intro d
  induction d with
  | zero =>
    intro n c σ hn hd hX hP
    obtain ⟨n, rfl⟩ : ∃ m, n = m + 1 := ⟨n - 1, by omega⟩
    rw [Fm_packedLength_4.eq_2, hX.1, if_pos (by omega)]
    have : c = L.length := by omega
    subst this
    rfl
  | succ d ih =>
    intro n c σ hn hd hX hP
    obtain ⟨n, rfl⟩ : ∃ m, n = m + 1 := ⟨n - 1, by omega⟩
    have hbc := hb c (by omega)
    have hp := pal_b hO (by omega : c < L.length)
    have hm := mxF_b (f := fun j => (P j).1 + pal L j) (B := 1296) (by omega) c (fun j hj => (hb j (by omega)).2)
    have hm2 := mxF_b (f := fun j => (P j).1 + pal L j) (B := 1296) (by omega) (c + 1) (fun j hj => (hb j (by omega)).2)
    have e : (if (P c).1 + pal L c ≤ mxF (fun j => (P j).1 + pal L j) c then mxF (fun j => (P j).1 + pal L j) c else (P c).1 + pal L c) = mxF (fun j => (P j).1 + pal L j) (c + 1) := by
      show _ = if mxF (fun j => (P j).1 + pal L j) c < (P c).1 + pal L c then (P c).1 + pal L c else mxF (fun j => (P j).1 + pal L j) c
      split <;> split <;> omega
    rw [Fm_packedLength_4.eq_2, hX.1, if_neg (by omega), gmG_t (by omega), gmTN, (hP c (by omega)).1, (hX.at (by omega : c < L.length)).2.1, gmG_t ⟨by omega, by omega⟩, e, gmL_s, gmG_t ⟨by omega, by omega⟩, gmG_t ⟨by omega, by omega⟩, show (c : Int) + 1 = ((c + 1 : Nat) : Int) by omega]
    exact ih n (c + 1) σ (by omega) (by omega) hX hP
theorem M_lengthBy {a : Ar} {b m : Int} {σ : St} (hb : 0 ≤ b ∧ b ≤ 3) (hA : σ 134 = a) (hI : InvC a) : ∃ r σ', Fm_lengthBy m b σ = some (r, σ') ∧ LenR (pts a) (strip a) b m r ∧ HM σ' (pts a) ∧ FrQ σ σ' := by
  have hO := pts_all hI
  have hl := hO.1
  obtain ⟨r, σ1, e1, h1, f1, h⟩ := M_pack (m := m) hb hA hI
  unfold Fm_lengthBy
  rw [e1, gmB_s]
  rcases h with ⟨hlay, rfl, P, p1, p2, p3⟩ | ⟨hlay, rfl⟩
  · rw [if_neg (by decide)]
    unfold Fm_packedLength
    have e2 := M_pl4 (P := P) (k := fun x8 s9 => some (x8, s9)) hO p3 (pts a).length gmN 0 σ1 (by rw [gmN_e]; omega) (by omega) h1 p2
    refine ⟨_, σ1, ?_, Or.inr ⟨hlay, mxF_b (by omega) _ (fun j hj => (p3 j hj).2), P, p1, rfl⟩, h1, f1⟩
    have e3 : Fm_packedLength_4 gmN 0 0 σ1 (fun x8 s9 => some (x8, s9)) = some (mxF (fun j => (P j).1 + pal (pts a) j) (pts a).length, σ1) := e2
    rw [e3, gmB_s]
  · rw [if_pos rfl]
    exact ⟨-1007, σ1, rfl, Or.inl ⟨hlay, rfl⟩, h1, f1⟩
