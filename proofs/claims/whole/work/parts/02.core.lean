/-! THE STORE: the cells of the class' object and of the reference's, once made, as numbers; references never change -/
abbrev AV : Type := Int ⊕ Nat
abbrev St : Type := Nat → Nat → Int
abbrev GG : Type := va_G × (Nat → Nat) × (Nat → ClassId)
abbrev gmR (x : Int) : Prop := -2147483648 ≤ x ∧ x < 2147483648
def gmV (G : GG) : AV → Value
  | .inl x => .int (Int32.ofInt x)
  | .inr k => .ref (G.2.1 k)
def gmUp (σ : St) (k i : Nat) (v : Int) : St := fun k' i' => if k' = k ∧ i' = i then v else σ k' i'
def gmKdL : List Nat := [5, 4, 12, 2, 2, 2, 2, 2, 2, 13, 3, 3, 3, 3, 3, 3, 10, 10, 4, 12, 2, 2, 2, 2, 2, 2, 13, 3, 3, 3, 3, 3, 3, 10, 10, 4, 12, 2, 2, 2, 2, 2, 2, 13, 3, 3, 3, 3, 3, 3, 10, 10, 14, 11, 0, 15, 1, 1, 1, 1, 1, 1, 1, 1, 1, 1, 1, 1, 1, 1, 1, 1, 1, 1, 1, 1, 1, 1, 1, 1, 1, 1, 1, 1, 1, 1, 1, 1, 1, 1, 1, 1, 1, 1, 1, 1, 1, 1, 1, 1, 1, 1, 1, 1, 1, 1, 1, 1, 1, 1, 1, 1, 1, 1, 1, 1, 1, 1, 1, 1, 1, 1, 1, 1, 1, 1, 1, 1, 10, 10, 10, 10, 10, 6, 10, 10, 11, 10, 10, 10, 10, 11, 10, 10, 10, 10, 10, 10, 10, 10]
def gmLnL : List Nat := [0, 0, 6, 0, 0, 0, 0, 0, 0, 6, 0, 0, 0, 0, 0, 0, 3, 3, 0, 6, 0, 0, 0, 0, 0, 0, 6, 0, 0, 0, 0, 0, 0, 3, 3, 0, 6, 0, 0, 0, 0, 0, 0, 6, 0, 0, 0, 0, 0, 0, 3, 3, 2, 2, 0, 72, 0, 0, 0, 0, 0, 0, 0, 0, 0, 0, 0, 0, 0, 0, 0, 0, 0, 0, 0, 0, 0, 0, 0, 0, 0, 0, 0, 0, 0, 0, 0, 0, 0, 0, 0, 0, 0, 0, 0, 0, 0, 0, 0, 0, 0, 0, 0, 0, 0, 0, 0, 0, 0, 0, 0, 0, 0, 0, 0, 0, 0, 0, 0, 0, 0, 0, 0, 0, 0, 0, 0, 0, 72, 72, 72, 72, 3, 0, 78, 156, 2, 72, 72, 72, 72, 72, 72, 72, 72, 72, 72, 72, 1400, 3]
def gmKd (k : Nat) : Nat := gmKdL.getD k 99
def gmLn (k : Nat) : Nat := gmLnL.getD k 0
def gmTg (k i : Nat) : Nat := if k = 52 then 18 + 17 * i else k + 1 + i
def gmFr (k i : Nat) : Option Nat :=
  if k = 0 then ([some 1, some 52, some 53, some 54, some 132] : List (Option Nat)).getD i none
  else if k = 1 ∨ k = 18 ∨ k = 35 then ([some (k + 1), some (k + 8), none, some (k + 15), some (k + 16)] : List (Option Nat)).getD i none
  else if k = 54 then ([some 55, none, none, some 128, some 129, some 130, some 131] : List (Option Nat)).getD i none
  else if k = 133 then ([some 134, some 135, some 136, some 137, some 138, some 139, some 140, some 141, none, some 142, some 143, some 144, some 145, some 146, some 147, none, some 148, none, some 149] : List (Option Nat)).getD i none
  else none
def gmFv (G : GG) (σ : St) (k i : Nat) : Value := match gmFr k i with
  | some t => .ref (G.2.1 t)
  | none => .int (Int32.ofInt (σ k i))
def gmE (G : GG) (σ : St) (k : Nat) : va_E :=
  if gmKd k < 7 then .inr (gmKd k, (List.range (gmC (gmKd k)).2.2).map (gmFv G σ k))
  else if gmKd k < 12 then .inl (G.2.2 (gmKd k), gmLn k, .inl (fun i => Int32.ofInt (σ k i)))
  else .inl (G.2.2 (gmKd k), gmLn k, .inr (.inr (.inr (.inr (fun i => some (G.2.1 (gmTg k i)))))))
def gmW (G : GG) (σ : St) : va_W := (List.range 150).map (fun k => (G.2.1 k, gmE G σ k))
def gmTyF (c : Nat) : FieldType := match c with
  | 0 => .int
  | 1 => .boolean
  | 2 => .object "GarmentMarker$Piece"
  | 3 => .object "GarmentMarker$Seam"
  | 4 => .object "GarmentMarker$State"
  | _ => .object "GarmentMarker$Part"
def gmTy (G : GG) : List (ClassId × FieldType) := (List.range 6).map (fun c => (G.2.2 (c + 10), gmTyF c))
theorem gmW_at (G : GG) (σ : St) {k : Nat} (h : k < 150) : (gmW G σ)[k]? = some (G.2.1 k, gmE G σ k) := by
  simp [gmW, h]
theorem gmTy_at (G : GG) {c : Nat} (h : c < 6) : (gmTy G)[c]? = some (G.2.2 (c + 10), gmTyF c) := by
  simp [gmTy, h]
theorem gmE_congr {G : GG} {σ σ' : St} {k : Nat} (h : ∀ i, σ k i = σ' k i) : gmE G σ k = gmE G σ' k := by
  have : σ k = σ' k := funext h
  have h2 : gmFv G σ k = gmFv G σ' k := by
    funext i
    simp only [gmFv, h i]
  unfold gmE
  rw [h2, this]
theorem gmW_set {G : GG} {σ σ' : St} {k : Nat} {e : va_E} (hk : k < 150) (he : e = gmE G σ' k) (ho : ∀ j i, j ≠ k → σ j i = σ' j i) : (gmW G σ).set k (G.2.1 k, e) = gmW G σ' := by
  subst he
  apply List.ext_getElem?
  intro j
  rw [List.getElem?_set]
  by_cases hj : k = j
  · subst hj
    have : k < (gmW G σ).length := by simp [gmW, hk]
    rw [if_pos rfl, if_pos this, gmW_at G σ' hk]
  · rw [if_neg hj]
    by_cases h150 : j < 150
    · rw [gmW_at G σ h150, gmW_at G σ' h150, gmE_congr (fun i => ho j i (Ne.symm hj))]
    · simp [gmW, h150]
theorem gmUp_ne {σ : St} {k i : Nat} {v : Int} : ∀ j i', j ≠ k → σ j i' = gmUp σ k i v j i' := by
  intro j i' h
  simp [gmUp, h]
/-- all addresses of the store are apart -/
theorem gmD_to {G : GG} {σ σ' : St} {A B : Nat → Prop} (h : va_D A (gmW G σ)) (hB : ∀ k, k < 150 → A (G.2.1 k) → B (G.2.1 k)) : va_D B (gmW G σ') := by
  have key : ∀ (τ : St) (i : Nat) (p : Nat × va_E), (gmW G τ)[i]? = some p → i < 150 ∧ p.1 = G.2.1 i := by
    intro τ i p hp
    by_cases h150 : i < 150
    · rw [gmW_at G τ h150] at hp
      cases hp
      exact ⟨h150, rfl⟩
    · simp [gmW, h150] at hp
  refine ⟨fun i j p q hi hj hpq => ?_, fun k q hq => ?_⟩
  · obtain ⟨a1, a2⟩ := key σ' i p hi
    obtain ⟨b1, b2⟩ := key σ' j q hj
    exact h.1 i j _ _ (gmW_at G σ a1) (gmW_at G σ b1) (by show G.2.1 i = G.2.1 j; rw [← a2, ← b2]; exact hpq)
  · obtain ⟨a1, a2⟩ := key σ' k q hq
    rw [a2]
    exact hB k a1 (h.2 k _ (gmW_at G σ a1))
/-- what a method may change: the cells of the store, and what is new -/
def gmA (G : GG) (sz : Nat) : Nat → Prop := fun q => (∃ k, k < 150 ∧ q = G.2.1 k) ∨ sz ≤ q
def gmOK (σ : St) : Prop := ∀ k i, gmR (σ k i)
def gmNw (U : State) : Prop := ∀ q ∈ gmNestL, va_Nw (.methodLinkNest q.1 q.2.1 q.2.2.1 q.2.2.2) U
def gmPre (G : GG) (σ : St) (sz : Nat) : State → Prop := fun U => U.heap.size = sz ∧ gmOK σ ∧ va_P G.1 gmCl (gmW G σ) U.heap ∧ va_K G.1 gmCl (gmTy G) U ∧ va_D (fun _ => True) (gmW G σ) ∧ gmNw U
def gmPost (G : GG) (r : Option Int) (σ' : St) (sz : Nat) : Array Value → State → Outcome → State → Prop := match r with
  | some v => va_Qi (S := Unit) (fun r' _ => r' = Int32.ofInt v ∧ gmR v ∧ gmOK σ') (fun _ t => va_P G.1 gmCl (gmW G σ') t.heap) (gmA G sz)
  | none => va_Qv (S := Unit) (fun _ => gmOK σ') (fun _ t => va_P G.1 gmCl (gmW G σ') t.heap) (gmA G sz)
/-- a method's contract: on the store σ with the arguments as it answers r and leaves σ' -/
def Ctr (y : MethodName) (bc : ByteArray) (nL : Nat) (ret : Option FieldType) (f lo : Nat) (as : List AV) (σ : St) (r : Option Int) (σ' : St) : Prop :=
  gmOK σ → ∀ (l : Launch) (G : GG) (sz : Nat), Met l y (.code y bc nL ret :: gmT) { frames := f, cells := 0, slots := 0, locals := lo } (va_Pc (as.map (gmV G)) (gmPre G σ sz)) (gmPost G r σ' sz) 0 0 (gmA G sz)
abbrev Fx : Type := Program × Launch × Env × Room × State × MethodId × Array Value × List Frame × Method × Code × (State → Prop) × GG × (Nat → Prop) × Nat × Nat × Nat
def gmWd (G : GG) (A : Nat → Prop) (H0 : Heap) (σ : St) (H : Heap) (locs : List Loc) : Prop := gmOK σ ∧ va_P G.1 gmCl (gmW G σ) H ∧ va_D A (gmW G σ) ∧ va_S A H0 H locs
def J (φ : Fx) (σ : St) (pc : Nat) (lv : List (Nat × AV)) (st : List AV) : Prop := match φ with
  | (p, l, e, R, s, m, args, below, meth, c, Q, G, A, cells, slots, nL) => ∀ (H : Heap) (locs : List Loc) (ls : Array Slot), gmWd G A s.heap σ H locs → lv_has ls nL (lv.map fun q => (q.1, gmV G q.2)) → W p l e R s m args below meth c H locs cells slots Q (F0 m pc ls (st.map (gmV G)))
def Good (φ : Fx) (own : String) (cc : ByteArray) (nl fr lo : Nat) : Prop := match φ with
  | (p, l, e, R, s, m, args, below, meth, c, Q, G, A, cells, slots, nL) => p.tables.exec = Jvm.exec ∧ c.code = cc ∧ c.maxLocals = nL ∧ s.vm.findClass own = some m.cls ∧ (∀ w ∈ gmT, w.before args s = true) ∧ va_K G.1 gmCl (gmTy G) s ∧ gmNw s ∧ (∀ q, s.heap.size ≤ q → A q) ∧ fr ≤ R.frames ∧ lo ≤ R.locals ∧ cells ≤ R.cells ∧ slots ≤ R.slots ∧ nL = nl
theorem gm_ty0 {k : Nat} : ∀ G, (gmV G (.inl k : AV)).category = 1 := fun _ => rfl
theorem gmV_cat (G : GG) (v : AV) : (gmV G v).category = 1 := by
  cases v <;> rfl
theorem gmR_toInt {x : Int} (h : gmR x) : (Int32.ofInt x).toInt = x := Int32.toInt_ofInt_of_le h.1 h.2
theorem gmR_inj {x y : Int} (hx : gmR x) (hy : gmR y) : Int32.ofInt x = Int32.ofInt y ↔ x = y := by
  rw [← Int32.toInt_inj, gmR_toInt hx, gmR_toInt hy]
theorem gmR_lt {x y : Int} (hx : gmR x) (hy : gmR y) : Int32.ofInt x < Int32.ofInt y ↔ x < y := by
  rw [Int32.lt_iff_toInt_lt, gmR_toInt hx, gmR_toInt hy]
theorem gmR_le {x y : Int} (hx : gmR x) (hy : gmR y) : Int32.ofInt x ≤ Int32.ofInt y ↔ x ≤ y := by
  rw [Int32.le_iff_toInt_le, gmR_toInt hx, gmR_toInt hy]
theorem gmR_0 : gmR 0 := by decide
theorem gmR_clamp {i : Int} {n : Nat} (h : 0 ≤ i ∧ i < n) (hn : n < 2147483648) : (Int32.ofInt i).toNatClampNeg = i.toNat := Int32.toNatClampNeg_ofInt_of_le (by omega) (by omega)
theorem gmR_in {i : Int} {n : Nat} (h : 0 ≤ i ∧ i < n) (hn : n < 2147483648) : vp_in (Int32.ofInt i) n := by
  have hr : gmR i := ⟨by omega, by omega⟩
  exact vp_in_iff.mpr (by rw [gmR_toInt hr]; exact h)
theorem gmLn_lt (k : Nat) : gmLn k < 2147483648 := by
  by_cases h : k < 150
  · have : ∀ k, k < 150 → gmLn k < 2147483648 := by decide +kernel
    exact this k h
  · have : gmLnL.length = 150 := by decide +kernel
    unfold gmLn
    rw [List.getD_eq_getElem?_getD, List.getElem?_eq_none (by omega)]
    decide
/-- guards, bindings -/
def gmG {α : Type} (c : Prop) [Decidable c] (t : Option α) : Option α := if c then t else none
def gmB {β : Type} (o : Option (Int × St)) (k : Int → St → Option β) : Option β := match o with
  | some (r, σ) => k r σ
  | none => none
def gmBv {β : Type} (o : Option St) (k : St → Option β) : Option β := match o with
  | some σ => k σ
  | none => none
def gmL {α β : Type} (v : α) (k : α → Option β) : Option β := k v
theorem gmG_of {α : Type} {c : Prop} [Decidable c] {t : Option α} {r : α} (h : gmG c t = some r) : c ∧ t = some r := by
  unfold gmG at h
  by_cases hc : c
  · rw [if_pos hc] at h
    exact ⟨hc, h⟩
  · rw [if_neg hc] at h
    cases h
theorem gmB_of {β : Type} {o : Option (Int × St)} {k : Int → St → Option β} {r : β} (h : gmB o k = some r) : ∃ v σ, o = some (v, σ) ∧ k v σ = some r := by
  match o, h with
  | some (v, σ), h => exact ⟨v, σ, rfl, h⟩
theorem gmBv_of {β : Type} {o : Option St} {k : St → Option β} {r : β} (h : gmBv o k = some r) : ∃ σ, o = some σ ∧ k σ = some r := by
  match o, h with
  | some σ, h => exact ⟨σ, rfl, h⟩
theorem gmL_of {α β : Type} {v : α} {k : α → Option β} {r : β} (h : gmL v k = some r) : ∃ x, x = v ∧ k x = some r := ⟨v, rfl, h⟩
def gmN : Nat := 1500
def gmSet (lv : List (Nat × AV)) (i : Nat) (v : AV) : List (Nat × AV) := (i, v) :: lv.filter (fun q => !(q.1 == i))
theorem gmSet_map (G : GG) (lv : List (Nat × AV)) (i : Nat) (v : AV) : (i, gmV G v) :: (lv.map fun q => (q.1, gmV G q.2)).filter (fun q => !(q.1 == i) && !(q.1 + 1 == i && q.2.category == 2)) = (gmSet lv i v).map fun q => (q.1, gmV G q.2) := by
  unfold gmSet
  rw [List.map_cons, List.filter_map]
  congr 2
  congr 1
  funext q
  simp [gmV_cat]
theorem gm_mapAt {G : GG} {lv : List (Nat × AV)} {k i : Nat} {v : AV} (h : lv[k]? = some (i, v)) : (lv.map fun q => (q.1, gmV G q.2))[k]? = some (i, gmV G v) := by
  rw [List.getElem?_map, h]; rfl
section GM
variable {φ : Fx} {own : String} {cc : ByteArray} {nl fr lo : Nat} {σ : St} {pc : Nat} {lv lv' : List (Nat × AV)} {st : List AV}
theorem gm_iconst (hG : Good φ own cc nl fr lo) {n : Int} (hd : decode cc pc = .ok (.iconst n, 1)) (k : J φ σ (pc + 1) lv (.inl n :: st)) : J φ σ pc lv st := by
  obtain ⟨p, l, e, R, s, m, args, below, meth, c, Q, G, A, cells, slots, nL⟩ := φ
  obtain ⟨hx, hb, -⟩ := hG
  intro H locs ls hW hl
  exact lv_iconst hx hb hd rfl (k H locs ls hW hl)
theorem gm_bipush (hG : Good φ own cc nl fr lo) {n : Int} (hd : decode cc pc = .ok (.bipush n, 2)) (hv : (Int8.ofInt n).toInt32 = Int32.ofInt n) (k : J φ σ (pc + 2) lv (.inl n :: st)) : J φ σ pc lv st := by
  obtain ⟨p, l, e, R, s, m, args, below, meth, c, Q, G, A, cells, slots, nL⟩ := φ
  obtain ⟨hx, hb, -⟩ := hG
  intro H locs ls hW hl
  exact lv_bipush hx hb hd hv (k H locs ls hW hl)
theorem gm_sipush (hG : Good φ own cc nl fr lo) {n : Int} (hd : decode cc pc = .ok (.sipush n, 3)) (hv : (Int16.ofInt n).toInt32 = Int32.ofInt n) (k : J φ σ (pc + 3) lv (.inl n :: st)) : J φ σ pc lv st := by
  obtain ⟨p, l, e, R, s, m, args, below, meth, c, Q, G, A, cells, slots, nL⟩ := φ
  obtain ⟨hx, hb, -⟩ := hG
  intro H locs ls hW hl
  exact lv_sipush hx hb hd hv (k H locs ls hW hl)
theorem gm_iload_n (hG : Good φ own cc nl fr lo) {f : Fin 4} {i : Nat} (j : Nat) {x : Int} (hd : decode cc pc = .ok (.iload_n f, 1)) (hi : (f : Nat) = i) (hl : lv[j]? = some (i, .inl x)) (k : J φ σ (pc + 1) lv (.inl x :: st)) : J φ σ pc lv st := by
  obtain ⟨p, l, e, R, s, m, args, below, meth, c, Q, G, A, cells, slots, nL⟩ := φ
  obtain ⟨hx, hb, -⟩ := hG
  intro H locs ls hW h
  exact lv_iload_n hx hb hd hi (lv_at h j (gm_mapAt hl)) (k H locs ls hW h)
theorem gm_iload (hG : Good φ own cc nl fr lo) {i : Nat} (j : Nat) {x : Int} (hd : decode cc pc = .ok (.iload i, 2)) (hl : lv[j]? = some (i, .inl x)) (k : J φ σ (pc + 2) lv (.inl x :: st)) : J φ σ pc lv st := by
  obtain ⟨p, l, e, R, s, m, args, below, meth, c, Q, G, A, cells, slots, nL⟩ := φ
  obtain ⟨hx, hb, -⟩ := hG
  intro H locs ls hW h
  exact lv_iload hx hb hd (lv_at h j (gm_mapAt hl)) (k H locs ls hW h)
theorem gm_aload_n (hG : Good φ own cc nl fr lo) {f : Fin 4} {i : Nat} (j : Nat) {x : Nat} (hd : decode cc pc = .ok (.aload_n f, 1)) (hi : (f : Nat) = i) (hl : lv[j]? = some (i, .inr x)) (k : J φ σ (pc + 1) lv (.inr x :: st)) : J φ σ pc lv st := by
  obtain ⟨p, l, e, R, s, m, args, below, meth, c, Q, G, A, cells, slots, nL⟩ := φ
  obtain ⟨hx, hb, -⟩ := hG
  intro H locs ls hW h
  exact lv_aload_n hx hb hd hi (lv_at h j (gm_mapAt hl)) (k H locs ls hW h)
theorem gm_aload (hG : Good φ own cc nl fr lo) {i : Nat} (j : Nat) {x : Nat} (hd : decode cc pc = .ok (.aload i, 2)) (hl : lv[j]? = some (i, .inr x)) (k : J φ σ (pc + 2) lv (.inr x :: st)) : J φ σ pc lv st := by
  obtain ⟨p, l, e, R, s, m, args, below, meth, c, Q, G, A, cells, slots, nL⟩ := φ
  obtain ⟨hx, hb, -⟩ := hG
  intro H locs ls hW h
  exact lv_aload hx hb hd (lv_at h j (gm_mapAt hl)) (k H locs ls hW h)
theorem gm_istore_n (hG : Good φ own cc nl fr lo) {f : Fin 4} {i : Nat} {x : Int} (hd : decode cc pc = .ok (.istore_n f, 1)) (hi : (f : Nat) = i) (hn : i < nl) (hl : gmSet lv i (.inl x) = lv') (k : J φ σ (pc + 1) lv' st) : J φ σ pc lv (.inl x :: st) := by
  obtain ⟨p, l, e, R, s, m, args, below, meth, c, Q, G, A, cells, slots, nL⟩ := φ
  obtain ⟨hx, hb, -, -, -, -, -, -, -, -, -, -, rfl⟩ := hG
  intro H locs ls hW h
  subst hl
  exact lv_istore_n (x := Int32.ofInt x) hx hb hd hi h hn (gmSet_map G lv i (.inl x)) (fun ls' h' => k H locs ls' hW h')
theorem gm_istore (hG : Good φ own cc nl fr lo) {i : Nat} {x : Int} (hd : decode cc pc = .ok (.istore i, 2)) (hn : i < nl) (hl : gmSet lv i (.inl x) = lv') (k : J φ σ (pc + 2) lv' st) : J φ σ pc lv (.inl x :: st) := by
  obtain ⟨p, l, e, R, s, m, args, below, meth, c, Q, G, A, cells, slots, nL⟩ := φ
  obtain ⟨hx, hb, -, -, -, -, -, -, -, -, -, -, rfl⟩ := hG
  intro H locs ls hW h
  subst hl
  exact lv_istore (x := Int32.ofInt x) hx hb hd h hn (gmSet_map G lv i (.inl x)) (fun ls' h' => k H locs ls' hW h')
theorem gm_astore_n (hG : Good φ own cc nl fr lo) {f : Fin 4} {i : Nat} {x : Nat} (hd : decode cc pc = .ok (.astore_n f, 1)) (hi : (f : Nat) = i) (hn : i < nl) (hl : gmSet lv i (.inr x) = lv') (k : J φ σ (pc + 1) lv' st) : J φ σ pc lv (.inr x :: st) := by
  obtain ⟨p, l, e, R, s, m, args, below, meth, c, Q, G, A, cells, slots, nL⟩ := φ
  obtain ⟨hx, hb, -, -, -, -, -, -, -, -, -, -, rfl⟩ := hG
  intro H locs ls hW h
  subst hl
  exact lv_astore_n (x := G.2.1 x) hx hb hd hi h hn (gmSet_map G lv i (.inr x)) (fun ls' h' => k H locs ls' hW h')
theorem gm_astore (hG : Good φ own cc nl fr lo) {i : Nat} {x : Nat} (hd : decode cc pc = .ok (.astore i, 2)) (hn : i < nl) (hl : gmSet lv i (.inr x) = lv') (k : J φ σ (pc + 2) lv' st) : J φ σ pc lv (.inr x :: st) := by
  obtain ⟨p, l, e, R, s, m, args, below, meth, c, Q, G, A, cells, slots, nL⟩ := φ
  obtain ⟨hx, hb, -, -, -, -, -, -, -, -, -, -, rfl⟩ := hG
  intro H locs ls hW h
  subst hl
  exact lv_astore (x := G.2.1 x) hx hb hd h hn (gmSet_map G lv i (.inr x)) (fun ls' h' => k H locs ls' hW h')
theorem gm_iinc (hG : Good φ own cc nl fr lo) {i : Nat} {n : Int} (j : Nat) {x : Int} (hd : decode cc pc = .ok (.iinc i n, 3)) (hj : lv[j]? = some (i, .inl x)) (hn : i < nl) (hl : gmSet lv i (.inl (x + n)) = lv') (k : J φ σ (pc + 3) lv' st) : J φ σ pc lv st := by
  obtain ⟨p, l, e, R, s, m, args, below, meth, c, Q, G, A, cells, slots, nL⟩ := φ
  obtain ⟨hx, hb, -, -, -, -, -, -, -, -, -, -, rfl⟩ := hG
  intro H locs ls hW h
  subst hl
  exact lv_iinc (x := Int32.ofInt x) (v := Int32.ofInt (x + n)) hx hb hd h (gm_mapAt hj) (Int32.ofInt_add x n).symm hn (gmSet_map G lv i (.inl (x + n))) (fun ls' h' => k H locs ls' hW h')
theorem gm_iadd (hG : Good φ own cc nl fr lo) {x y : Int} (hd : decode cc pc = .ok (.iadd, 1)) (k : J φ σ (pc + 1) lv (.inl (x + y) :: st)) : J φ σ pc lv (.inl y :: .inl x :: st) := by
  obtain ⟨p, l, e, R, s, m, args, below, meth, c, Q, G, A, cells, slots, nL⟩ := φ
  obtain ⟨hx, hb, -⟩ := hG
  intro H locs ls hW h
  refine lv_iadd (x := Int32.ofInt x) (y := Int32.ofInt y) hx hb hd ?_
  rw [← Int32.ofInt_add]
  exact k H locs ls hW h
theorem gm_isub (hG : Good φ own cc nl fr lo) {x y : Int} (hd : decode cc pc = .ok (.isub, 1)) (k : J φ σ (pc + 1) lv (.inl (x - y) :: st)) : J φ σ pc lv (.inl y :: .inl x :: st) := by
  obtain ⟨p, l, e, R, s, m, args, below, meth, c, Q, G, A, cells, slots, nL⟩ := φ
  obtain ⟨hx, hb, -⟩ := hG
  intro H locs ls hW h
  refine lv_isub (x := Int32.ofInt x) (y := Int32.ofInt y) hx hb hd ?_
  rw [← Int32.ofInt_sub]
  exact k H locs ls hW h
theorem gm_imul (hG : Good φ own cc nl fr lo) {x y : Int} (hd : decode cc pc = .ok (.imul, 1)) (k : J φ σ (pc + 1) lv (.inl (x * y) :: st)) : J φ σ pc lv (.inl y :: .inl x :: st) := by
  obtain ⟨p, l, e, R, s, m, args, below, meth, c, Q, G, A, cells, slots, nL⟩ := φ
  obtain ⟨hx, hb, -⟩ := hG
  intro H locs ls hW h
  refine lv_imul (x := Int32.ofInt x) (y := Int32.ofInt y) hx hb hd ?_
  rw [← Int32.ofInt_mul]
  exact k H locs ls hW h
theorem gm_quot {x y : Int} (hx : 0 ≤ x ∧ x < 2147483648) (hy : 0 < y ∧ y < 2147483648) : Int32.ofInt x / Int32.ofInt y = Int32.ofInt (x / y) := by
  have h1 : Int32.ofInt (x.tdiv y) = Int32.ofInt x / Int32.ofInt y := Int32.ofInt_tdiv (by show (-2147483648 : Int) ≤ x; omega) (by show x ≤ (2147483647 : Int); omega) (by show (-2147483648 : Int) ≤ y; omega) (by show y ≤ (2147483647 : Int); omega)
  rw [← h1, Int.tdiv_eq_ediv_of_nonneg hx.1]
theorem gm_ne0 {y : Int} (hy : 0 < y ∧ y < 2147483648) : ¬ Int32.ofInt y = 0 := by
  intro h
  have : y = 0 := (gmR_inj ⟨by omega, by omega⟩ gmR_0).mp h
  omega
theorem gm_idiv (hG : Good φ own cc nl fr lo) {x y : Int} (hd : decode cc pc = .ok (.idiv, 1)) (h1 : 0 ≤ x ∧ x < 2147483648) (h2 : 0 < y ∧ y < 2147483648) (k : gmR (x / y) → J φ σ (pc + 1) lv (.inl (x / y) :: st)) : J φ σ pc lv (.inl y :: .inl x :: st) := by
  obtain ⟨p, l, e, R, s, m, args, below, meth, c, Q, G, A, cells, slots, nL⟩ := φ
  obtain ⟨hx, hb, -⟩ := hG
  intro H locs ls hW h
  refine lv_idiv (x := Int32.ofInt x) (y := Int32.ofInt y) hx hb hd (gm_ne0 h2) ?_
  rw [gm_quot h1 h2]
  have a1 : 0 ≤ x / y := Int.ediv_nonneg h1.1 (by omega)
  have a2 : x / y ≤ x := Int.ediv_le_self _ h1.1
  exact k ⟨by omega, by omega⟩ H locs ls hW h
theorem gm_irem (hG : Good φ own cc nl fr lo) {x y : Int} (hd : decode cc pc = .ok (.irem, 1)) (h1 : 0 ≤ x ∧ x < 2147483648) (h2 : 0 < y ∧ y < 2147483648) (k : gmR (x % y) → J φ σ (pc + 1) lv (.inl (x % y) :: st)) : J φ σ pc lv (.inl y :: .inl x :: st) := by
  obtain ⟨p, l, e, R, s, m, args, below, meth, c, Q, G, A, cells, slots, nL⟩ := φ
  obtain ⟨hx, hb, -⟩ := hG
  intro H locs ls hW h
  refine lv_irem (x := Int32.ofInt x) (y := Int32.ofInt y) hx hb hd (gm_ne0 h2) ?_
  have e1 : Int32.ofInt x - Int32.ofInt x / Int32.ofInt y * Int32.ofInt y = Int32.ofInt (x % y) := by
    rw [gm_quot h1 h2, ← Int32.ofInt_mul, ← Int32.ofInt_sub, Int.emod_def, Int.mul_comm y]
  rw [e1]
  have a1 : 0 ≤ x % y := Int.emod_nonneg _ (by omega)
  have a2 : x % y < y := Int.emod_lt_of_pos _ h2.1
  exact k ⟨by omega, by omega⟩ H locs ls hW h
theorem gm_goto (hG : Good φ own cc nl fr lo) {off : Int} {tgt : Nat} (hd : decode cc pc = .ok (.goto off, 3)) (ht : (pc : Int) + off = (tgt : Int)) (k : J φ σ tgt lv st) : J φ σ pc lv st := by
  obtain ⟨p, l, e, R, s, m, args, below, meth, c, Q, G, A, cells, slots, nL⟩ := φ
  obtain ⟨hx, hb, -⟩ := hG
  intro H locs ls hW hl
  exact lv_goto hx hb hd ht (k H locs ls hW hl)
theorem gm_if_eq (hG : Good φ own cc nl fr lo) {x : Int} {off : Int} {tgt : Nat} (hd : decode cc pc = .ok (.ifCond .eq off, 3)) (ht : (pc : Int) + off = (tgt : Int)) (hr : gmR x) (kt : x = 0 → J φ σ tgt lv st) (kf : ¬ x = 0 → J φ σ (pc + 3) lv st) : J φ σ pc lv (.inl x :: st) := by
  obtain ⟨p, l, e, R, s, m, args, below, meth, c, Q, G, A, cells, slots, nL⟩ := φ
  obtain ⟨hx, hb, -⟩ := hG
  intro H locs ls hW hl
  exact lv_if_eq (x := Int32.ofInt x) hx hb hd ht (fun q => kt ((gmR_inj hr gmR_0).mp q) H locs ls hW hl) (fun q => kf (fun z => q ((gmR_inj hr gmR_0).mpr z)) H locs ls hW hl)
theorem gm_if_ne (hG : Good φ own cc nl fr lo) {x : Int} {off : Int} {tgt : Nat} (hd : decode cc pc = .ok (.ifCond .ne off, 3)) (ht : (pc : Int) + off = (tgt : Int)) (hr : gmR x) (kt : ¬ x = 0 → J φ σ tgt lv st) (kf : x = 0 → J φ σ (pc + 3) lv st) : J φ σ pc lv (.inl x :: st) := by
  obtain ⟨p, l, e, R, s, m, args, below, meth, c, Q, G, A, cells, slots, nL⟩ := φ
  obtain ⟨hx, hb, -⟩ := hG
  intro H locs ls hW hl
  exact lv_if_ne (x := Int32.ofInt x) hx hb hd ht (fun q => kt (fun z => q ((gmR_inj hr gmR_0).mpr z)) H locs ls hW hl) (fun q => kf ((gmR_inj hr gmR_0).mp q) H locs ls hW hl)
theorem gm_if_lt (hG : Good φ own cc nl fr lo) {x : Int} {off : Int} {tgt : Nat} (hd : decode cc pc = .ok (.ifCond .lt off, 3)) (ht : (pc : Int) + off = (tgt : Int)) (hr : gmR x) (kt : x < 0 → J φ σ tgt lv st) (kf : ¬ x < 0 → J φ σ (pc + 3) lv st) : J φ σ pc lv (.inl x :: st) := by
  obtain ⟨p, l, e, R, s, m, args, below, meth, c, Q, G, A, cells, slots, nL⟩ := φ
  obtain ⟨hx, hb, -⟩ := hG
  intro H locs ls hW hl
  exact lv_if_lt (x := Int32.ofInt x) hx hb hd ht (fun q => kt ((gmR_lt hr gmR_0).mp q) H locs ls hW hl) (fun q => kf (fun z => q ((gmR_lt hr gmR_0).mpr z)) H locs ls hW hl)
theorem gm_if_ge (hG : Good φ own cc nl fr lo) {x : Int} {off : Int} {tgt : Nat} (hd : decode cc pc = .ok (.ifCond .ge off, 3)) (ht : (pc : Int) + off = (tgt : Int)) (hr : gmR x) (kt : 0 ≤ x → J φ σ tgt lv st) (kf : ¬ 0 ≤ x → J φ σ (pc + 3) lv st) : J φ σ pc lv (.inl x :: st) := by
  obtain ⟨p, l, e, R, s, m, args, below, meth, c, Q, G, A, cells, slots, nL⟩ := φ
  obtain ⟨hx, hb, -⟩ := hG
  intro H locs ls hW hl
  exact lv_if_ge (x := Int32.ofInt x) hx hb hd ht (fun q => kt ((gmR_le gmR_0 hr).mp q) H locs ls hW hl) (fun q => kf (fun z => q ((gmR_le gmR_0 hr).mpr z)) H locs ls hW hl)
theorem gm_if_gt (hG : Good φ own cc nl fr lo) {x : Int} {off : Int} {tgt : Nat} (hd : decode cc pc = .ok (.ifCond .gt off, 3)) (ht : (pc : Int) + off = (tgt : Int)) (hr : gmR x) (kt : 0 < x → J φ σ tgt lv st) (kf : ¬ 0 < x → J φ σ (pc + 3) lv st) : J φ σ pc lv (.inl x :: st) := by
  obtain ⟨p, l, e, R, s, m, args, below, meth, c, Q, G, A, cells, slots, nL⟩ := φ
  obtain ⟨hx, hb, -⟩ := hG
  intro H locs ls hW hl
  exact lv_if_gt (x := Int32.ofInt x) hx hb hd ht (fun q => kt ((gmR_lt gmR_0 hr).mp q) H locs ls hW hl) (fun q => kf (fun z => q ((gmR_lt gmR_0 hr).mpr z)) H locs ls hW hl)
theorem gm_if_le (hG : Good φ own cc nl fr lo) {x : Int} {off : Int} {tgt : Nat} (hd : decode cc pc = .ok (.ifCond .le off, 3)) (ht : (pc : Int) + off = (tgt : Int)) (hr : gmR x) (kt : x ≤ 0 → J φ σ tgt lv st) (kf : ¬ x ≤ 0 → J φ σ (pc + 3) lv st) : J φ σ pc lv (.inl x :: st) := by
  obtain ⟨p, l, e, R, s, m, args, below, meth, c, Q, G, A, cells, slots, nL⟩ := φ
  obtain ⟨hx, hb, -⟩ := hG
  intro H locs ls hW hl
  exact lv_if_le (x := Int32.ofInt x) hx hb hd ht (fun q => kt ((gmR_le hr gmR_0).mp q) H locs ls hW hl) (fun q => kf (fun z => q ((gmR_le hr gmR_0).mpr z)) H locs ls hW hl)
theorem gm_icmp_eq (hG : Good φ own cc nl fr lo) {x y : Int} {off : Int} {tgt : Nat} (hd : decode cc pc = .ok (.if_icmp .eq off, 3)) (ht : (pc : Int) + off = (tgt : Int)) (hr : gmR x) (hr2 : gmR y) (kt : x = y → J φ σ tgt lv st) (kf : ¬ x = y → J φ σ (pc + 3) lv st) : J φ σ pc lv (.inl y :: .inl x :: st) := by
  obtain ⟨p, l, e, R, s, m, args, below, meth, c, Q, G, A, cells, slots, nL⟩ := φ
  obtain ⟨hx, hb, -⟩ := hG
  intro H locs ls hW hl
  exact lv_icmp_eq (x := Int32.ofInt x) (y := Int32.ofInt y) hx hb hd ht (fun q => kt ((gmR_inj hr hr2).mp q) H locs ls hW hl) (fun q => kf (fun z => q ((gmR_inj hr hr2).mpr z)) H locs ls hW hl)
theorem gm_icmp_ne (hG : Good φ own cc nl fr lo) {x y : Int} {off : Int} {tgt : Nat} (hd : decode cc pc = .ok (.if_icmp .ne off, 3)) (ht : (pc : Int) + off = (tgt : Int)) (hr : gmR x) (hr2 : gmR y) (kt : ¬ x = y → J φ σ tgt lv st) (kf : x = y → J φ σ (pc + 3) lv st) : J φ σ pc lv (.inl y :: .inl x :: st) := by
  obtain ⟨p, l, e, R, s, m, args, below, meth, c, Q, G, A, cells, slots, nL⟩ := φ
  obtain ⟨hx, hb, -⟩ := hG
  intro H locs ls hW hl
  exact lv_icmp_ne (x := Int32.ofInt x) (y := Int32.ofInt y) hx hb hd ht (fun q => kt (fun z => q ((gmR_inj hr hr2).mpr z)) H locs ls hW hl) (fun q => kf ((gmR_inj hr hr2).mp q) H locs ls hW hl)
theorem gm_icmp_lt (hG : Good φ own cc nl fr lo) {x y : Int} {off : Int} {tgt : Nat} (hd : decode cc pc = .ok (.if_icmp .lt off, 3)) (ht : (pc : Int) + off = (tgt : Int)) (hr : gmR x) (hr2 : gmR y) (kt : x < y → J φ σ tgt lv st) (kf : ¬ x < y → J φ σ (pc + 3) lv st) : J φ σ pc lv (.inl y :: .inl x :: st) := by
  obtain ⟨p, l, e, R, s, m, args, below, meth, c, Q, G, A, cells, slots, nL⟩ := φ
  obtain ⟨hx, hb, -⟩ := hG
  intro H locs ls hW hl
  exact lv_icmp_lt (x := Int32.ofInt x) (y := Int32.ofInt y) hx hb hd ht (fun q => kt ((gmR_lt hr hr2).mp q) H locs ls hW hl) (fun q => kf (fun z => q ((gmR_lt hr hr2).mpr z)) H locs ls hW hl)
theorem gm_icmp_ge (hG : Good φ own cc nl fr lo) {x y : Int} {off : Int} {tgt : Nat} (hd : decode cc pc = .ok (.if_icmp .ge off, 3)) (ht : (pc : Int) + off = (tgt : Int)) (hr : gmR x) (hr2 : gmR y) (kt : y ≤ x → J φ σ tgt lv st) (kf : ¬ y ≤ x → J φ σ (pc + 3) lv st) : J φ σ pc lv (.inl y :: .inl x :: st) := by
  obtain ⟨p, l, e, R, s, m, args, below, meth, c, Q, G, A, cells, slots, nL⟩ := φ
  obtain ⟨hx, hb, -⟩ := hG
  intro H locs ls hW hl
  exact lv_icmp_ge (x := Int32.ofInt x) (y := Int32.ofInt y) hx hb hd ht (fun q => kt ((gmR_le hr2 hr).mp q) H locs ls hW hl) (fun q => kf (fun z => q ((gmR_le hr2 hr).mpr z)) H locs ls hW hl)
theorem gm_icmp_gt (hG : Good φ own cc nl fr lo) {x y : Int} {off : Int} {tgt : Nat} (hd : decode cc pc = .ok (.if_icmp .gt off, 3)) (ht : (pc : Int) + off = (tgt : Int)) (hr : gmR x) (hr2 : gmR y) (kt : y < x → J φ σ tgt lv st) (kf : ¬ y < x → J φ σ (pc + 3) lv st) : J φ σ pc lv (.inl y :: .inl x :: st) := by
  obtain ⟨p, l, e, R, s, m, args, below, meth, c, Q, G, A, cells, slots, nL⟩ := φ
  obtain ⟨hx, hb, -⟩ := hG
  intro H locs ls hW hl
  exact lv_icmp_gt (x := Int32.ofInt x) (y := Int32.ofInt y) hx hb hd ht (fun q => kt ((gmR_lt hr2 hr).mp q) H locs ls hW hl) (fun q => kf (fun z => q ((gmR_lt hr2 hr).mpr z)) H locs ls hW hl)
theorem gm_icmp_le (hG : Good φ own cc nl fr lo) {x y : Int} {off : Int} {tgt : Nat} (hd : decode cc pc = .ok (.if_icmp .le off, 3)) (ht : (pc : Int) + off = (tgt : Int)) (hr : gmR x) (hr2 : gmR y) (kt : x ≤ y → J φ σ tgt lv st) (kf : ¬ x ≤ y → J φ σ (pc + 3) lv st) : J φ σ pc lv (.inl y :: .inl x :: st) := by
  obtain ⟨p, l, e, R, s, m, args, below, meth, c, Q, G, A, cells, slots, nL⟩ := φ
  obtain ⟨hx, hb, -⟩ := hG
  intro H locs ls hW hl
  exact lv_icmp_le (x := Int32.ofInt x) (y := Int32.ofInt y) hx hb hd ht (fun q => kt ((gmR_le hr hr2).mp q) H locs ls hW hl) (fun q => kf (fun z => q ((gmR_le hr hr2).mpr z)) H locs ls hW hl)
theorem gm_dup (hG : Good φ own cc nl fr lo) {v : AV} (hd : decode cc pc = .ok (.dup, 1)) (k : J φ σ (pc + 1) lv (v :: v :: st)) : J φ σ pc lv (v :: st) := by
  obtain ⟨p, l, e, R, s, m, args, below, meth, c, Q, G, A, cells, slots, nL⟩ := φ
  obtain ⟨hx, hb, -⟩ := hG
  intro H locs ls hW hl
  exact lv_dup hx hb hd (gmV_cat G v) (k H locs ls hW hl)
theorem gm_dup2 (hG : Good φ own cc nl fr lo) {v u : AV} (hd : decode cc pc = .ok (.dup2, 1)) (k : J φ σ (pc + 1) lv (v :: u :: v :: u :: st)) : J φ σ pc lv (v :: u :: st) := by
  obtain ⟨p, l, e, R, s, m, args, below, meth, c, Q, G, A, cells, slots, nL⟩ := φ
  obtain ⟨hx, hb, -⟩ := hG
  intro H locs ls hW hl
  exact lv_dup2_11 hx hb hd (gmV_cat G v) (gmV_cat G u) (k H locs ls hW hl)
theorem gm_sub (ks : List Nat) (hl : ks.filterMap (fun k => lv[k]?) = lv') (k : J φ σ pc lv' st) : J φ σ pc lv st := by
  obtain ⟨p, l, e, R, s, m, args, below, meth, c, Q, G, A, cells, slots, nL⟩ := φ
  intro H locs ls hW h
  refine k H locs ls hW (lv_sub h ks ?_)
  subst hl
  unfold lv_pick
  rw [List.map_filterMap]
  congr 1
  funext k
  simp
end GM
