/-! CONSTRUCTORS: a world of cells ks at addresses ad with contents E, that grows -/
def upC {α : Type} (f : Nat → α) (k : Nat) (v : α) : Nat → α := fun j => if j = k then v else f j
theorem upC_s {α : Type} {f : Nat → α} {k : Nat} {v : α} : upC f k v k = v := by simp [upC]
theorem upC_n {α : Type} {f : Nat → α} {k j : Nat} {v : α} (h : j ≠ k) : upC f k v j = f j := by simp [upC, h]
def cW (ks : List Nat) (ad : Nat → Nat) (E : Nat → va_E) : va_W := ks.map fun k => (ad k, E k)
theorem c_nodup {ks : List Nat} {kn : Nat} (hn : ks.Nodup) (hk : kn ∉ ks) : (ks ++ [kn]).Nodup := List.nodup_append.mpr ⟨hn, List.pairwise_singleton _ kn, fun a ha b hb z => hk (by rw [List.mem_singleton.mp hb] at z; rw [← z]; exact ha)⟩
theorem c_idx {ks : List Nat} {k : Nat} (h : k ∈ ks) : ∃ i : Nat, ks[i]? = some k := List.mem_iff_getElem?.mp h
theorem cW_at {ks : List Nat} {ad : Nat → Nat} {E : Nat → va_E} {i k : Nat} (h : ks[i]? = some k) : (cW ks ad E)[i]? = some (ad k, E k) := by
  unfold cW
  rw [List.getElem?_map, h]
  rfl
theorem cW_congr {ks : List Nat} {ad ad' : Nat → Nat} {E E' : Nat → va_E} (h : ∀ k ∈ ks, ad' k = ad k ∧ E' k = E k) : cW ks ad' E' = cW ks ad E := by
  unfold cW
  exact List.map_congr_left (fun k hk => by rw [(h k hk).1, (h k hk).2])
theorem cW_new {ks : List Nat} {ad : Nat → Nat} {E : Nat → va_E} {k q : Nat} {e : va_E} (h : k ∉ ks) : cW (ks ++ [k]) (upC ad k q) (upC E k e) = cW ks ad E ++ [(q, e)] := by
  have h1 : cW ks (upC ad k q) (upC E k e) = cW ks ad E := cW_congr (fun j hj => by
    have : j ≠ k := fun z => h (z ▸ hj)
    exact ⟨upC_n this, upC_n this⟩)
  unfold cW at h1 ⊢
  rw [List.map_append, h1, List.map_singleton, upC_s, upC_s]
theorem cW_set {ks : List Nat} {ad : Nat → Nat} {E : Nat → va_E} {i k : Nat} {e : va_E} (hn : ks.Nodup) (h : ks[i]? = some k) : (cW ks ad E).set i (ad k, e) = cW ks ad (upC E k e) := by
  apply List.ext_getElem?
  intro j
  rw [List.getElem?_set]
  have hl : (cW ks ad E).length = ks.length := by unfold cW; rw [List.length_map]
  have hi : i < ks.length := (List.getElem?_eq_some_iff.mp h).1
  by_cases hj : i = j
  · subst hj
    rw [if_pos rfl, if_pos (by rw [hl]; exact hi), cW_at h, upC_s]
  · rw [if_neg hj]
    unfold cW
    rw [List.getElem?_map, List.getElem?_map]
    cases hk : ks[j]? with
    | none => rfl
    | some k2 =>
      have : k2 ≠ k := fun z => by
        subst z
        exact hj ((List.getElem?_inj hi hn).mp (h.trans hk.symm))
      show some (ad k2, E k2) = some (ad k2, upC E k e k2)
      rw [upC_n this]
def cV : AV → Value
  | .inl x => .int (Int32.ofInt x)
  | .inr a => .ref a
theorem cV_cat (v : AV) : (cV v).category = 1 := by cases v <;> rfl
theorem cSet_map (lv : List (Nat × AV)) (i : Nat) (v : AV) : (i, cV v) :: (lv.map fun q => (q.1, cV q.2)).filter (fun q => !(q.1 == i) && !(q.1 + 1 == i && q.2.category == 2)) = (gmSet lv i v).map fun q => (q.1, cV q.2) := by
  unfold gmSet
  rw [List.map_cons, List.filter_map]
  congr 2
  congr 1
  funext q
  simp [cV_cat]
theorem c_mapAt {lv : List (Nat × AV)} {k i : Nat} {v : AV} (h : lv[k]? = some (i, v)) : (lv.map fun q => (q.1, cV q.2))[k]? = some (i, cV v) := by
  rw [List.getElem?_map, h]; rfl
def gmAOs (U : State) : Prop := va_AO (gmC 1).1 U ∧ va_AO (gmC 2).1 U ∧ va_AO (gmC 3).1 U ∧ va_AO (gmC 4).1 U
theorem gmAOs.moved {u U : State} (hvm : u.vm.Alike U.vm) (h : gmAOs u) : gmAOs U := ⟨h.1.moved hvm, h.2.1.moved hvm, h.2.2.1.moved hvm, h.2.2.2.moved hvm⟩
def fG (φ : Fx) : GG := match φ with
  | (p, l, e, R, s, m, args, below, meth, c, Q, G, A, cells, slots, nL) => G
def ConC (φ : Fx) (mc ms : Nat) : Prop := match φ with
  | (p, l, e, R, s, m, args, below, meth, c, Q, G, A, cells, slots, nL) => gmAOs s ∧ mc ≤ R.cells ∧ ms ≤ R.slots
def isInit (φ : Fx) : Prop := match φ with
  | (p, l, e, R, s, m, args, below, meth, c, Q, G, A, cells, slots, nL) => meth.name = "<init>"
def JC (φ : Fx) (ks : List Nat) (ad : Nat → Nat) (E : Nat → va_E) (cl sl pc : Nat) (lv : List (Nat × AV)) (st : List AV) : Prop := match φ with
  | (p, l, e, R, s, m, args, below, meth, c, Q, G, A, cells, slots, nL) => ∀ (H : Heap) (locs : List Loc) (ls : Array Slot), ks.Nodup → va_P G.1 gmCl (cW ks ad E) H → va_D A (cW ks ad E) → va_S A s.heap H locs → lv_has ls nL (lv.map fun q => (q.1, cV q.2)) → W p l e R s m args below meth c H locs cl sl Q (F0 m pc ls (st.map cV))
/-- array classes are one a type -/
theorem va_RA.uniq {U : State} {c1 c2 : ClassId} {ty : FieldType} (h1 : va_RA U c1 ty) (h2 : va_RA U c2 ty) : c1 = c2 := by
  cases ty with
  | object C =>
    obtain ⟨-, -, -, -, -, a⟩ := h1
    obtain ⟨-, -, -, -, -, b⟩ := h2
    exact Option.some.inj (a.symm.trans b)
  | _ => exact Option.some.inj (Eq.trans (Eq.symm h1) h2)
section CR
variable {φ : Fx} {own : String} {cc : ByteArray} {nl fr lo mc ms : Nat} {ks : List Nat} {ad : Nat → Nat} {E : Nat → va_E} {cl sl pc : Nat} {lv lv' : List (Nat × AV)} {st : List AV}
theorem c_iconst (hG : Good φ own cc nl fr lo) {n : Int} (hd : decode cc pc = .ok (.iconst n, 1)) (k : JC φ ks ad E cl sl (pc + 1) lv (.inl n :: st)) : JC φ ks ad E cl sl pc lv st := by
  obtain ⟨p, l, e, R, s, m, args, below, meth, c, Q, G, A, cells, slots, nL⟩ := φ
  obtain ⟨hx, hb, -⟩ := hG
  intro H locs ls hn hP hD hS hl
  exact lv_iconst hx hb hd rfl (k H locs ls hn hP hD hS hl)
theorem c_bipush (hG : Good φ own cc nl fr lo) {n : Int} (hd : decode cc pc = .ok (.bipush n, 2)) (hv : (Int8.ofInt n).toInt32 = Int32.ofInt n) (k : JC φ ks ad E cl sl (pc + 2) lv (.inl n :: st)) : JC φ ks ad E cl sl pc lv st := by
  obtain ⟨p, l, e, R, s, m, args, below, meth, c, Q, G, A, cells, slots, nL⟩ := φ
  obtain ⟨hx, hb, -⟩ := hG
  intro H locs ls hn hP hD hS hl
  exact lv_bipush hx hb hd hv (k H locs ls hn hP hD hS hl)
theorem c_sipush (hG : Good φ own cc nl fr lo) {n : Int} (hd : decode cc pc = .ok (.sipush n, 3)) (hv : (Int16.ofInt n).toInt32 = Int32.ofInt n) (k : JC φ ks ad E cl sl (pc + 3) lv (.inl n :: st)) : JC φ ks ad E cl sl pc lv st := by
  obtain ⟨p, l, e, R, s, m, args, below, meth, c, Q, G, A, cells, slots, nL⟩ := φ
  obtain ⟨hx, hb, -⟩ := hG
  intro H locs ls hn hP hD hS hl
  exact lv_sipush hx hb hd hv (k H locs ls hn hP hD hS hl)
theorem c_aload_n (hG : Good φ own cc nl fr lo) {f : Fin 4} {i : Nat} (j : Nat) {x : Nat} (hd : decode cc pc = .ok (.aload_n f, 1)) (hi : (f : Nat) = i) (hl : lv[j]? = some (i, .inr x)) (k : JC φ ks ad E cl sl (pc + 1) lv (.inr x :: st)) : JC φ ks ad E cl sl pc lv st := by
  obtain ⟨p, l, e, R, s, m, args, below, meth, c, Q, G, A, cells, slots, nL⟩ := φ
  obtain ⟨hx, hb, -⟩ := hG
  intro H locs ls hn hP hD hS h
  exact lv_aload_n hx hb hd hi (lv_at h j (c_mapAt hl)) (k H locs ls hn hP hD hS h)
theorem c_iload_n (hG : Good φ own cc nl fr lo) {f : Fin 4} {i : Nat} (j : Nat) {x : Int} (hd : decode cc pc = .ok (.iload_n f, 1)) (hi : (f : Nat) = i) (hl : lv[j]? = some (i, .inl x)) (k : JC φ ks ad E cl sl (pc + 1) lv (.inl x :: st)) : JC φ ks ad E cl sl pc lv st := by
  obtain ⟨p, l, e, R, s, m, args, below, meth, c, Q, G, A, cells, slots, nL⟩ := φ
  obtain ⟨hx, hb, -⟩ := hG
  intro H locs ls hn hP hD hS h
  exact lv_iload_n hx hb hd hi (lv_at h j (c_mapAt hl)) (k H locs ls hn hP hD hS h)
theorem c_istore_n (hG : Good φ own cc nl fr lo) {f : Fin 4} {i : Nat} {x : Int} (hd : decode cc pc = .ok (.istore_n f, 1)) (hi : (f : Nat) = i) (hn' : i < nl) (hl : gmSet lv i (.inl x) = lv') (k : JC φ ks ad E cl sl (pc + 1) lv' st) : JC φ ks ad E cl sl pc lv (.inl x :: st) := by
  obtain ⟨p, l, e, R, s, m, args, below, meth, c, Q, G, A, cells, slots, nL⟩ := φ
  obtain ⟨hx, hb, -, -, -, -, -, -, -, -, -, -, rfl⟩ := hG
  intro H locs ls hn hP hD hS h
  subst hl
  exact lv_istore_n (x := Int32.ofInt x) hx hb hd hi h hn' (cSet_map lv i (.inl x)) (fun ls' h' => k H locs ls' hn hP hD hS h')
theorem c_astore_n (hG : Good φ own cc nl fr lo) {f : Fin 4} {i : Nat} {x : Nat} (hd : decode cc pc = .ok (.astore_n f, 1)) (hi : (f : Nat) = i) (hn' : i < nl) (hl : gmSet lv i (.inr x) = lv') (k : JC φ ks ad E cl sl (pc + 1) lv' st) : JC φ ks ad E cl sl pc lv (.inr x :: st) := by
  obtain ⟨p, l, e, R, s, m, args, below, meth, c, Q, G, A, cells, slots, nL⟩ := φ
  obtain ⟨hx, hb, -, -, -, -, -, -, -, -, -, -, rfl⟩ := hG
  intro H locs ls hn hP hD hS h
  subst hl
  exact lv_astore_n (x := x) hx hb hd hi h hn' (cSet_map lv i (.inr x)) (fun ls' h' => k H locs ls' hn hP hD hS h')
theorem c_iinc (hG : Good φ own cc nl fr lo) {i : Nat} {n : Int} (j : Nat) {x : Int} (hd : decode cc pc = .ok (.iinc i n, 3)) (hj : lv[j]? = some (i, .inl x)) (hn' : i < nl) (hl : gmSet lv i (.inl (x + n)) = lv') (k : JC φ ks ad E cl sl (pc + 3) lv' st) : JC φ ks ad E cl sl pc lv st := by
  obtain ⟨p, l, e, R, s, m, args, below, meth, c, Q, G, A, cells, slots, nL⟩ := φ
  obtain ⟨hx, hb, -, -, -, -, -, -, -, -, -, -, rfl⟩ := hG
  intro H locs ls hn hP hD hS h
  subst hl
  exact lv_iinc (x := Int32.ofInt x) (v := Int32.ofInt (x + n)) hx hb hd h (c_mapAt hj) (Int32.ofInt_add x n).symm hn' (cSet_map lv i (.inl (x + n))) (fun ls' h' => k H locs ls' hn hP hD hS h')
theorem c_goto (hG : Good φ own cc nl fr lo) {off : Int} {tgt : Nat} (hd : decode cc pc = .ok (.goto off, 3)) (ht : (pc : Int) + off = (tgt : Int)) (k : JC φ ks ad E cl sl tgt lv st) : JC φ ks ad E cl sl pc lv st := by
  obtain ⟨p, l, e, R, s, m, args, below, meth, c, Q, G, A, cells, slots, nL⟩ := φ
  obtain ⟨hx, hb, -⟩ := hG
  intro H locs ls hn hP hD hS hl
  exact lv_goto hx hb hd ht (k H locs ls hn hP hD hS hl)
theorem c_icmp_ge (hG : Good φ own cc nl fr lo) {x y off : Int} {tgt : Nat} (hd : decode cc pc = .ok (.if_icmp .ge off, 3)) (ht : (pc : Int) + off = (tgt : Int)) (h1 : gmR x) (h2 : gmR y) (kt : y ≤ x → JC φ ks ad E cl sl tgt lv st) (kf : ¬ y ≤ x → JC φ ks ad E cl sl (pc + 3) lv st) : JC φ ks ad E cl sl pc lv (.inl y :: .inl x :: st) := by
  obtain ⟨p, l, e, R, s, m, args, below, meth, c, Q, G, A, cells, slots, nL⟩ := φ
  obtain ⟨hx, hb, -⟩ := hG
  intro H locs ls hn hP hD hS hl
  exact lv_icmp_ge hx hb hd ht (fun q => kt ((gmR_le h2 h1).mp q) H locs ls hn hP hD hS hl) (fun q => kf (fun z => q ((gmR_le h2 h1).mpr z)) H locs ls hn hP hD hS hl)
theorem c_dup (hG : Good φ own cc nl fr lo) {v : AV} (hd : decode cc pc = .ok (.dup, 1)) (k : JC φ ks ad E cl sl (pc + 1) lv (v :: v :: st)) : JC φ ks ad E cl sl pc lv (v :: st) := by
  obtain ⟨p, l, e, R, s, m, args, below, meth, c, Q, G, A, cells, slots, nL⟩ := φ
  obtain ⟨hx, hb, -⟩ := hG
  intro H locs ls hn hP hD hS hl
  exact lv_dup hx hb hd (cV_cat v) (k H locs ls hn hP hD hS hl)
theorem c_objInit (hG : Good φ own cc nl fr lo) {idx a : Nat} (hl : Cond.methodLink own idx Lib.objectInit ∈ gmT) (hi : Cond.instanceMethod Lib.objectInit ∈ gmT) (hc : Cond.code Lib.objectInit ⟨#[0xb1]⟩ 1 none ∈ gmT) (hR : 1 ≤ fr ∧ 12 ≤ lo) (hd : decode cc pc = .ok (.invokespecial idx, 3)) (k : JC φ ks ad E cl sl (pc + 3) lv []) : JC φ ks ad E cl sl pc lv [.inr a] := by
  obtain ⟨p, l, e, R, s, m, args, below, meth, c, Q, G, A, cells, slots, nL⟩ := φ
  obtain ⟨hx, hb, hml, hown, hts, hK, hN, hA, hfr, hlo, hcl, hsl, rfl⟩ := hG
  intro H locs ls hn hP hD hS h
  refine W.objInit hx hb hown (hts _ hl) (hts _ hi) (hts _ hc) rfl (by rw [hml]; exact h.1) rfl hd (by omega) (by show 2 * 0 + 0 + 12 ≤ R.locals; omega) ?_
  exact W.eq (g2 := F0 m (pc + 3) ls []) rfl (k H locs ls hn hP hD hS h)
theorem c_new (hG : Good φ own cc nl fr lo) (hC : ConC φ mc ms) {idx ci kn : Nat} (h7 : ci < 7) (hl : Cond.classLink own idx (gmC ci).1 ∈ gmT) (hi : Cond.instantiable (gmC ci).1 (gmC ci).2.2 ∈ gmT) (hini : Cond.initialized (gmC ci).1 ∈ gmT) (hk : kn ∉ ks) {fs : List Value} (hfs : ∀ j, j < (gmC ci).2.2 → defaultValue (gmTy0 ci j) = vp_V fs j) (hr : cl + 1 ≤ mc ∧ sl + (gmC ci).2.2 ≤ ms) (hd : decode cc pc = .ok (.new idx, 3)) (k : ∀ q, JC φ (ks ++ [kn]) (upC ad kn q) (upC E kn (.inr (ci, fs))) (cl + 1) (sl + (gmC ci).2.2) (pc + 3) lv (.inr q :: st)) : JC φ ks ad E cl sl pc lv st := by
  obtain ⟨p, l, e, R, s, m, args, below, meth, c, Q, G, A, cells, slots, nL⟩ := φ
  obtain ⟨hx, hb, hml, hown, hts, hK, hN, hA, hfr, hlo, hcl, hsl, rfl⟩ := hG
  obtain ⟨-, hc1, hc2⟩ := hC
  intro H locs ls hn hP hD hS h
  refine va_new (D := G.1) (cl := gmCl) (ci := ci) (fs := fs) (C := (gmC ci).1) (T := (gmC ci).2.1) (N := (gmC ci).2.2) hx hb hts (gmU h7) (gmTy0 ci) (gmTy0_ok ci h7) hown (hts _ hl) (hts _ hi) (hts _ hini) hK hP hD hS hA (gmCl_at h7) hfs (by omega) (by omega) hd (fun q H1 hP1 hD1 hS1 => ?_)
  rw [← cW_new hk] at hP1 hD1
  exact k q H1 locs ls (c_nodup hn hk) hP1 hD1 hS1 h
theorem c_newa (hG : Good φ own cc nl fr lo) (hC : ConC φ mc ms) {atype : ArrayType} {c0 N kn : Nat} {n : Int} (h2 : c0 < 2) (hty : newarray.typeOf atype = gmTyF c0) (hw : Cond.arrayClass (newarray.typeOf atype) ∈ gmT) (hk : kn ∉ ks) (hN : n = N) (hb2 : N ≤ 10000) (hr : cl + 1 ≤ mc ∧ sl + N ≤ ms) (hd : decode cc pc = .ok (.newarray atype, 2)) (k : ∀ q, JC φ (ks ++ [kn]) (upC ad kn q) (upC E kn (.inl ((fG φ).2.2 (c0 + 10), N, .inl (fun _ => 0)))) (cl + 1) (sl + N) (pc + 2) lv (.inr q :: st)) : JC φ ks ad E cl sl pc lv (.inl n :: st) := by
  obtain ⟨p, l, e, R, s, m, args, below, meth, c, Q, G, A, cells, slots, nL⟩ := φ
  obtain ⟨hx, hb, hml, hown, hts, hK, hN', hA, hfr, hlo, hcl, hsl, rfl⟩ := hG
  obtain ⟨-, hc1, hc2⟩ := hC
  subst hN
  intro H locs ls hn hP hD hS h
  have e0 : (Int32.ofInt (N : Int)).toNatClampNeg = N := by rw [Int32.toNatClampNeg_ofInt_of_le (by omega) (by omega)]; omega
  have e1 : ¬ Int32.ofInt (N : Int) < 0 := fun z => by
    have := (gmR_lt ⟨by omega, by omega⟩ gmR_0).mp z
    omega
  have hbytes : N * componentBytes (gmTyF c0) ≤ 536870912 := by
    have : componentBytes (gmTyF c0) ≤ 4 := by
      rcases (by omega : c0 = 0 ∨ c0 = 1) with rfl | rfl <;> decide
    have := Nat.mul_le_mul hb2 this
    omega
  have hz : ∀ cA : ClassId, vp_cell cA (N, .inl (fun _ => 0)) = arrV cA N (fun _ => defaultValue (gmTyF c0)) := by
    rcases (by omega : c0 = 0 ∨ c0 = 1) with rfl | rfl <;> exact fun _ => rfl
  refine va_newa (D := G.1) (cl := gmCl) (n := Int32.ofInt (N : Int)) (N' := N) (a0 := (N, .inl (fun _ => 0))) hx hb (hts _ hw) hty hK hP hD hS hA hz e1 e0 hbytes (by omega) (by omega) hd (fun q cA H1 hK1 hP1 hD1 hS1 => ?_)
  have hcA : cA = G.2.2 (c0 + 10) := (hK1.2 (gmTy G).length (cA, gmTyF c0) (by rw [List.getElem?_append_right (Nat.le_refl _), Nat.sub_self]; rfl)).2.uniq (hK.2 c0 _ (gmTy_at G (by omega))).2
  subst hcA
  rw [← cW_new hk] at hP1 hD1
  exact k q H1 locs ls (c_nodup hn hk) hP1 hD1 hS1 h
theorem c_newq (hG : Good φ own cc nl fr lo) (hC : ConC φ mc ms) {idx c0 ci N kn : Nat} {n : Int} (h6 : c0 < 6) (hty : gmTyF c0 = .object (gmC ci).1) (hci : ci = 1 ∨ ci = 2 ∨ ci = 3 ∨ ci = 4) (hl : Cond.classLink own idx (gmC ci).1 ∈ gmT) (hk : kn ∉ ks) (hN : n = N) (hb2 : N ≤ 10000) (hr : cl + 1 ≤ mc ∧ sl + N ≤ ms) (hd : decode cc pc = .ok (.anewarray idx, 3)) (k : ∀ q, JC φ (ks ++ [kn]) (upC ad kn q) (upC E kn (.inl ((fG φ).2.2 (c0 + 10), N, .inr (.inr (.inr (.inr (fun _ => none))))))) (cl + 1) (sl + N) (pc + 3) lv (.inr q :: st)) : JC φ ks ad E cl sl pc lv (.inl n :: st) := by
  obtain ⟨p, l, e, R, s, m, args, below, meth, c, Q, G, A, cells, slots, nL⟩ := φ
  obtain ⟨hx, hb, hml, hown, hts, hK, hN', hA, hfr, hlo, hcl, hsl, rfl⟩ := hG
  obtain ⟨hAO, hc1, hc2⟩ := hC
  subst hN
  intro H locs ls hn hP hD hS h
  have e0 : (Int32.ofInt (N : Int)).toNatClampNeg = N := by rw [Int32.toNatClampNeg_ofInt_of_le (by omega) (by omega)]; omega
  have e1 : ¬ Int32.ofInt (N : Int) < 0 := fun z => by
    have := (gmR_lt ⟨by omega, by omega⟩ gmR_0).mp z
    omega
  have hO : va_AO (gmC ci).1 s := by
    rcases hci with rfl | rfl | rfl | rfl
    · exact hAO.1
    · exact hAO.2.1
    · exact hAO.2.2.1
    · exact hAO.2.2.2
  refine va_newq (D := G.1) (cl := gmCl) (n := Int32.ofInt (N : Int)) (N' := N) hx hb hown (hts _ hl) hO hK hP hD hS hA e1 e0 (by omega) (by omega) (by omega) hd (fun q cA H1 hK1 hP1 hD1 hS1 => ?_)
  have ht := gmTy_at G h6
  rw [hty] at ht
  have hcA : cA = G.2.2 (c0 + 10) := (hK1.2 (gmTy G).length (cA, .object (gmC ci).1) (by rw [List.getElem?_append_right (Nat.le_refl _), Nat.sub_self]; rfl)).2.uniq (hK.2 c0 _ ht).2
  subst hcA
  rw [← cW_new hk] at hP1 hD1
  exact k q H1 locs ls (c_nodup hn hk) hP1 hD1 hS1 h
theorem c_putR (hG : Good φ own cc nl fr lo) (hin2 : isInit φ) {idx ci i ko a q : Nat} {fs : List Value} (hf : gmFL own idx ci i) (hdecl : ((gmC ci).2.1 i).1 = own) (hfin : ((gmC ci).2.1 i).2.2.2 = true) (hko : ko ∈ ks) (ha : a = ad ko) (he : E ko = .inr (ci, fs)) (hlen : i < fs.length) (hnar : narrow (gmTy0 ci i) (.ref q) = .ref q) (hfit : fits (gmTy0 ci i) (.ref q) = true) (hd : decode cc pc = .ok (.putfield idx, 3)) (k : JC φ ks ad (upC E ko (.inr (ci, fs.set i (.ref q)))) cl sl (pc + 3) lv st) : JC φ ks ad E cl sl pc lv (.inr q :: .inr a :: st) := by
  obtain ⟨p, l, e, R, s, m, args, below, meth, c, Q, G, A, cells, slots, nL⟩ := φ
  obtain ⟨hx, hb, hml, hown, hts, hK, hN, hA, hfr, hlo, hcl, hsl, rfl⟩ := hG
  obtain ⟨h7, hi, hl⟩ := hf
  subst ha
  intro H locs ls hn hP hD hS h
  obtain ⟨j, hj⟩ := c_idx hko
  have hat := cW_at (ad := ad) (E := E) hj
  rw [he] at hat
  refine va_putF (D := G.1) (cl := gmCl) (C := (gmC ci).1) (T := (gmC ci).2.1) (N := (gmC ci).2.2) (ci := ci) (v := .ref q) (ty := gmTy0 ci i) hx hb hts (gmU h7) (gmTy0 ci) (gmTy0_ok ci h7) (gmNm_ok ci h7) hown hK hP hD hS j hat (gmCl_at h7) i hi (hts _ hl) (fun _ z => z) hfin hin2 hdecl (gmTy0_ok ci h7 i hi) hnar hfit hlen hd (fun H1 locs1 hP1 hD1 hS1 => ?_)
  rw [cW_set hn hj] at hP1 hD1
  exact k H1 locs1 ls hn hP1 hD1 hS1 h
theorem c_putI (hG : Good φ own cc nl fr lo) {idx ci i ko a : Nat} {x : Int} {fs : List Value} (hf : gmFL own idx ci i) (hfin : ((gmC ci).2.1 i).2.2.2 = false) (hko : ko ∈ ks) (ha : a = ad ko) (he : E ko = .inr (ci, fs)) (hlen : i < fs.length) (hnar : narrow (gmTy0 ci i) (.int (Int32.ofInt x)) = .int (Int32.ofInt x)) (hfit : fits (gmTy0 ci i) (.int (Int32.ofInt x)) = true) (hd : decode cc pc = .ok (.putfield idx, 3)) (k : JC φ ks ad (upC E ko (.inr (ci, fs.set i (.int (Int32.ofInt x))))) cl sl (pc + 3) lv st) : JC φ ks ad E cl sl pc lv (.inl x :: .inr a :: st) := by
  obtain ⟨p, l, e, R, s, m, args, below, meth, c, Q, G, A, cells, slots, nL⟩ := φ
  obtain ⟨hx, hb, hml, hown, hts, hK, hN, hA, hfr, hlo, hcl, hsl, rfl⟩ := hG
  obtain ⟨h7, hi, hl⟩ := hf
  subst ha
  intro H locs ls hn hP hD hS h
  obtain ⟨j, hj⟩ := c_idx hko
  have hat := cW_at (ad := ad) (E := E) hj
  rw [he] at hat
  refine va_put (D := G.1) (cl := gmCl) (C := (gmC ci).1) (T := (gmC ci).2.1) (N := (gmC ci).2.2) (ci := ci) (v := .int (Int32.ofInt x)) (ty := gmTy0 ci i) hx hb hts (gmU h7) (gmTy0 ci) (gmTy0_ok ci h7) (gmNm_ok ci h7) hown hK hP hD hS j hat (gmCl_at h7) i hi (hts _ hl) (fun _ z => z) hfin (gmTy0_ok ci h7 i hi) hnar hfit hlen hd (fun H1 locs1 hP1 hD1 hS1 => ?_)
  rw [cW_set hn hj] at hP1 hD1
  exact k H1 locs1 ls hn hP1 hD1 hS1 h
theorem c_getR (hG : Good φ own cc nl fr lo) {idx ci i ko a q : Nat} {fs : List Value} (hf : gmFL own idx ci i) (hko : ko ∈ ks) (ha : a = ad ko) (he : E ko = .inr (ci, fs)) (hv : fs[i]? = some (.ref q)) (hd : decode cc pc = .ok (.getfield idx, 3)) (k : JC φ ks ad E cl sl (pc + 3) lv (.inr q :: st)) : JC φ ks ad E cl sl pc lv (.inr a :: st) := by
  obtain ⟨p, l, e, R, s, m, args, below, meth, c, Q, G, A, cells, slots, nL⟩ := φ
  obtain ⟨hx, hb, hml, hown, hts, hK, hN, hA, hfr, hlo, hcl, hsl, rfl⟩ := hG
  obtain ⟨h7, hi, hl⟩ := hf
  subst ha
  intro H locs ls hn hP hD hS h
  obtain ⟨j, hj⟩ := c_idx hko
  have hat := cW_at (ad := ad) (E := E) hj
  rw [he] at hat
  exact va_get (D := G.1) (cl := gmCl) (C := (gmC ci).1) (T := (gmC ci).2.1) (N := (gmC ci).2.2) (ci := ci) (v := .ref q) hx hb hts (gmU h7) hown hK hP j hat (gmCl_at h7) i hi (hts _ hl) (fun _ z => z) hv hd (k H locs ls hn hP hD hS h)
theorem c_iast (hG : Good φ own cc nl fr lo) {ka a N t : Nat} {x i : Int} {f : Nat → Int32} (hka : ka ∈ ks) (ha : a = ad ka) (he : E ka = .inl ((fG φ).2.2 10, N, .inl f)) (ht : i = t) (hi : t < N) (hN : N < 2147483648) (hd : decode cc pc = .ok (.iastore, 1)) (k : JC φ ks ad (upC E ka (.inl ((fG φ).2.2 10, N, .inl (upd f t (Int32.ofInt x))))) cl sl (pc + 1) lv st) : JC φ ks ad E cl sl pc lv (.inl x :: .inl i :: .inr a :: st) := by
  obtain ⟨p, l, e, R, s, m, args, below, meth, c, Q, G, A, cells, slots, nL⟩ := φ
  obtain ⟨hx, hb, hml, hown, hts, hK, hN', hA, hfr, hlo, hcl, hsl, rfl⟩ := hG
  subst ha
  subst ht
  intro H locs ls hn hP hD hS h
  obtain ⟨j, hj⟩ := c_idx hka
  have hat := cW_at (ad := ad) (E := E) hj
  rw [he] at hat
  have hin : 0 ≤ (t : Int) ∧ (t : Int) < N := by omega
  refine va_iast (D := G.1) (cl := gmCl) (x := Int32.ofInt x) hx hb hK hP hD hS j 0 hat (gmTy_at G (by decide)) (gmR_in hin hN) hd (fun H1 locs1 hP1 hD1 hS1 => ?_)
  rw [gmR_clamp hin hN, Int.toNat_natCast] at hP1 hD1
  have e2 : ∀ e, (cW ks ad E).set j (ad ka, e) = cW ks ad (upC E ka e) := fun e => cW_set hn hj
  rw [e2] at hP1 hD1
  exact k H1 locs1 ls hn hP1 hD1 hS1 h
theorem c_aast (hG : Good φ own cc nl fr lo) {ka kv a v N t c0 ci : Nat} {i : Int} {f : Nat → Option Nat} {vs : List Value} (h6 : c0 < 6) (h7 : ci < 7) (hty : gmTyF c0 = .object (gmC ci).1) (hka : ka ∈ ks) (ha : a = ad ka) (hkv : kv ∈ ks) (hv : v = ad kv) (he : E ka = .inl ((fG φ).2.2 (c0 + 10), N, .inr (.inr (.inr (.inr f))))) (hev : E kv = .inr (ci, vs)) (ht : i = t) (hi : t < N) (hN : N < 2147483648) (hd : decode cc pc = .ok (.aastore, 1)) (k : JC φ ks ad (upC E ka (.inl ((fG φ).2.2 (c0 + 10), N, .inr (.inr (.inr (.inr (va_up f t (some v)))))))) cl sl (pc + 1) lv st) : JC φ ks ad E cl sl pc lv (.inr v :: .inl i :: .inr a :: st) := by
  obtain ⟨p, l, e, R, s, m, args, below, meth, c, Q, G, A, cells, slots, nL⟩ := φ
  obtain ⟨hx, hb, hml, hown, hts, hK, hN', hA, hfr, hlo, hcl, hsl, rfl⟩ := hG
  subst ha
  subst ht
  subst hv
  intro H locs ls hn hP hD hS h
  obtain ⟨j, hj⟩ := c_idx hka
  obtain ⟨j2, hj2⟩ := c_idx hkv
  have hat := cW_at (ad := ad) (E := E) hj
  rw [he] at hat
  have hat2 := cW_at (ad := ad) (E := E) hj2
  rw [hev] at hat2
  have hin : 0 ≤ (t : Int) ∧ (t : Int) < N := by omega
  have ht := gmTy_at G h6
  rw [hty] at ht
  refine va_astq (D := G.1) (cl := gmCl) hx hb hK hP hD hS j c0 j2 ci hat ht hat2 (gmCl_at h7) (gmR_in hin hN) hd (fun H1 locs1 hP1 hD1 hS1 => ?_)
  rw [gmR_clamp hin hN, Int.toNat_natCast] at hP1 hD1
  have e2 : ∀ e, (cW ks ad E).set j (ad ka, e) = cW ks ad (upC E ka e) := fun e => cW_set hn hj
  rw [e2] at hP1 hD1
  exact k H1 locs1 ls hn hP1 hD1 hS1 h
end CR
