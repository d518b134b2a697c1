/-! CONSTRUCTORS: contracts, calls, entry and end -/
def preC (G : GG) (h0 : Nat) (e0 : va_E) (sz : Nat) : State → Prop := fun U => U.heap.size = sz ∧ va_P G.1 gmCl [(h0, e0)] U.heap ∧ va_K G.1 gmCl (gmTy G) U ∧ va_D (fun _ => True) [(h0, e0)] ∧ gmNw U ∧ gmAOs U
abbrev E4 : Type := GG → (Nat → Nat) → Nat → va_E
def CtrC (y : MethodName) (bc : ByteArray) (nL f lo mc ms k0 : Nat) (e0 : va_E) (ks' : List Nat) (E' : E4) : Prop :=
  ∀ (l : Launch) (G : GG) (h0 sz : Nat), Met l y (.code y bc nL none :: gmT) { frames := f, cells := mc, slots := ms, locals := lo } (va_Pc [.ref h0] (preC G h0 e0 sz)) (va_Qv (S := Nat → Nat) (fun ad => ad k0 = h0) (fun ad t => va_P G.1 gmCl (cW ks' ad (E' G ad)) t.heap ∧ va_D (va_A [(h0, e0)] sz) (cW ks' ad (E' G ad))) (va_A [(h0, e0)] sz)) mc ms (va_A [(h0, e0)] sz)
def FinC (φ : Fx) (cc : ByteArray) (mc ms k0 h0 : Nat) (ks' : List Nat) (E' : E4) : Prop := match φ with
  | (p, l, e, R, s, m, args, below, meth, c, Q, G, A, cells, slots, nL) => ∀ (pc : Nat) (H : Heap) (locs : List Loc) (ls : Array Slot) (ad : Nat → Nat) (cl sl : Nat), decode cc pc = .ok (.return_, 1) → ad k0 = h0 → va_P G.1 gmCl (cW ks' ad (E' G ad)) H → va_D A (cW ks' ad (E' G ad)) → va_S A s.heap H locs → cl ≤ mc → sl ≤ ms → W p l e R s m args below meth c H locs cl sl Q (F0 m pc ls [])
theorem c_ret {φ : Fx} {cc : ByteArray} {mc ms k0 h0 : Nat} {ks ks' : List Nat} {E' : E4} {ad : Nat → Nat} {E : Nat → va_E} {cl sl pc : Nat} {lv : List (Nat × AV)} (hF : FinC φ cc mc ms k0 h0 ks' E') (hks : ks = ks') (hE : ∀ k ∈ ks', E k = E' (fG φ) ad k) (h0' : ad k0 = h0) (hr : cl ≤ mc ∧ sl ≤ ms) (hd : decode cc pc = .ok (.return_, 1)) : JC φ ks ad E cl sl pc lv [] := by
  subst hks
  obtain ⟨p, l, e, R, s, m, args, below, meth, c, Q, G, A, cells, slots, nL⟩ := φ
  intro H locs ls hn hP hD hS h
  have hw : cW ks ad (E' G ad) = cW ks ad E := cW_congr (fun k hk => ⟨rfl, (hE k hk).symm⟩)
  exact hF pc H locs ls ad cl sl hd h0' (by rw [hw]; exact hP) (by rw [hw]; exact hD) hS hr.1 hr.2
theorem CtrC.of {y : MethodName} {bc : ByteArray} {nL f lo mc ms k0 : Nat} {e0 : va_E} {ks' : List Nat} {E' : E4} {own : String} (hpl : plainName y.cls = true) (hown : y.cls = own) (hname : y.name = "<init>") (hlen : 1 ≤ nL) (body : ∀ φ h0, Good φ own bc nL f lo → ConC φ mc ms → isInit φ → FinC φ bc mc ms k0 h0 ks' E' → JC φ [k0] (fun _ => h0) (fun _ => e0) 0 0 0 [(0, .inr h0)] []) : CtrC y bc nL f lo mc ms k0 e0 ks' E' := by
  intro l G h0 sz
  refine Met.ofW (cc := bc) (maxL := nL) (ret := none) hpl rfl ?_
  intro p e s m args below meth c s₁ B hml hv
  obtain ⟨rfl, hsz, hP, hK, hD0, hN, hAO⟩ := hv
  subst hsz
  have hx := B.exec
  have hb := B.bytes
  have hr := B.returns
  have hts := atoms_spec (ws := .code y bc nL none :: gmT) B.pre
  have hown' : s.vm.findClass own = some m.cls := by rw [← hown]; exact findClass_of_methodNamed B.named
  have hlocks := B.notSynchronized
  have hin : meth.name = "<init>" := (name_of_methodNamed B.named B.method).1.trans hname
  have hD := hD0.self (sz := s.heap.size)
  have hl := lv_entry ([.ref h0]) (n := nL) (by show 1 ≤ nL; exact hlen)
  rw [lg_entry_eq]
  exact body (p, l, e, { frames := f, cells := mc, slots := ms, locals := lo }, s, m, ([Value.ref h0] : List Value).toArray, below, meth, c, MQ below (va_Qv (S := Nat → Nat) (fun ad => ad k0 = h0) (fun ad t => va_P G.1 gmCl (cW ks' ad (E' G ad)) t.heap ∧ va_D (va_A [(h0, e0)] s.heap.size) (cW ks' ad (E' G ad))) (va_A [(h0, e0)] s.heap.size)) ([Value.ref h0] : List Value).toArray s mc ms (va_A [(h0, e0)] s.heap.size), G, va_A [(h0, e0)] s.heap.size, 0, 0, nL) h0
    ⟨hx, hb, hml, hown', fun w hw => hts w (List.mem_cons_of_mem _ hw), hK, hN, fun q h => Or.inr h, Nat.le_refl _, Nat.le_refl _, Nat.zero_le _, Nat.zero_le _, rfl⟩
    ⟨hAO, Nat.le_refl _, Nat.le_refl _⟩ hin
    (fun pc H locs ls ad cl sl hd h0' hP1 hD1 hS1 hr1 hr2 => W.widen (k := mc) (n := ms) hr1 hr2 (W.vret hx hb hr (fun t ht hwm => ⟨⟨ad, rfl, h0', by rw [ht]; exact hP1, hD1⟩, hS1.F ht⟩) hS1.2.2 hd))
    s.heap [] _ (List.pairwise_singleton _ _) hP hD va_S.rf hl
theorem c_cat : ∀ st : List AV, ((st.map cV).map fun v => v.category).sum = st.length
  | [] => rfl
  | a :: t => by
    simp only [List.map_cons, List.sum_cons, cV_cat, List.length_cons]
    have := c_cat t
    omega
def mgC {α : Type} (l : List Nat) (f g : Nat → α) : Nat → α := fun k => if k ∈ l then f k else g k
theorem mgC_1 {α : Type} {l : List Nat} {f g : Nat → α} {k : Nat} (h : k ∈ l) : mgC l f g k = f k := if_pos h
theorem mgC_0 {α : Type} {l : List Nat} {f g : Nat → α} {k : Nat} (h : k ∉ l) : mgC l f g k = g k := if_neg h
theorem c_blind {h0 : Nat} {e0 : va_E} {G : GG} {sz : Nat} : FrameBlind (va_Pc [.ref h0] (preC G h0 e0 sz)) := fun a U g mk q => by
  obtain ⟨q0, q1, qP, qK, qD, qN, qO⟩ := q
  exact ⟨q0, q1, qP, va_K.moved (u := U) (U := U.calling g mk a) (Vm.Alike.refl U.vm) qK, qD, fun w hw => va_Nw.same (u := U) (U := U.calling g mk a) rfl rfl (qN w hw), gmAOs.moved (u := U) (U := U.calling g mk a) (Vm.Alike.refl U.vm) qO⟩
/-- behind a constructor's call: the caller's other cells and the made ones -/
theorem c_join {D : va_G} {A : Nat → Prop} {kr : List Nat} {k0 : Nat} {ad : Nat → Nat} {E : Nat → va_E} {H H1 : Heap} {H0 : Heap} {locs : List Loc} {ks' : List Nat} {ad1 : Nat → Nat} {E1 : Nat → va_E} (hP : va_P D gmCl (cW (kr ++ [k0]) ad E) H) (hD : va_D A (cW (kr ++ [k0]) ad E)) (hS : va_S A H0 H locs) (hA : ∀ q, H0.size ≤ q → A q) (hdis : ∀ k ∈ kr, k ∉ ks')
    (hk : ∀ q : Nat, q < H.size → ¬ va_A [(ad k0, E k0)] H.size q → H1[q]? = H[q]?) (hP1 : va_P D gmCl (cW ks' ad1 E1) H1) (hD1 : va_D (va_A [(ad k0, E k0)] H.size) (cW ks' ad1 E1)) : va_P D gmCl (cW (kr ++ ks') (mgC ks' ad1 ad) (mgC ks' E1 E)) H1 ∧ va_D A (cW (kr ++ ks') (mgC ks' ad1 ad) (mgC ks' E1 E)) := by
  have e1 : cW (kr ++ [k0]) ad E = cW kr ad E ++ [(ad k0, E k0)] := by unfold cW; rw [List.map_append]; rfl
  have e2 : cW (kr ++ ks') (mgC ks' ad1 ad) (mgC ks' E1 E) = cW kr ad E ++ cW ks' ad1 E1 := by
    have a1 : cW kr (mgC ks' ad1 ad) (mgC ks' E1 E) = cW kr ad E := cW_congr (fun k hk => ⟨mgC_0 (hdis k hk), mgC_0 (hdis k hk)⟩)
    have a2 : cW ks' (mgC ks' ad1 ad) (mgC ks' E1 E) = cW ks' ad1 E1 := cW_congr (fun k hk => ⟨mgC_1 hk, mgC_1 hk⟩)
    rw [← a1, ← a2]
    unfold cW
    rw [List.map_append]
  rw [e1] at hP hD
  rw [e2]
  have hlen : (cW kr ad E).length = kr.length := by unfold cW; rw [List.length_map]
  have hlast : (cW kr ad E ++ [(ad k0, E k0)])[kr.length]? = some (ad k0, E k0) := by
    rw [List.getElem?_append_right (by omega), hlen, Nat.sub_self]
    rfl
  have hC : ([kr.length] : List Nat).map (fun i => (cW kr ad E ++ [(ad k0, E k0)])[i]?) = ([(ad k0, E k0)] : va_W).map some := by
    rw [List.map_singleton, hlast]
    rfl
  have hF := va_free (wc := [(ad k0, E k0)]) hD hS hA [kr.length] hC
  have hnd : va_D A (cW kr ad E) := by
    refine ⟨fun i j p q hi hj hpq => ?_, fun k q hk => ?_⟩
    · exact hD.1 i j p q (by rw [List.getElem?_append_left ((List.getElem?_eq_some_iff.mp hi).1)]; exact hi) (by rw [List.getElem?_append_left ((List.getElem?_eq_some_iff.mp hj).1)]; exact hj) hpq
    · exact hD.2 k q (by rw [List.getElem?_append_left ((List.getElem?_eq_some_iff.mp hk).1)]; exact hk)
  have apart : ∀ (k : Nat) (q : Nat × va_E), (cW kr ad E)[k]? = some q → q.1 < H.size ∧ ¬ va_A [(ad k0, E k0)] H.size q.1 := by
    intro k q hq
    have hkl := (List.getElem?_eq_some_iff.mp hq).1
    have hq2 : (cW kr ad E ++ [(ad k0, E k0)])[k]? = some q := by rw [List.getElem?_append_left hkl]; exact hq
    have hl := (hP k q hq2).lt
    refine ⟨hl, fun h => ?_⟩
    rcases h with ⟨k2, e, h⟩ | h
    · have hk2 := (List.getElem?_eq_some_iff.mp h).1
      have : k2 = 0 := by simp at hk2; exact hk2
      subst this
      have he : (ad k0, E k0) = (q.1, e) := Option.some.inj h
      have := hD.1 k kr.length q (ad k0, E k0) hq2 hlast (by rw [he])
      omega
    · omega
  refine ⟨va_P.app (fun k q hq => ?_) hP1, va_D.app hnd (hD1.weaken (fun k q _ h => hF q.1 h)) (fun i j x y hx hy hxy => ?_)⟩
  · obtain ⟨g1, g2⟩ := apart k q hq
    have hkl := (List.getElem?_eq_some_iff.mp hq).1
    exact (hP k q (by rw [List.getElem?_append_left hkl]; exact hq)).kept (hk q.1 g1 g2)
  · obtain ⟨g1, g2⟩ := apart i x hx
    exact g2 (hxy ▸ hD1.2 j y hy)
section CC
variable {φ : Fx} {own : String} {cc : ByteArray} {nl fr lo mc ms : Nat} {kr : List Nat} {ad : Nat → Nat} {E : Nat → va_E} {cl sl pc : Nat} {lv : List (Nat × AV)} {st : List AV}
theorem c_callI (hG : Good φ own cc nl fr lo) (hC : ConC φ mc ms) {idx nL f lo' mc' ms' k0 a : Nat} {y : MethodName} {bc : ByteArray} {e0 : va_E} {ks' : List Nat} {E' : E4} (hM : CtrC y bc nL f lo' mc' ms' k0 e0 ks' E') (w1 : Cond.methodLink own idx y ∈ gmT) (w2 : Cond.instanceMethod y ∈ gmT) (w4 : Cond.initialized y.cls ∈ gmT) (w5 : Cond.code y bc nL none ∈ gmT) (hy : y.name = "<init>") (hyd : y.cls ≠ "java/lang/invoke/MethodHandle" ∧ y.cls ≠ "java/lang/invoke/VarHandle" ∧ (parseMethodDescriptor y.desc).map (fun d => d.parameters.length) = some 0) (ha : a = ad k0) (he : E k0 = e0) (hdis : ∀ k ∈ kr, k ∉ ks') (hnd : ks'.Nodup) (hR : f + 1 ≤ fr ∧ 8 + (nL + 11) + lo' ≤ lo) (hr : cl + mc' ≤ mc ∧ sl + ms' ≤ ms) (hst : st.length ≤ 8) (hd : decode cc pc = .ok (.invokespecial idx, 3)) (k : ∀ ad1, ad1 k0 = a → JC φ (kr ++ ks') (mgC ks' ad1 ad) (mgC ks' (E' (fG φ) ad1) E) (cl + mc') (sl + ms') (pc + 3) lv st) : JC φ (kr ++ [k0]) ad E cl sl pc lv (.inr a :: st) := by
  obtain ⟨p, l, e, R, s, m, args, below, meth, c, Q, G, A, cells, slots, nL0⟩ := φ
  obtain ⟨hx, hb, hml, hown, hts, hK, hN, hA, hfr, hlo, hcl, hsl, rfl⟩ := hG
  obtain ⟨hAO, hc1, hc2⟩ := hC
  subst ha
  subst he
  intro H locs ls hn hP hD hS h
  have hlast : (cW (kr ++ [k0]) ad E)[kr.length]? = some (ad k0, E k0) := cW_at (by rw [List.getElem?_append_right (Nat.le_refl _), Nat.sub_self]; rfl)
  have hP0 : va_P G.1 gmCl [(ad k0, E k0)] H := hP.sub [kr.length] (by show List.filterMap _ [kr.length] = _; rw [List.filterMap_cons_some hlast]; rfl)
  have hD0 : va_D (fun _ => True) [(ad k0, E k0)] := by
    refine ⟨fun i j x z hi hj _ => ?_, fun _ _ _ => trivial⟩
    have h1 := (List.getElem?_eq_some_iff.mp hi).1
    have h2 := (List.getElem?_eq_some_iff.mp hj).1
    simp at h1 h2
    omega
  have hfree : ∀ q, va_A [(ad k0, E k0)] H.size q → A q := va_free (wc := [(ad k0, E k0)]) hD hS hA [kr.length] (by rw [List.map_singleton, hlast]; rfl)
  have hcat := c_cat st
  refine va_callv (va_runI (As := []) (rest := st.map cV) ⟨hx, hb, hml, hown, hts⟩ (hM l G (ad k0) H.size) (cwI 0 hts (gm_goodIn w5) rfl rfl rfl (hts _ w4) (hts _ w1) (hts _ w2) hy hyd ⟨Nat.le_trans hR.1 hfr, Nat.le_trans hR.2 hlo⟩) ⟨c_blind, fun U hU hW => ⟨rfl, by rw [hU], by rw [hU]; exact hP0, va_K.moved hW.alike hK, hD0, fun w hw => va_Nw.warmM hW (hN w hw), hAO.moved hW.alike⟩⟩ rfl rfl h.1 rfl (lv_room (by rw [hcat]; exact hst)) hd ⟨by show cl + mc' ≤ R.cells; omega, by show sl + ms' ≤ R.slots; omega⟩) hS (fun q _ q2 => hfree q q2) hfree (fun u t H1 locs1 ht hvm hw hB hz1 hk1 hS1 => ?_)
  obtain ⟨hP1, hD1⟩ := hB
  rw [ht] at hP1
  obtain ⟨hP2, hD2⟩ := c_join hP hD hS hA hdis hk1 hP1 hD1
  refine k u hw H1 locs1 ls ?_ hP2 hD2 hS1 h
  exact List.nodup_append.mpr ⟨(List.nodup_append.mp hn).1, hnd, fun x hx z hz e => hdis x hx (e ▸ hz)⟩
theorem c_callN (hG : Good φ own cc nl fr lo) (hC : ConC φ mc ms) {idx nL f lo' mc' ms' k0 a : Nat} {y : MethodName} {host : String} {bc : ByteArray} {e0 : va_E} {ks' : List Nat} {E' : E4} (hM : CtrC y bc nL f lo' mc' ms' k0 e0 ks' E') (w1 : (own, idx, y, host) ∈ gmNestL) (w2 : Cond.instanceMethod y ∈ gmT) (w4 : Cond.initialized y.cls ∈ gmT) (w5 : Cond.code y bc nL none ∈ gmT) (hy : y.name = "<init>") (hyd : y.cls ≠ "java/lang/invoke/MethodHandle" ∧ y.cls ≠ "java/lang/invoke/VarHandle" ∧ (parseMethodDescriptor y.desc).map (fun d => d.parameters.length) = some 0) (ha : a = ad k0) (he : E k0 = e0) (hdis : ∀ k ∈ kr, k ∉ ks') (hnd : ks'.Nodup) (hR : f + 1 ≤ fr ∧ 8 + (nL + 11) + lo' ≤ lo) (hr : cl + mc' ≤ mc ∧ sl + ms' ≤ ms) (hst : st.length ≤ 8) (hd : decode cc pc = .ok (.invokespecial idx, 3)) (k : ∀ ad1, ad1 k0 = a → JC φ (kr ++ ks') (mgC ks' ad1 ad) (mgC ks' (E' (fG φ) ad1) E) (cl + mc') (sl + ms') (pc + 3) lv st) : JC φ (kr ++ [k0]) ad E cl sl pc lv (.inr a :: st) := by
  obtain ⟨p, l, e, R, s, m, args, below, meth, c, Q, G, A, cells, slots, nL0⟩ := φ
  obtain ⟨hx, hb, hml, hown, hts, hK, hN, hA, hfr, hlo, hcl, hsl, rfl⟩ := hG
  obtain ⟨hAO, hc1, hc2⟩ := hC
  subst ha
  subst he
  intro H locs ls hn hP hD hS h
  have hlast : (cW (kr ++ [k0]) ad E)[kr.length]? = some (ad k0, E k0) := cW_at (by rw [List.getElem?_append_right (Nat.le_refl _), Nat.sub_self]; rfl)
  have hP0 : va_P G.1 gmCl [(ad k0, E k0)] H := hP.sub [kr.length] (by show List.filterMap _ [kr.length] = _; rw [List.filterMap_cons_some hlast]; rfl)
  have hD0 : va_D (fun _ => True) [(ad k0, E k0)] := by
    refine ⟨fun i j x z hi hj _ => ?_, fun _ _ _ => trivial⟩
    have h1 := (List.getElem?_eq_some_iff.mp hi).1
    have h2 := (List.getElem?_eq_some_iff.mp hj).1
    simp at h1 h2
    omega
  have hfree : ∀ q, va_A [(ad k0, E k0)] H.size q → A q := va_free (wc := [(ad k0, E k0)]) hD hS hA [kr.length] (by rw [List.map_singleton, hlast]; rfl)
  have hcat := c_cat st
  have cn : va_CN R s args own idx y host bc nL none (.code y bc nL none :: gmT) { frames := f, cells := mc', slots := ms', locals := lo' } mc' ms' 0 := va_cnB 0 hts (gm_goodIn w5) rfl rfl rfl (hN _ w1) (hts _ w4) hyd ⟨Nat.le_trans hR.1 hfr, Nat.le_trans hR.2 hlo⟩
  refine va_callv (va_runIN (As := []) (rest := st.map cV) ⟨hx, hb, hml, hown, hts⟩ (hM l G (ad k0) H.size) ⟨cn, hy, hts _ w2⟩ ⟨c_blind, fun U hU hW => ⟨rfl, by rw [hU], by rw [hU]; exact hP0, va_K.moved hW.alike hK, hD0, fun w hw => va_Nw.warmM hW (hN w hw), hAO.moved hW.alike⟩⟩ rfl rfl h.1 rfl (lv_room (by rw [hcat]; exact hst)) hd ⟨by show cl + mc' ≤ R.cells; omega, by show sl + ms' ≤ R.slots; omega⟩) hS (fun q _ q2 => hfree q q2) hfree (fun u t H1 locs1 ht hvm hw hB hz1 hk1 hS1 => ?_)
  obtain ⟨hP1, hD1⟩ := hB
  rw [ht] at hP1
  obtain ⟨hP2, hD2⟩ := c_join hP hD hS hA hdis hk1 hP1 hD1
  refine k u hw H1 locs1 ls ?_ hP2 hD2 hS1 h
  exact List.nodup_append.mpr ⟨(List.nodup_append.mp hn).1, hnd, fun x hx z hz e => hdis x hx (e ▸ hz)⟩
end CC
