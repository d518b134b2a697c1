/-! CONSTRUCTORS: the loop that fills an array with new objects -/
def FillI (ks0 : List Nat) (ka : Nat) (ad0 : Nat → Nat) (E0 : Nat → va_E) (cls : ClassId) (N : Nat) (kE : Nat → Nat) (blk : Nat → List Nat) (V : (Nat → Nat) → Nat → va_E) (c : Nat) (ad : Nat → Nat) (E : Nat → va_E) : Prop := (∀ k ∈ ks0, ad k = ad0 k) ∧ (∀ k ∈ ks0, k ≠ ka → E k = E0 k) ∧ E ka = .inl (cls, N, .inr (.inr (.inr (.inr (fun i => if i < c then some (ad (kE i)) else none))))) ∧ ∀ i, i < c → ∀ k ∈ blk i, E k = V ad k
theorem c_fill {φ : Fx} {own : String} {cc : ByteArray} {nl fr lo mc ms : Nat} (hG : Good φ own cc nl fr lo) {idxF ciO fi ko ka h0 N c0 ci ec es cl0 sl0 : Nat} {ks0 : List Nat} {fsO : List Value} {ad0 : Nat → Nat} {E0 : Nat → va_E} {kE : Nat → Nat} {blk : Nat → List Nat} {V : (Nat → Nat) → Nat → va_E} {p0 p2 px : Nat} {off off2 : Int}
    (hN : N < 1000) (hnl : 1 < nl) (hf : gmFL own idxF ciO fi) (hko : ko ∈ ks0) (hka : ka ∈ ks0) (hkoa : ko ≠ ka)
    (hkE : ∀ c, c < N → kE c ∈ blk c) (hb0 : ∀ c, c < N → ∀ k ∈ blk c, k ∉ ks0) (hbb : ∀ c c', c < N → c' < c → ∀ k ∈ blk c, k ∉ blk c')
    (hV : ∀ c, c < N → ∀ ad ad' : Nat → Nat, (∀ k ∈ blk c, ad' k = ad k) → ∀ k ∈ blk c, V ad' k = V ad k)
    (h6 : c0 < 6) (h7 : ci < 7) (hty : gmTyF c0 = .object (gmC ci).1)
    (hh0 : ad0 ko = h0) (hEo : E0 ko = .inr (ciO, fsO)) (hfs : fsO[fi]? = some (.ref (ad0 ka)))
    (hroom : cl0 + ec * N ≤ mc ∧ sl0 + es * N ≤ ms)
    (hpush : ∀ ks ad E cl sl lv st, JC φ ks ad E cl sl p2 lv (.inl (N : Int) :: st) → JC φ ks ad E cl sl (p0 + 1) lv st)
    (hel : ∀ c, c < N → ∀ (ks : List Nat) (ad : Nat → Nat) (E : Nat → va_E) (cl sl : Nat) (lv : List (Nat × AV)) (st : List AV), st.length ≤ 2 → (∀ k ∈ blk c, k ∉ ks) → cl + ec ≤ mc ∧ sl + es ≤ ms → (∀ (ad' : Nat → Nat) (E' : Nat → va_E) (q : Nat), (∀ k ∈ ks, ad' k = ad k ∧ E' k = E k) → q = ad' (kE c) → (∀ k ∈ blk c, E' k = V ad' k) → (∃ vs, E' (kE c) = .inr (ci, vs)) → JC φ (ks ++ blk c) ad' E' (cl + ec) (sl + es) (p2 + 15) lv (.inr q :: st)) → JC φ ks ad E cl sl (p2 + 8) lv st)
    (d0 : decode cc p0 = .ok (.iload_n 1, 1)) (d2 : decode cc p2 = .ok (.if_icmp .ge off, 3)) (t2 : (p2 : Int) + off = (px : Int)) (d3 : decode cc (p2 + 3) = .ok (.aload_n 0, 1)) (d4 : decode cc (p2 + 4) = .ok (.getfield idxF, 3)) (d5 : decode cc (p2 + 7) = .ok (.iload_n 1, 1)) (d6 : decode cc (p2 + 15) = .ok (.aastore, 1)) (d7 : decode cc (p2 + 16) = .ok (.iinc 1 1, 3)) (d8 : decode cc (p2 + 19) = .ok (.goto off2, 3)) (t8 : ((p2 + 19 : Nat) : Int) + off2 = (p0 : Int))
    (kk : ∀ (ad : Nat → Nat) (E : Nat → va_E), FillI ks0 ka ad0 E0 ((fG φ).2.2 (c0 + 10)) N kE blk V N ad E → JC φ (ks0 ++ (List.range N).flatMap blk) ad E (cl0 + ec * N) (sl0 + es * N) px [(1, .inl (N : Int)), (0, .inr h0)] []) :
    ∀ (d c : Nat) (ad : Nat → Nat) (E : Nat → va_E), c + d = N → FillI ks0 ka ad0 E0 ((fG φ).2.2 (c0 + 10)) N kE blk V c ad E → JC φ (ks0 ++ (List.range c).flatMap blk) ad E (cl0 + ec * c) (sl0 + es * c) p0 [(1, .inl (c : Int)), (0, .inr h0)] [] := by
  intro d
  induction d with
  | zero =>
    intro c ad E hd hI
    obtain rfl : c = N := by omega
    refine c_iload_n hG 0 d0 rfl rfl ?_
    refine hpush _ _ _ _ _ _ _ ?_
    exact c_icmp_ge (tgt := px) hG d2 t2 ⟨by omega, by omega⟩ ⟨by omega, by omega⟩ (fun _ => kk ad E hI) (fun q => absurd (Int.le_refl _) q)
  | succ d ih =>
    intro c ad E hd hI
    obtain ⟨i1, i2, i3, i4⟩ := hI
    have hcN : c < N := by omega
    have hroomC : ec * c + ec ≤ ec * N ∧ es * c + es ≤ es * N := by
      have h1 := Nat.mul_le_mul_left ec (show c + 1 ≤ N by omega)
      have h2 := Nat.mul_le_mul_left es (show c + 1 ≤ N by omega)
      rw [Nat.mul_succ] at h1 h2
      exact ⟨h1, h2⟩
    have hmem : ∀ i, i < c → ∀ k ∈ blk i, k ∈ ks0 ++ (List.range c).flatMap blk := fun i hi k hk => List.mem_append_right _ (List.mem_flatMap.mpr ⟨i, List.mem_range.mpr hi, hk⟩)
    have hnew : ∀ k ∈ blk c, k ∉ ks0 ++ (List.range c).flatMap blk := fun k hk z => by
      rcases List.mem_append.mp z with z | z
      · exact hb0 c hcN k hk z
      · obtain ⟨i, hi, hi2⟩ := List.mem_flatMap.mp z
        exact hbb c i hcN (List.mem_range.mp hi) k hk hi2
    refine c_iload_n hG 0 d0 rfl rfl ?_
    refine hpush _ _ _ _ _ _ _ ?_
    refine c_icmp_ge (tgt := px) hG d2 t2 ⟨by omega, by omega⟩ ⟨by omega, by omega⟩ (fun q => by omega) (fun _ => ?_)
    refine c_aload_n hG 1 d3 rfl rfl ?_
    refine c_getR (ko := ko) hG hf (List.mem_append_left _ hko) (by rw [i1 ko hko, hh0]) ((i2 ko hko hkoa).trans hEo) hfs d4 ?_
    refine c_iload_n hG 0 d5 rfl rfl ?_
    refine hel c hcN _ _ _ _ _ _ _ (Nat.le_refl 2) hnew ⟨by omega, by omega⟩ (fun ad' E' q e1 e2 e3 e4 => ?_)
    obtain ⟨vs, e4⟩ := e4
    have ka' : ka ∈ ks0 ++ (List.range c).flatMap blk := List.mem_append_left _ hka
    refine c_aast (ka := ka) (kv := kE c) (t := c) hG h6 h7 hty (List.mem_append_left _ ka') (by rw [(e1 ka ka').1, i1 ka hka]) (List.mem_append_right _ (hkE c hcN)) e2 ((e1 ka ka').2.trans i3) e4 rfl hcN (by omega) d6 ?_
    refine c_iinc (lv' := [(1, .inl ((c : Int) + 1)), (0, .inr h0)]) hG 0 d7 rfl hnl rfl ?_
    refine c_goto (tgt := p0) hG d8 t8 ?_
    have key := ih (c + 1) ad' (upC E' ka (.inl ((fG φ).2.2 (c0 + 10), N, .inr (.inr (.inr (.inr (va_up (fun i => if i < c then some (ad (kE i)) else none) c (some q)))))))) (by omega) ⟨fun k hk => by rw [(e1 k (List.mem_append_left _ hk)).1, i1 k hk], fun k hk hne => by rw [upC_n hne, (e1 k (List.mem_append_left _ hk)).2, i2 k hk hne], ?_, fun i hi k hk => ?_⟩
    · rw [List.range_succ, List.flatMap_append, List.flatMap_singleton, ← List.append_assoc, Nat.mul_succ, Nat.mul_succ, ← Nat.add_assoc, ← Nat.add_assoc, show (((c + 1 : Nat)) : Int) = (c : Int) + 1 by omega] at key
      exact key
    · rw [upC_s]
      congr 7
      funext i
      unfold va_up
      by_cases hi : i = c
      · rw [if_pos hi, if_pos (by omega), hi, e2]
      · rw [if_neg hi]
        show (if i < c then some (ad (kE i)) else none) = _
        by_cases hi2 : i < c
        · rw [if_pos hi2, if_pos (by omega), (e1 (kE i) (hmem i hi2 _ (hkE i (by omega)))).1]
        · rw [if_neg hi2, if_neg (by omega)]
    · have hne : k ≠ ka := fun z => hb0 i (by omega) k hk (z ▸ hka)
      rw [upC_n hne]
      by_cases hi2 : i = c
      · subst hi2; exact e3 k hk
      · have hm := hmem i (by omega) k hk
        rw [(e1 k hm).2, i4 i (by omega) k hk]
        exact (hV i (by omega) ad ad' (fun k2 hk2 => (e1 k2 (hmem i (by omega) k2 hk2)).1) k hk).symm
