/-! THE ORDER -/
def dfl : PT := (0, 0, 0, 0, 0)
def pq (L : List PT) (j : Nat) : PT := L.getD j dfl
def pfo (L : List PT) (j : Nat) : Int := (pq L j).2.2.1
def pal (L : List PT) (j : Nat) : Int := (pq L j).2.2.2.1
def pac (L : List PT) (j : Nat) : Int := (pq L j).2.2.2.2
def AllOK (L : List PT) : Prop := L.length ≤ 72 ∧ ∀ q ∈ L, PtOK q
theorem pq_at {L : List PT} {j : Nat} (h : j < L.length) : L[j]? = some (pq L j) := by
  unfold pq
  rw [List.getD_eq_getElem?_getD, List.getElem?_eq_getElem h]
  rfl
theorem pq_ok {L : List PT} (hO : AllOK L) {j : Nat} (h : j < L.length) : PtOK (pq L j) := hO.2 _ (List.mem_of_getElem? (pq_at h))
theorem pal_b {L : List PT} (hO : AllOK L) {j : Nat} (h : j < L.length) : 1 ≤ pal L j ∧ pal L j ≤ 18 := (pq_ok hO h).2.2.2.1
theorem pac_b {L : List PT} (hO : AllOK L) {j : Nat} (h : j < L.length) : 1 ≤ pac L j ∧ pac L j ≤ 18 := (pq_ok hO h).2.2.2.2
theorem pfo_b {L : List PT} (hO : AllOK L) {j : Nat} (h : j < L.length) : pfo L j = 0 ∨ pfo L j = 1 := (pq_ok hO h).2.2.1
theorem mul_b {x y : Int} (hx : 1 ≤ x ∧ x ≤ 18) (hy : 1 ≤ y ∧ y ≤ 18) : 0 ≤ x * y ∧ x * y ≤ 324 := by
  have h1 := Int.mul_le_mul hx.2 hy.2 (by omega) (by omega)
  have h2 := Int.mul_nonneg (by omega : 0 ≤ x) (by omega : 0 ≤ y)
  omega
def keyL (L : List PT) (b : Int) (j : Nat) : Int := if b = 1 then pal L j else if b = 2 then pac L j else if b = 3 then pal L j * pac L j else 0
theorem keyL_b {L : List PT} (hO : AllOK L) (b : Int) {j : Nat} (h : j < L.length) : 0 ≤ keyL L b j ∧ keyL L b j ≤ 324 := by
  have h1 := pal_b hO h
  have h2 := pac_b hO h
  have h3 := mul_b h1 h2
  unfold keyL
  split
  · omega
  · split
    · omega
    · split <;> omega
def upA (o : Nat → Int) (i : Nat) (v : Int) : Nat → Int := fun j => if j = i then v else o j
theorem upA_s {o : Nat → Int} {i : Nat} {v : Int} : upA o i v i = v := by simp [upA]
theorem upA_n {o : Nat → Int} {i j : Nat} {v : Int} (h : j ≠ i) : upA o i v j = o j := by simp [upA, h]
def insA (key : Nat → Int) (kk : Nat) (o : Nat → Int) : Nat → (Nat → Int)
  | 0 => upA o 0 kk
  | t + 1 => if key (o t).toNat < key kk then insA key kk (upA o (t + 1) (o t)) t else upA o (t + 1) kk
def ordA (key : Nat → Int) : Nat → (Nat → Int)
  | 0 => fun _ => 0
  | k + 1 => insA key k (ordA key k) k
/-- the first k entries are the numbers below k, each once -/
def Perm (k : Nat) (o : Nat → Int) : Prop := (∀ i, i < k → 0 ≤ o i ∧ o i < k) ∧ (∀ i j, i < k → j < k → o i = o j → i = j) ∧ ∀ v, v < k → ∃ i, i < k ∧ o i = (v : Int)
/-- .. with a hole at t -/
def PermH (k t : Nat) (o : Nat → Int) : Prop := (∀ i, i ≤ k → i ≠ t → 0 ≤ o i ∧ o i < k) ∧ (∀ i j, i ≤ k → i ≠ t → j ≤ k → j ≠ t → o i = o j → i = j) ∧ ∀ v, v < k → ∃ i, i ≤ k ∧ i ≠ t ∧ o i = (v : Int)
theorem PermH.fill {k t : Nat} {o : Nat → Int} (ht : t ≤ k) (h : PermH k t o) : Perm (k + 1) (upA o t k) := by
  obtain ⟨h1, h2, h3⟩ := h
  refine ⟨fun i hi => ?_, fun i j hi hj he => ?_, fun v hv => ?_⟩
  · by_cases q : i = t
    · rw [q, upA_s]; omega
    · rw [upA_n q]
      have := h1 i (by omega) q
      omega
  · by_cases q : i = t
    · by_cases q2 : j = t
      · omega
      · rw [q, upA_s, upA_n q2] at he
        have := h1 j (by omega) q2
        omega
    · by_cases q2 : j = t
      · rw [q2, upA_s, upA_n q] at he
        have := h1 i (by omega) q
        omega
      · rw [upA_n q, upA_n q2] at he
        exact h2 i j (by omega) q (by omega) q2 he
  · by_cases q : v = k
    · exact ⟨t, by omega, by rw [upA_s, q]⟩
    · obtain ⟨i, a, b, c⟩ := h3 v (by omega)
      exact ⟨i, by omega, by rw [upA_n b]; exact c⟩
theorem PermH.shift {k t : Nat} {o : Nat → Int} (ht : t + 1 ≤ k) (h : PermH k (t + 1) o) : PermH k t (upA o (t + 1) (o t)) := by
  obtain ⟨h1, h2, h3⟩ := h
  refine ⟨fun i hi hn => ?_, fun i j hi hin hj hjn he => ?_, fun v hv => ?_⟩
  · by_cases q : i = t + 1
    · rw [q, upA_s]; exact h1 t (by omega) (by omega)
    · rw [upA_n q]; exact h1 i hi q
  · by_cases q : i = t + 1
    · by_cases q2 : j = t + 1
      · omega
      · rw [q, upA_s, upA_n q2] at he
        exact absurd (h2 t j (by omega) (by omega) hj q2 he) (by omega)
    · by_cases q2 : j = t + 1
      · rw [q2, upA_s, upA_n q] at he
        exact absurd (h2 i t hi q (by omega) (by omega) he) (by omega)
      · rw [upA_n q, upA_n q2] at he
        exact h2 i j hi q hj q2 he
  · obtain ⟨i, a, b, c⟩ := h3 v hv
    by_cases q : i = t
    · exact ⟨t + 1, ht, by omega, by rw [upA_s, ← q]; exact c⟩
    · exact ⟨i, a, q, by rw [upA_n b]; exact c⟩
theorem insA_perm (key : Nat → Int) (k : Nat) : ∀ (t : Nat) (o : Nat → Int), t ≤ k → PermH k t o → Perm (k + 1) (insA key k o t)
  | 0, o, ht, h => h.fill ht
  | t + 1, o, ht, h => by
    unfold insA
    split
    · exact insA_perm key k t _ (by omega) (h.shift ht)
    · exact h.fill ht
theorem Perm.hole {k : Nat} {o : Nat → Int} (h : Perm k o) : PermH k k o :=
  ⟨fun i hi hn => h.1 i (by omega), fun i j hi hin hj hjn he => h.2.1 i j (by omega) (by omega) he, fun v hv => by
    obtain ⟨i, a, b⟩ := h.2.2 v hv
    exact ⟨i, by omega, by omega, b⟩⟩
theorem ordA_perm (key : Nat → Int) : ∀ k, Perm k (ordA key k)
  | 0 => ⟨fun i h => absurd h (by omega), fun i j h => absurd h (by omega), fun v h => absurd h (by omega)⟩
  | k + 1 => insA_perm key k k _ (Nat.le_refl k) (ordA_perm key k).hole
theorem insA_agree (key : Nat → Int) (k : Nat) : ∀ (t : Nat) (o o' : Nat → Int), t ≤ k → (∀ i, i ≤ k → i ≠ t → o i = o' i) → ∀ i, i ≤ k → insA key k o t i = insA key k o' t i
  | 0, o, o', ht, h => fun i hi => by
    unfold insA
    by_cases q : i = 0
    · rw [q, upA_s, upA_s]
    · rw [upA_n q, upA_n q]; exact h i hi q
  | t + 1, o, o', ht, h => fun i hi => by
    unfold insA
    rw [h t (by omega) (by omega)]
    split
    · refine insA_agree key k t _ _ (by omega) (fun j hj hn => ?_) i hi
      by_cases q : j = t + 1
      · rw [q, upA_s, upA_s]
      · rw [upA_n q, upA_n q]; exact h j hj q
    · by_cases q : i = t + 1
      · rw [q, upA_s, upA_s]
      · rw [upA_n q, upA_n q]; exact h i hi q
theorem gmUp_fun {σ : St} {k i : Nat} {v : Int} : gmUp σ k i v k = upA (σ k) i v := by
  funext j
  simp [gmUp, upA]
theorem HX.at {σ : St} {L : List PT} (h : HX σ L) {j : Nat} (hj : j < L.length) : σ (56 + j) 2 = pfo L j ∧ σ (56 + j) 3 = pal L j ∧ σ (56 + j) 4 = pac L j := (h.2 j _ (pq_at hj)).2.2
theorem HM.at {σ : St} {L : List PT} (h : HM σ L) {j : Nat} (hj : j < L.length) : σ 141 j = pfo L j ∧ σ 140 j = pal L j ∧ σ 139 j = pac L j := (h.2 j _ (pq_at hj)).2.2
theorem X_key {σ : St} {L : List PT} {b : Int} (h : HX σ L) (hO : AllOK L) {j : Nat} (hj : j < L.length) : Fp_sortKey (56 + j) b σ = some (keyL L b j, σ) := by
  obtain ⟨-, h3, h4⟩ := h.at hj
  have hm := mul_b (pal_b hO hj) (pac_b hO hj)
  unfold Fp_sortKey keyL
  rw [h3, h4, gmG_t ⟨by omega, by omega⟩]
  split
  · rfl
  · split
    · rfl
    · split <;> rfl
theorem M_key {σ : St} {L : List PT} {b : Int} (hb : 0 ≤ b ∧ b ≤ 3) (h : HM σ L) (hO : AllOK L) {j : Nat} (hj : j < L.length) : Fm_keyOf j b σ = some (keyL L b j, σ) := by
  obtain ⟨-, h3, h4⟩ := h.at hj
  have hm := mul_b (pal_b hO hj) (pac_b hO hj)
  have hl := hO.1
  have h5 := pal_b hO hj
  have h6 := pac_b hO hj
  have e : (if b = 0 then (0 : Int) else (if b = 1 then pal L j else (if b = 2 then pac L j else pal L j * pac L j))) = keyL L b j := by
    unfold keyL
    rcases (by omega : b = 0 ∨ b = 1 ∨ b = 2 ∨ b = 3) with rfl | rfl | rfl | rfl <;> rfl
  have hk := keyL_b hO b hj
  unfold Fm_keyOf
  rw [gmG_t (fun _ _ _ => by omega), gmG_t (fun _ _ _ => by omega), gmG_t (fun _ _ _ => by omega), gmG_t (fun _ _ => by omega), gmTN, h3, h4, e, gmG_t ⟨by omega, by omega⟩]
theorem HX.only {σ σ' : St} {L : List PT} (h : HX σ L) (f : ∀ k i, (k = 54 ∨ (56 ≤ k ∧ k < 128 ∧ i ≤ 4)) → σ' k i = σ k i) (hl : L.length ≤ 72) : HX σ' L := by
  refine ⟨by rw [f _ _ (Or.inl rfl)]; exact h.1, fun j q hj => ?_⟩
  have hlt := (List.getElem?_eq_some_iff.mp hj).1
  rw [f _ _ (Or.inr ⟨by omega, by omega, by omega⟩), f _ _ (Or.inr ⟨by omega, by omega, by omega⟩), f _ _ (Or.inr ⟨by omega, by omega, by omega⟩), f _ _ (Or.inr ⟨by omega, by omega, by omega⟩), f _ _ (Or.inr ⟨by omega, by omega, by omega⟩)]
  exact h.2 j q hj
theorem HM.only {σ σ' : St} {L : List PT} (h : HM σ L) (f : ∀ k i, ((k = 133 ∧ i = 8) ∨ (137 ≤ k ∧ k ≤ 141)) → σ' k i = σ k i) : HM σ' L := by
  refine ⟨by rw [f _ _ (Or.inl ⟨rfl, rfl⟩)]; exact h.1, fun j q hj => ?_⟩
  rw [f _ _ (Or.inr ⟨by omega, by omega⟩), f _ _ (Or.inr ⟨by omega, by omega⟩), f _ _ (Or.inr ⟨by omega, by omega⟩), f _ _ (Or.inr ⟨by omega, by omega⟩), f _ _ (Or.inr ⟨by omega, by omega⟩)]
  exact h.2 j q hj
theorem X_s24 {L : List PT} {b : Int} {k : Int → St → Option St} {kk : Nat} (hO : AllOK L) (hk : kk < L.length) : ∀ (t n : Nat) (σ : St), t ≤ kk → t < n → HX σ L → (∀ i, i < t → 0 ≤ σ 128 i ∧ σ 128 i < L.length) → ∃ (σ' : St) (pl : Nat), Fk_sortParts_24 n b kk (keyL L b kk) t σ k = k pl σ' ∧ pl ≤ kk ∧ upA (σ' 128) pl kk = insA (keyL L b) kk (σ 128) t ∧ ∀ k' i, k' ≠ 128 → σ' k' i = σ k' i := by
  have hl := hO.1
  intro t
  induction t with
  | zero =>
    intro n σ ht hn hX hr
    obtain ⟨n, rfl⟩ : ∃ m, n = m + 1 := ⟨n - 1, by omega⟩
    rw [Fk_sortParts_24.eq_2, if_pos (by omega)]
    exact ⟨σ, 0, rfl, by omega, rfl, fun _ _ _ => rfl⟩
  | succ t ih =>
    intro n σ ht hn hX hr
    obtain ⟨n, rfl⟩ : ∃ m, n = m + 1 := ⟨n - 1, by omega⟩
    have e1 : ((((t + 1 : Nat) : Int)) - 1).toNat = t := by omega
    have hrt := hr t (by omega)
    rw [Fk_sortParts_24.eq_2, if_neg (by omega), gmG_t (by omega), e1, gmG_t (by omega), gmTg_55, X_key hX hO (by omega), gmB_s]
    unfold insA
    by_cases hc : keyL L b (σ 128 t).toNat < keyL L b kk
    · rw [if_neg (by omega), gmG_t (by omega), gmTN, gmL_s, gmG_t ⟨by omega, by omega⟩, if_pos hc, show ((t + 1 : Nat) : Int) + -1 = (t : Int) by omega]
      have hX' : HX (gmUp σ 128 (t + 1) (σ 128 t)) L := hX.only (fun k i q => gmUp_k (by omega)) hl
      obtain ⟨σ', pl, h1, h2, h3, h4⟩ := ih n (gmUp σ 128 (t + 1) (σ 128 t)) (by omega) (by omega) hX' (fun i hi => by rw [gmUp_i (by omega)]; exact hr i (by omega))
      refine ⟨σ', pl, h1, h2, ?_, fun k' i q => by rw [h4 k' i q, gmUp_k q]⟩
      rw [h3, gmUp_fun]
    · rw [if_pos (by omega), if_neg hc]
      exact ⟨σ, t + 1, rfl, ht, rfl, fun _ _ _ => rfl⟩
theorem X_s2 {L : List PT} {b : Int} {k : St → Option St} (hO : AllOK L) : ∀ (d n kk : Nat) (σ : St), d < n → kk + d = L.length → HX σ L → (∀ i, i < kk → σ 128 i = ordA (keyL L b) kk i) → ∃ σ' : St, Fk_sortParts_2 n b kk σ k = k σ' ∧ (∀ i, i < L.length → σ' 128 i = ordA (keyL L b) L.length i) ∧ ∀ k' i, k' ≠ 128 → σ' k' i = σ k' i := by
  have hl := hO.1
  intro d
  induction d with
  | zero =>
    intro n kk σ hn hd hX ha
    obtain ⟨n, rfl⟩ : ∃ m, n = m + 1 := ⟨n - 1, by omega⟩
    rw [Fk_sortParts_2.eq_2, hX.1, if_pos (by omega)]
    have : kk = L.length := by omega
    subst this
    exact ⟨σ, rfl, ha, fun _ _ _ => rfl⟩
  | succ d ih =>
    intro n kk σ hn hd hX ha
    obtain ⟨n, rfl⟩ : ∃ m, n = m + 1 := ⟨n - 1, by omega⟩
    have hp := ordA_perm (keyL L b) kk
    rw [Fk_sortParts_2.eq_2, hX.1, if_neg (by omega), gmG_t (by omega), gmTN, gmTg_55, X_key hX hO (by omega), gmB_s]
    obtain ⟨σ1, pl, e1, hpl, hins, hfr⟩ := X_s24 (b := b) (k := fun x14 s15 => gmG (0 ≤ x14 ∧ x14 < 72) (gmL (gmUp s15 128 (x14).toNat kk) (fun s17 => gmG (gmR ((kk : Int) + 1)) (Fk_sortParts_2 n b ((kk : Int) + 1) s17 k)))) hO (by omega : kk < L.length) kk gmN σ (Nat.le_refl _) (by rw [gmN_e]; omega) hX (fun i hi => by
      rw [ha i hi]
      have := hp.1 i hi
      omega)
    have hX1 : HX (gmUp σ1 128 pl kk) L := hX.only (fun k i q => by rw [gmUp_k (by omega)]; exact hfr k i (by omega)) hl
    obtain ⟨σ2, e2, h2, f2⟩ := ih n (kk + 1) (gmUp σ1 128 pl kk) (by omega) (by omega) hX1 (fun i hi => by
      rw [gmUp_fun, hins]
      exact insA_agree (keyL L b) kk kk _ _ (Nat.le_refl _) (fun j hj hn => ha j (by omega)) i (by omega))
    refine ⟨σ2, ?_, h2, fun k' i q => by rw [f2 k' i q, gmUp_k q, hfr k' i q]⟩
    refine e1.trans ?_
    rw [gmG_t (by omega), gmTN, gmL_s, gmG_t ⟨by omega, by omega⟩, show (kk : Int) + 1 = ((kk + 1 : Nat) : Int) by omega]
    exact e2
theorem X_sort {σ : St} {L : List PT} {b : Int} (hO : AllOK L) (hX : HX σ L) : ∃ σ', Fk_sortParts b σ = some σ' ∧ (∀ i, i < L.length → σ' 128 i = ordA (keyL L b) L.length i) ∧ ∀ k' i, k' ≠ 128 → σ' k' i = σ k' i := by
  have hl := hO.1
  unfold Fk_sortParts
  exact X_s2 (k := fun s19 => some s19) hO L.length gmN 0 σ (by rw [gmN_e]; omega) (by omega) hX (fun i hi => absurd hi (by omega))
theorem M_s12 {L : List PT} {b : Int} {k : Int → St → Option St} {kk : Nat} (hb : 0 ≤ b ∧ b ≤ 3) (hO : AllOK L) (hk : kk < L.length) : ∀ (t n : Nat) (σ : St), t ≤ kk → t < n → HM σ L → (∀ i, i < t → 0 ≤ σ 142 i ∧ σ 142 i < L.length) → ∃ (σ' : St) (pl : Nat), Fm_layOrder_12 n b kk t σ k = k pl σ' ∧ pl ≤ kk ∧ upA (σ' 142) pl kk = insA (keyL L b) kk (σ 142) t ∧ ∀ k' i, k' ≠ 142 → σ' k' i = σ k' i := by
  have hl := hO.1
  intro t
  induction t with
  | zero =>
    intro n σ ht hn hX hr
    obtain ⟨n, rfl⟩ : ∃ m, n = m + 1 := ⟨n - 1, by omega⟩
    rw [Fm_layOrder_12.eq_2, if_pos (by omega)]
    exact ⟨σ, 0, rfl, by omega, rfl, fun _ _ _ => rfl⟩
  | succ t ih =>
    intro n σ ht hn hX hr
    obtain ⟨n, rfl⟩ : ∃ m, n = m + 1 := ⟨n - 1, by omega⟩
    have e1 : ((((t + 1 : Nat) : Int)) - 1).toNat = t := by omega
    have hrt := hr t (by omega)
    have e2 : Fm_keyOf (σ 142 t) b σ = some (keyL L b (σ 142 t).toNat, σ) := by
      rw [← M_key hb hX hO (j := (σ 142 t).toNat) (by omega), Int.toNat_of_nonneg hrt.1]
    rw [Fm_layOrder_12.eq_2, if_neg (by omega), gmG_t (by omega), e1, e2, gmB_s, M_key hb hX hO hk, gmB_s]
    unfold insA
    by_cases hc : keyL L b (σ 142 t).toNat < keyL L b kk
    · rw [if_neg (by omega), gmG_t (by omega), gmTN, gmL_s, gmG_t ⟨by omega, by omega⟩, if_pos hc, show ((t + 1 : Nat) : Int) + -1 = (t : Int) by omega]
      have hX' : HM (gmUp σ 142 (t + 1) (σ 142 t)) L := hX.only (fun k i q => gmUp_k (by omega))
      obtain ⟨σ', pl, h1, h2, h3, h4⟩ := ih n (gmUp σ 142 (t + 1) (σ 142 t)) (by omega) (by omega) hX' (fun i hi => by rw [gmUp_i (by omega)]; exact hr i (by omega))
      refine ⟨σ', pl, h1, h2, ?_, fun k' i q => by rw [h4 k' i q, gmUp_k q]⟩
      rw [h3, gmUp_fun]
    · rw [if_pos (by omega), if_neg hc]
      exact ⟨σ, t + 1, rfl, ht, rfl, fun _ _ _ => rfl⟩
theorem M_s2 {L : List PT} {b : Int} {k : St → Option St} (hb : 0 ≤ b ∧ b ≤ 3) (hO : AllOK L) : ∀ (d n kk : Nat) (σ : St), d < n → kk + d = L.length → HM σ L → (∀ i, i < kk → σ 142 i = ordA (keyL L b) kk i) → ∃ σ' : St, Fm_layOrder_2 n b kk σ k = k σ' ∧ (∀ i, i < L.length → σ' 142 i = ordA (keyL L b) L.length i) ∧ ∀ k' i, k' ≠ 142 → σ' k' i = σ k' i := by
  have hl := hO.1
  intro d
  induction d with
  | zero =>
    intro n kk σ hn hd hX ha
    obtain ⟨n, rfl⟩ : ∃ m, n = m + 1 := ⟨n - 1, by omega⟩
    rw [Fm_layOrder_2.eq_2, hX.1, if_pos (by omega)]
    have : kk = L.length := by omega
    subst this
    exact ⟨σ, rfl, ha, fun _ _ _ => rfl⟩
  | succ d ih =>
    intro n kk σ hn hd hX ha
    obtain ⟨n, rfl⟩ : ∃ m, n = m + 1 := ⟨n - 1, by omega⟩
    have hp := ordA_perm (keyL L b) kk
    rw [Fm_layOrder_2.eq_2, hX.1, if_neg (by omega)]
    obtain ⟨σ1, pl, e1, hpl, hins, hfr⟩ := M_s12 (b := b) (k := fun x12 s13 => gmG (0 ≤ x12 ∧ x12 < 72) (gmL (gmUp s13 142 (x12).toNat kk) (fun s15 => gmG (gmR ((kk : Int) + 1)) (Fm_layOrder_2 n b ((kk : Int) + 1) s15 k)))) hb hO (by omega : kk < L.length) kk gmN σ (Nat.le_refl _) (by rw [gmN_e]; omega) hX (fun i hi => by
      rw [ha i hi]
      have := hp.1 i hi
      omega)
    have hX1 : HM (gmUp σ1 142 pl kk) L := hX.only (fun k i q => by rw [gmUp_k (by omega)]; exact hfr k i (by omega))
    obtain ⟨σ2, e2, h2, f2⟩ := ih n (kk + 1) (gmUp σ1 142 pl kk) (by omega) (by omega) hX1 (fun i hi => by
      rw [gmUp_fun, hins]
      exact insA_agree (keyL L b) kk kk _ _ (Nat.le_refl _) (fun j hj hn => ha j (by omega)) i (by omega))
    refine ⟨σ2, ?_, h2, fun k' i q => by rw [f2 k' i q, gmUp_k q, hfr k' i q]⟩
    refine e1.trans ?_
    rw [gmG_t (by omega), gmTN, gmL_s, gmG_t ⟨by omega, by omega⟩, show (kk : Int) + 1 = ((kk + 1 : Nat) : Int) by omega]
    exact e2
theorem M_sort {σ : St} {L : List PT} {b : Int} (hb : 0 ≤ b ∧ b ≤ 3) (hO : AllOK L) (hX : HM σ L) : ∃ σ', Fm_layOrder b σ = some σ' ∧ (∀ i, i < L.length → σ' 142 i = ordA (keyL L b) L.length i) ∧ ∀ k' i, k' ≠ 142 → σ' k' i = σ k' i := by
  have hl := hO.1
  unfold Fm_layOrder
  exact M_s2 (k := fun s19 => some s19) hb hO L.length gmN 0 σ (by rw [gmN_e]; omega) (by omega) hX (fun i hi => absurd hi (by omega))
