/-! PLIES, CLOTH AND SURPLUS, both -/
def plQ (a : Ar) (c : Nat) : Int := (a (75 + c) + a (67 + c) - 1) / a (67 + c)
def plF (a : Ar) : Nat → Nat → Int → Int
  | 0, _, y => y
  | d + 1, c, y => if a (75 + c) ≤ 0 then plF a d (c + 1) y else if a (67 + c) = 0 then -1008 else plF a d (c + 1) (if y < plQ a c then plQ a c else y)
theorem plQ_b {a : Ar} (hI : InvC a) {c : Nat} (hc : c < 3) (ho : ¬ a (75 + c) ≤ 0) (hr : ¬ a (67 + c) = 0) : 0 ≤ plQ a c ∧ plQ a c ≤ 99 := by
  have h1 := hI.2.2.2.2.2.2.1 c hc
  have h2 := hI.2.2.2.2.2.2.2 c hc
  unfold plQ
  rcases (by omega : a (67 + c) = 1 ∨ a (67 + c) = 2) with h | h <;> rw [h] <;> omega
theorem plF_b {a : Ar} (hI : InvC a) : ∀ d c y, c + d = 3 → 0 ≤ y → y ≤ 99 → plF a d c y = -1008 ∨ (0 ≤ plF a d c y ∧ plF a d c y ≤ 99)
  | 0, c, y, _, h1, h2 => Or.inr ⟨h1, h2⟩
  | d + 1, c, y, hd, h1, h2 => by
    unfold plF
    by_cases ho : a (75 + c) ≤ 0
    · rw [if_pos ho]; exact plF_b hI d (c + 1) y (by omega) h1 h2
    · rw [if_neg ho]
      by_cases hr : a (67 + c) = 0
      · rw [if_pos hr]; exact Or.inl rfl
      · rw [if_neg hr]
        have := plQ_b hI (by omega) ho hr
        exact plF_b hI d (c + 1) _ (by omega) (by split <;> omega) (by split <;> omega)
def plV (a : Ar) : Int := plF a 3 0 0
theorem plV_b {a : Ar} (hI : InvC a) : plV a = -1008 ∨ (0 ≤ plV a ∧ plV a ≤ 99) := plF_b hI 3 0 0 rfl (by decide) (by decide)
theorem gmLn_16 : gmLn 16 = 3 := by decide
theorem gmLn_132 : gmLn 132 = 3 := by decide
theorem X_plies {a : Ar} {kr : Nat} (hkr : kr = 16 ∨ kr = 132) (hI : InvC a) {σ : St} (hr : ∀ i, i < 3 → σ kr i = a (67 + i)) (hR : RepC σ a) : Ft_pliesFor kr σ = some (plV a, σ) := by
  have hln : (gmLn kr : Int) = 3 := by rcases hkr with rfl | rfl <;> decide
  have ho := hR.2.2.2.2.2.2
  have key : ∀ (d n c : Nat) (y : Int), d < n → c + d = 3 → (0 ≤ y ∧ y ≤ 99) → Ft_pliesFor_4 n kr y c σ (fun x12 s13 => some (x12, s13)) = some (plF a d c y, σ) := by
    intro d
    induction d with
    | zero =>
      intro n c y hn hd hy
      obtain ⟨n, rfl⟩ : ∃ m, n = m + 1 := ⟨n - 1, by omega⟩
      rw [Ft_pliesFor_4.eq_2, if_pos (by omega)]
      rfl
    | succ d ih =>
      intro n c y hn hd hy
      obtain ⟨n, rfl⟩ : ∃ m, n = m + 1 := ⟨n - 1, by omega⟩
      have h1 := hI.2.2.2.2.2.2.1 c (by omega)
      have h2 := hI.2.2.2.2.2.2.2 c (by omega)
      unfold plF
      rw [Ft_pliesFor_4.eq_2, if_neg (by omega), gmG_t (by omega), gmTN, hr c (by omega), gmL_s, gmG_t (by omega), ho c (by omega)]
      by_cases g1 : a (75 + c) ≤ 0
      · rw [if_pos g1, if_pos g1, gmG_t ⟨by omega, by omega⟩, show (c : Int) + 1 = ((c + 1 : Nat) : Int) by omega]
        exact ih n (c + 1) y (by omega) (by omega) hy
      · rw [if_neg g1, if_neg g1]
        by_cases g2 : a (67 + c) = 0
        · rw [if_pos g2, if_pos g2]
        · have hq := plQ_b hI (by omega) g1 g2
          rw [if_neg g2, if_neg g2, gmG_t (by omega), gmG_t (by omega), show (a (75 + c) + a (67 + c) - 1) / a (67 + c) = plQ a c from rfl, gmL_s, gmG_t ⟨by omega, by omega⟩, show (c : Int) + 1 = ((c + 1 : Nat) : Int) by omega]
          exact ih n (c + 1) _ (by omega) (by omega) ⟨by split <;> omega, by split <;> omega⟩
  exact key 3 gmN 0 0 (by rw [gmN_e]; omega) rfl (by omega)
theorem M_plies {a : Ar} (hI : InvC a) {τ : St} (hA : τ 134 = a) : Fm_pliesNow τ = some (plV a, τ) := by
  have key : ∀ (d n c : Nat) (y : Int), d < n → c + d = 3 → (0 ≤ y ∧ y ≤ 99) → Fm_pliesNow_4 n y c τ (fun x12 s13 => some (x12, s13)) = some (plF a d c y, τ) := by
    intro d
    induction d with
    | zero =>
      intro n c y hn hd hy
      obtain ⟨n, rfl⟩ : ∃ m, n = m + 1 := ⟨n - 1, by omega⟩
      rw [Fm_pliesNow_4.eq_2, if_pos (by omega)]
      rfl
    | succ d ih =>
      intro n c y hn hd hy
      obtain ⟨n, rfl⟩ : ∃ m, n = m + 1 := ⟨n - 1, by omega⟩
      have h1 := hI.2.2.2.2.2.2.1 c (by omega)
      have h2 := hI.2.2.2.2.2.2.2 c (by omega)
      unfold plF
      rw [Fm_pliesNow_4.eq_2, if_neg (by omega), gmG_t (by omega), show ((75 : Int) + (c : Int)).toNat = 75 + c by omega, hA, gmL_s, gmG_t (by omega), show ((67 : Int) + (c : Int)).toNat = 67 + c by omega, gmL_s]
      by_cases g1 : a (75 + c) ≤ 0
      · rw [if_pos g1, if_pos g1, gmG_t (fun _ => by omega), gmG_t (fun _ => by omega), gmL_s, gmL_s, gmG_t ⟨by omega, by omega⟩, show (c : Int) + 1 = ((c + 1 : Nat) : Int) by omega]
        have e : (if (if a (67 + c) = 0 then (0 : Int) else (a (75 + c) + a (67 + c) - 1) / a (67 + c)) ≤ y then y else (if a (67 + c) = 0 then (0 : Int) else (a (75 + c) + a (67 + c) - 1) / a (67 + c))) = y := by
          have : (if a (67 + c) = 0 then (0 : Int) else (a (75 + c) + a (67 + c) - 1) / a (67 + c)) = 0 := by
            rcases (by omega : a (67 + c) = 0 ∨ a (67 + c) = 1 ∨ a (67 + c) = 2) with h | h | h <;> rw [h] <;> simp <;> omega
          rw [this, if_pos hy.1]
        rw [e]
        exact ih n (c + 1) y (by omega) (by omega) hy
      · rw [if_neg g1, if_neg g1]
        by_cases g2 : a (67 + c) = 0
        · rw [if_pos g2, if_pos g2]
        · have hq := plQ_b hI (by omega) g1 g2
          rw [if_neg g2, if_neg g2, gmG_t (fun _ => by omega), gmG_t (fun _ => by omega), if_neg g2, show (a (75 + c) + a (67 + c) - 1) / a (67 + c) = plQ a c from rfl, gmL_s, gmL_s, gmG_t ⟨by omega, by omega⟩, show (c : Int) + 1 = ((c + 1 : Nat) : Int) by omega]
          have e : (if plQ a c ≤ y then y else plQ a c) = if y < plQ a c then plQ a c else y := by
            split <;> split <;> omega
          rw [e]
          exact ih n (c + 1) _ (by omega) (by omega) ⟨by split <;> omega, by split <;> omega⟩
  exact key 3 gmN 0 0 (by rw [gmN_e]; omega) rfl (by omega)
def suF (a : Ar) (p : Int) : Nat → Int
  | 0 => 0
  | c + 1 => suF a p c + (p * a (67 + c) - a (75 + c))
theorem suF_b {a : Ar} (hI : InvC a) {p : Int} (hp : -1008 ≤ p ∧ p ≤ 99) : ∀ c : Nat, c ≤ 3 → -3000 * (c : Int) ≤ suF a p c ∧ suF a p c ≤ 3000 * c
  | 0, _ => ⟨Int.le_refl 0, Int.le_refl 0⟩
  | c + 1, h => by
    have := suF_b hI hp c (by omega)
    have h1 := hI.2.2.2.2.2.2.1 c (by omega)
    have h2 := hI.2.2.2.2.2.2.2 c (by omega)
    unfold suF
    rcases (by omega : a (67 + c) = 0 ∨ a (67 + c) = 1 ∨ a (67 + c) = 2) with h | h | h <;> rw [h] <;> omega
theorem X_surplus {a : Ar} {kr : Nat} (hkr : kr = 16 ∨ kr = 132) (hI : InvC a) {σ : St} (hr : ∀ i, i < 3 → σ kr i = a (67 + i)) (hR : RepC σ a) {p : Int} (hp : -1008 ≤ p ∧ p ≤ 99) : Ft_surplusFor kr p σ = some (suF a p 3, σ) := by
  have hln : (gmLn kr : Int) = 3 := by rcases hkr with rfl | rfl <;> decide
  have ho := hR.2.2.2.2.2.2
  have key : ∀ (d n c : Nat), d < n → c + d = 3 → Ft_surplusFor_5 n kr p (suF a p c) c σ (fun x12 s13 => some (x12, s13)) = some (suF a p 3, σ) := by
    intro d
    induction d with
    | zero =>
      intro n c hn hd
      obtain ⟨n, rfl⟩ : ∃ m, n = m + 1 := ⟨n - 1, by omega⟩
      obtain rfl : c = 3 := by omega
      rw [Ft_surplusFor_5.eq_2, if_pos (by omega)]
    | succ d ih =>
      intro n c hn hd
      obtain ⟨n, rfl⟩ : ∃ m, n = m + 1 := ⟨n - 1, by omega⟩
      have hb := suF_b hI hp (c + 1) (by omega)
      rw [Ft_surplusFor_5.eq_2, if_neg (by omega), gmG_t (by omega), gmG_t (by omega), gmTN, hr c (by omega), ho c (by omega), show suF a p c + (p * a (67 + c) - a (75 + c)) = suF a p (c + 1) from rfl, gmL_s, gmG_t ⟨by omega, by omega⟩, gmG_t ⟨by omega, by omega⟩, show (c : Int) + 1 = ((c + 1 : Nat) : Int) by omega]
      exact ih n (c + 1) (by omega) (by omega)
  exact key 3 gmN 0 (by rw [gmN_e]; omega) rfl
theorem M_surplus {a : Ar} (hI : InvC a) {τ : St} (hA : τ 134 = a) : Fm_surplusNow τ = some (if plV a = -1008 then -1008 else suF a (plV a) 3, τ) := by
  have hpb := plV_b hI
  have hp : -1008 ≤ plV a ∧ plV a ≤ 99 := by omega
  have key : ∀ (d n c : Nat) (k : Int → St → Option (Int × St)), d < n → c + d = 3 → Fm_surplusNow_9 n (plV a) (suF a (plV a) c) c τ k = k (suF a (plV a) 3) τ := by
    intro d
    induction d with
    | zero =>
      intro n c k hn hd
      obtain ⟨n, rfl⟩ : ∃ m, n = m + 1 := ⟨n - 1, by omega⟩
      obtain rfl : c = 3 := by omega
      rw [Fm_surplusNow_9.eq_2, if_pos (by omega)]
    | succ d ih =>
      intro n c k hn hd
      obtain ⟨n, rfl⟩ : ∃ m, n = m + 1 := ⟨n - 1, by omega⟩
      have hb := suF_b hI hp (c + 1) (by omega)
      rw [Fm_surplusNow_9.eq_2, if_neg (by omega), gmG_t (by omega), gmG_t (by omega), show ((75 : Int) + (c : Int)).toNat = 75 + c by omega, show ((67 : Int) + (c : Int)).toNat = 67 + c by omega, hA, show suF a (plV a) c + (plV a * a (67 + c) - a (75 + c)) = suF a (plV a) (c + 1) from rfl, gmL_s, gmG_t ⟨by omega, by omega⟩, gmG_t ⟨by omega, by omega⟩, show (c : Int) + 1 = ((c + 1 : Nat) : Int) by omega]
      exact ih n (c + 1) k (by omega) (by omega)
  unfold Fm_surplusNow
  rw [M_plies hI hA, gmB_s]
  refine Eq.trans (key 3 gmN 0 _ (by rw [gmN_e]; omega) rfl) ?_
  by_cases h : plV a = -1008
  · rw [if_pos h, if_neg (by omega)]
  · rw [if_neg h, if_pos (by omega)]
theorem Op_plies {σ : St} (hR : Rel σ) : Same Fx_plies Fm_plies σ := by
  have hI := hR.2.1.1
  refine Same.look (r := plV (σ 134)) hR ⟨σ, ?_, Qu.rf⟩ (fun τ q => ⟨τ, ?_, Qu.rf⟩)
  · unfold Fx_plies
    rw [X_plies (Or.inl rfl) hI hR.1.ra hR.1.c, gmB_s]
  · unfold Fm_plies
    rw [M_plies hI q.ar, gmB_s]
/-- what the reference says of the cloth -/
theorem M_cloth {a : Ar} (hI : InvC a) {τ : St} (hA : τ 134 = a) {r : Int} (l : LenR (pts a) (strip a) (a 74) (a 73) r) : ∃ τ', Fm_clothNow τ = some (if plV a = -1008 then -1008 else if r = -1007 then -1007 else plV a * r, τ') ∧ FrQ τ τ' := by
  have hpb := plV_b hI
  have hb := l.b
  unfold Fm_clothNow
  rw [M_plies hI hA, gmB_s]
  by_cases h : plV a = -1008
  · rw [if_pos h, if_neg (by omega)]
    exact ⟨τ, rfl, FrQ.rf⟩
  · rw [if_neg h, if_pos (by omega)]
    obtain ⟨r', τ', e, l', -, f⟩ := M_lenN hA hI
    have := l.uniq l'
    subst this
    refine ⟨τ', ?_, f⟩
    rw [e, gmB_s]
    by_cases h2 : r = -1007
    · rw [if_pos h2, if_neg (by omega), gmG_t (by decide)]
    · have hm := mulB (x := plV a) (y := r) (X := 99) (Y := 1296) (by omega) (by omega)
      rw [if_neg h2, if_pos (by omega), gmG_t ⟨by omega, by omega⟩]
theorem Op_clothLength {σ : St} (hR : Rel σ) : Same Fx_clothLength Fm_clothLength σ := by
  have hI := hR.2.1.1
  have hpb := plV_b hI
  obtain ⟨r, l⟩ := len_ex hI (b := σ 134 74) (m := σ 134 73) hI.2.2.2.2.2.1
  have hm2 : ∀ τ, Qu σ τ → ∃ τ', Fm_clothLength τ = some (if plV (σ 134) = -1008 then -1008 else if r = -1007 then -1007 else plV (σ 134) * r, τ') ∧ Qu τ τ' := fun τ q => by
    obtain ⟨τ', e, f⟩ := M_cloth hI q.ar l
    refine ⟨τ', ?_, f.qu⟩
    unfold Fm_clothLength
    rw [e, gmB_s]
  refine Same.look hR ?_ hm2
  unfold Fx_clothLength
  rw [X_plies (Or.inl rfl) hI hR.1.ra hR.1.c, gmB_s]
  by_cases h : plV (σ 134) = -1008
  · rw [if_pos h, if_pos h]
    exact ⟨σ, rfl, Qu.rf⟩
  · rw [if_neg h, if_neg h]
    obtain ⟨r', σ1, e1, l1, f1, -⟩ := X_lenK (Or.inl rfl) hR.1.ra hR.1.c hI
    have := l.uniq l1
    subst this
    have hb := l.b
    refine ⟨σ1, ?_, f1.qu⟩
    rw [e1, gmB_s]
    by_cases h2 : r = -1007
    · rw [if_pos h2, gmG_t (by decide)]
    · have hm := mulB (x := plV (σ 134)) (y := r) (X := 99) (Y := 1296) (by omega) (by omega)
      rw [if_neg h2, gmG_t ⟨by omega, by omega⟩]
theorem Op_surplus {σ : St} (hR : Rel σ) : Same Fx_surplus Fm_surplus σ := by
  have hI := hR.2.1.1
  have hpb := plV_b hI
  refine Same.look (r := if plV (σ 134) = -1008 then -1008 else suF (σ 134) (plV (σ 134)) 3) hR ⟨σ, ?_, Qu.rf⟩ (fun τ q => ⟨τ, ?_, Qu.rf⟩)
  · unfold Fx_surplus
    rw [X_plies (Or.inl rfl) hI hR.1.ra hR.1.c, gmB_s]
    by_cases h : plV (σ 134) = -1008
    · rw [if_pos h, if_pos h]
    · rw [if_neg h, if_neg h, X_surplus (Or.inl rfl) hI hR.1.ra hR.1.c (by omega), gmB_s]
  · unfold Fm_surplus
    rw [M_surplus hI q.ar, gmB_s]
