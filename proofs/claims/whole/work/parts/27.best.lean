/-! LENGTHS, both -/
theorem X_lenK {σ : St} {a : Ar} {kr : Nat} (hkr : kr = 16 ∨ kr = 132) (hr : ∀ i, i < 3 → σ kr i = a (67 + i)) (hR : RepC σ a) (hI : InvC a) : ∃ r σ', Fx_lengthFor kr σ = some (r, σ') ∧ LenR (pts a) (strip a) (a 74) (a 73) r ∧ FrK σ σ' ∧ HX σ' (pts a) ∧ σ' 54 2 = strip a := by
  have hw := strip_b hI
  obtain ⟨σ1, e1, h1, f1, w1⟩ := X_makeParts hkr hr hR hI
  have r8 : σ1 1 8 = a 73 := by rw [f1 1 8 (by omega)]; exact hR.2.2.2.2.1
  have r9 : σ1 1 9 = a 74 := by rw [f1 1 9 (by omega)]; exact hR.2.2.2.2.2.1
  obtain ⟨r, σ2, e2, l2, f2, -⟩ := X_lengthPacked (b := a 74) (m := a 73) (pts_all hI) (by omega) hw.2 h1 w1
  refine ⟨r, σ2, ?_, l2, f1.k.tr f2.k, f2.hx h1 (pts_len hI), by rw [f2 54 2 (by omega)]; exact w1⟩
  unfold Fx_lengthFor
  rw [e1, gmBv_s, r8, r9, e2, gmB_s]
theorem M_lenN {τ : St} {a : Ar} (hA : τ 134 = a) (hI : InvC a) : ∃ r τ', Fm_lengthNow τ = some (r, τ') ∧ LenR (pts a) (strip a) (a 74) (a 73) r ∧ HM τ' (pts a) ∧ FrQ τ τ' := by
  obtain ⟨r, τ', e, l, h, f⟩ := M_lengthBy (b := a 74) (m := a 73) hI.2.2.2.2.2.1 hA hI
  refine ⟨r, τ', ?_, l, h, f⟩
  unfold Fm_lengthNow
  rw [hA, e, gmB_s]
theorem Op_markerLength {σ : St} (hR : Rel σ) : Same Fx_markerLength Fm_markerLength σ := by
  have hI := hR.2.1.1
  obtain ⟨r, σ1, e1, l1, f1, -⟩ := X_lenK (Or.inl rfl) hR.1.ra hR.1.c hI
  refine Same.look (r := r) hR ⟨σ1, ?_, f1.qu⟩ (fun τ q => ?_)
  · unfold Fx_markerLength
    rw [e1, gmB_s]
  · obtain ⟨r', τ', e2, l2, h2, f2⟩ := M_lenN q.ar hI
    refine ⟨τ', ?_, f2.qu⟩
    unfold Fm_markerLength
    rw [e2, gmB_s, l1.uniq l2]
theorem Op_markerLengthWith {σ : St} (hR : Rel σ) (a0 a1 : Int) : Same (Fx_markerLengthWith a0 a1) (Fm_markerLengthWith a0 a1) σ := by
  have hI := hR.2.1.1
  have hw := strip_b hI
  by_cases h0 : (0 ≤ a0 ∧ a0 ≤ 1) ∧ (0 ≤ a1 ∧ a1 ≤ 3)
  · obtain ⟨σ1, e1, h1, f1, w1⟩ := X_mk16 hR
    obtain ⟨r, σ2, e2, l2, f2, -⟩ := X_lengthPacked (b := a1) (m := a0) (pts_all hI) (by omega) hw.2 h1 w1
    refine Same.look (r := r) hR ⟨σ2, ?_, f1.qu.tr f2.qu⟩ (fun τ q => ?_)
    · unfold Fx_markerLengthWith
      rw [X_isPk, gmB_s, inPk_1 h0, if_neg (by decide), e1, gmBv_s, e2, gmB_s]
    · obtain ⟨r', τ', e3, l3, h3, f3⟩ := M_lengthBy (b := a1) (m := a0) h0.2 q.ar hI
      refine ⟨τ', ?_, f3.qu⟩
      unfold Fm_markerLengthWith
      rw [M_isPk, gmB_s, inPk_1 h0, if_neg (by decide), e3, gmB_s, l2.uniq l3]
  · refine Same.err (r := -1005) hR ?_ ?_
    · unfold Fx_markerLengthWith
      rw [X_isPk, gmB_s, inPk_0 h0, if_pos rfl]
    · unfold Fm_markerLengthWith
      rw [M_isPk, gmB_s, inPk_0 h0, if_pos rfl]
def arN (L : List PT) : Nat → Int
  | 0 => 0
  | n + 1 => arN L n + pal L n * pac L n
theorem arN_b {L : List PT} (hO : AllOK L) : ∀ n, n ≤ L.length → 0 ≤ arN L n ∧ arN L n ≤ 324 * n
  | 0, _ => ⟨Int.le_refl 0, Int.le_refl 0⟩
  | n + 1, h => by
    have := arN_b hO n (by omega)
    have := mul_b (pal_b hO (by omega : n < L.length)) (pac_b hO (by omega : n < L.length))
    unfold arN
    omega
theorem mulB {x y X Y : Int} (hx : 0 ≤ x ∧ x ≤ X) (hy : 0 ≤ y ∧ y ≤ Y) : 0 ≤ x * y ∧ x * y ≤ X * Y := ⟨Int.mul_nonneg hx.1 hy.1, Int.mul_le_mul hx.2 hy.2 hy.1 (by omega)⟩
theorem Op_wastedArea {σ : St} (hR : Rel σ) : Same Fx_wastedArea Fm_wastedArea σ := by
  have hI := hR.2.1.1
  have hO := pts_all hI
  have hl := hO.1
  have hw := strip_b hI
  obtain ⟨r, σ1, e1, l1, f1, h1, w1⟩ := X_lenK (Or.inl rfl) hR.1.ra hR.1.c hI
  have hb := l1.b
  generalize hL : pts (σ 134) = L at hO hl h1 l1
  have kx : ∀ (d n c : Nat) (τ : St), HX τ L → d < n → c + d = L.length → Fk_partsArea_4 n (arN L c) c τ (fun x7 s8 => some (x7, s8)) = some (arN L L.length, τ) := by
    intro d
    induction d with
    | zero =>
      intro n c τ hX hn hd
      obtain ⟨n, rfl⟩ : ∃ m, n = m + 1 := ⟨n - 1, by omega⟩
      obtain rfl : c = L.length := by omega
      rw [Fk_partsArea_4.eq_2, hX.1, if_pos (by omega)]
    | succ d ih =>
      intro n c τ hX hn hd
      obtain ⟨n, rfl⟩ : ∃ m, n = m + 1 := ⟨n - 1, by omega⟩
      have hb := arN_b hO (c + 1) (by omega)
      have ih := ih n (c + 1) τ hX (by omega) (by omega)
      obtain ⟨-, ha, hc⟩ := hX.at (by omega : c < L.length)
      rw [Fk_partsArea_4.eq_2, hX.1, if_neg (by omega), gmG_t (by omega), gmTN, gmTg_55, ha, hc, show arN L c + pal L c * pac L c = arN L (c + 1) from rfl, gmL_s, gmG_t ⟨by omega, by omega⟩, gmG_t ⟨by omega, by omega⟩, show (c : Int) + 1 = ((c + 1 : Nat) : Int) by omega]
      exact ih
  have km : ∀ (x : Int) (d n c : Nat) (τ : St), (0 ≤ x ∧ x ≤ 100000) → HM τ L → d < n → c + d = L.length → Fm_wastedArea_22 n (x - arN L c) c τ (fun x7 s8 => some (x7, s8)) = some (x - arN L L.length, τ) := by
    intro x d
    induction d with
    | zero =>
      intro n c τ hx hX hn hd
      obtain ⟨n, rfl⟩ : ∃ m, n = m + 1 := ⟨n - 1, by omega⟩
      obtain rfl : c = L.length := by omega
      rw [Fm_wastedArea_22.eq_2, hX.1, if_pos (by omega)]
    | succ d ih =>
      intro n c τ hx hX hn hd
      obtain ⟨n, rfl⟩ : ∃ m, n = m + 1 := ⟨n - 1, by omega⟩
      have hb := arN_b hO (c + 1) (by omega)
      have ih := ih n (c + 1) τ hx hX (by omega) (by omega)
      obtain ⟨-, ha, hc⟩ := hX.at (by omega : c < L.length)
      have e : x - arN L c - pal L c * pac L c = x - arN L (c + 1) := by
        show _ = x - (arN L c + pal L c * pac L c)
        omega
      rw [Fm_wastedArea_22.eq_2, hX.1, if_neg (by omega), gmG_t (by omega), gmTN, ha, hc, e, gmL_s, gmG_t ⟨by omega, by omega⟩, gmG_t ⟨by omega, by omega⟩, show (c : Int) + 1 = ((c + 1 : Nat) : Int) by omega]
      exact ih
  have har := arN_b hO L.length (Nat.le_refl _)
  by_cases hr : r = -1007
  · refine Same.look (r := -1007) hR ⟨σ1, ?_, f1.qu⟩ (fun τ q => ?_)
    · unfold Fx_wastedArea
      rw [e1, gmB_s, if_pos hr]
    · obtain ⟨r', τ', e2, l2, h2, f2⟩ := M_lenN q.ar hI
      rw [hL] at l2
      refine ⟨τ', ?_, f2.qu⟩
      unfold Fm_wastedArea
      rw [e2, gmB_s, ← l1.uniq l2, hr, if_neg (by decide)]
  · have hm := mulB (x := r) (y := strip (σ 134)) (X := 1296) (Y := 24) (by omega) (by omega)
    have hc : strip (σ 134) * r = r * strip (σ 134) := Int.mul_comm _ _
    refine Same.look (r := r * strip (σ 134) - arN L L.length) hR ⟨σ1, ?_, f1.qu⟩ (fun τ q => ?_)
    · unfold Fx_wastedArea Fk_partsArea
      have := kx L.length gmN 0 σ1 h1 (by rw [gmN_e]; omega) (by omega)
      rw [e1, gmB_s, if_neg hr, show Fk_partsArea_4 gmN 0 0 σ1 (fun x6 s7 => some (x6, s7)) = _ from this, gmB_s, w1, gmG_t ⟨by omega, by omega⟩]
    · obtain ⟨r', τ', e2, l2, h2, f2⟩ := M_lenN q.ar hI
      rw [hL] at l2 h2
      refine ⟨τ', ?_, f2.qu⟩
      have := km (r * strip (σ 134)) L.length gmN 0 τ' (by omega) h2 (by rw [gmN_e]; omega) (by omega)
      rw [show r * strip (σ 134) - arN L 0 = r * strip (σ 134) from Int.sub_zero _] at this
      unfold Fm_wastedArea
      rw [e2, gmB_s, ← l1.uniq l2, if_pos (by omega), M_strip (f2.ar q.ar) hI, gmB_s, gmL_s, hc, gmG_t ⟨by omega, by omega⟩]
      exact this
/-- the lengths are there -/
theorem len_ex {a : Ar} (hI : InvC a) {b m : Int} (hb : 0 ≤ b ∧ b ≤ 3) : ∃ r, LenR (pts a) (strip a) b m r := by
  obtain ⟨r, -, -, l, -⟩ := M_lengthBy (m := m) (σ := fun _ => a) hb rfl hI
  exact ⟨r, l⟩
def pkN (c : Nat) : Int := 10 * ((c / 4 : Nat) : Int) + ((c % 4 : Nat) : Int)
def bF (rs : Nat → Int) : Nat → Int × Int
  | 0 => (-1007, 0)
  | c + 1 => if (bF rs c).1 = -1007 then (pkN c, rs c) else if (bF rs c).2 ≤ rs c then bF rs c else (pkN c, rs c)
theorem bF_at (rs : Nat → Int) : ∀ c, ∃ i, i < c + 1 ∧ bF rs (c + 1) = (pkN i, rs i)
  | 0 => ⟨0, by omega, rfl⟩
  | c + 1 => by
    obtain ⟨i, hi, e⟩ := bF_at rs c
    rw [show bF rs (c + 1 + 1) = if (bF rs (c + 1)).1 = -1007 then (pkN (c + 1), rs (c + 1)) else if (bF rs (c + 1)).2 ≤ rs (c + 1) then bF rs (c + 1) else (pkN (c + 1), rs (c + 1)) from rfl]
    by_cases h1 : (bF rs (c + 1)).1 = -1007
    · rw [if_pos h1]; exact ⟨c + 1, by omega, rfl⟩
    · rw [if_neg h1]
      by_cases h2 : (bF rs (c + 1)).2 ≤ rs (c + 1)
      · rw [if_pos h2]; exact ⟨i, by omega, e⟩
      · rw [if_neg h2]; exact ⟨c + 1, by omega, rfl⟩
theorem X_pkn {m b : Nat} (hm : m < 2) (hb : b < 4) (σ : St) : Fx_packingNumber m b σ = some (pkN (4 * m + b), σ) := by
  unfold Fx_packingNumber
  rw [gmG_t ⟨by omega, by omega⟩]
  unfold pkN
  rw [show (4 * m + b) / 4 = m by omega, show (4 * m + b) % 4 = b by omega]
theorem X_fb48 {L : List PT} {w : Int} {rs : Nat → Int} {m : Nat} {k : Int → Int → St → Option (Int × St)} (hm : m < 2) (hO : AllOK L) (hw1 : 0 ≤ w) (hw2 : w ≤ 24) (hrs : ∀ c, c < 8 → LenR L w ((c % 4 : Nat) : Int) ((c / 4 : Nat) : Int) (rs c)) : ∀ (d n b : Nat) (σ : St), d < n → b + d = 4 → HX σ L → σ 54 2 = w → ∃ σ', Fx_findBestPacking_48 n (bF rs (4 * m + b)).1 (bF rs (4 * m + b)).2 m b σ k = k (bF rs (4 * m + 4)).1 (bF rs (4 * m + 4)).2 σ' ∧ HX σ' L ∧ σ' 54 2 = w ∧ FrP σ σ' := by
  intro d
  induction d with
  | zero =>
    intro n b σ hn hd hX hw
    obtain ⟨n, rfl⟩ : ∃ m, n = m + 1 := ⟨n - 1, by omega⟩
    obtain rfl : b = 4 := by omega
    exact ⟨σ, by rw [Fx_findBestPacking_48.eq_2, if_pos (by omega)], hX, hw, FrP.rf⟩
  | succ d ih =>
    intro n b σ hn hd hX hw
    obtain ⟨n, rfl⟩ : ∃ m, n = m + 1 := ⟨n - 1, by omega⟩
    obtain ⟨r, σ1, e1, l1, f1, -⟩ := X_lengthPacked (b := (b : Int)) (m := (m : Int)) hO hw1 hw2 hX hw
    have hr := hrs (4 * m + b) (by omega)
    rw [show (4 * m + b) / 4 = m by omega, show (4 * m + b) % 4 = b by omega] at hr
    have er := l1.uniq hr
    subst er
    obtain ⟨σ', e2, x2, w2, f2⟩ := ih n (b + 1) σ1 (by omega) (by omega) (f1.hx hX hO.1) (by rw [f1 54 2 (by omega)]; exact hw)
    refine ⟨σ', ?_, x2, w2, f1.tr f2⟩
    rw [← e2, show 4 * m + (b + 1) = 4 * m + b + 1 by omega, Fx_findBestPacking_48.eq_2, if_neg (by omega), e1, gmB_s, show bF rs (4 * m + b + 1) = if (bF rs (4 * m + b)).1 = -1007 then (pkN (4 * m + b), rs (4 * m + b)) else if (bF rs (4 * m + b)).2 ≤ rs (4 * m + b) then bF rs (4 * m + b) else (pkN (4 * m + b), rs (4 * m + b)) from rfl]
    by_cases h1 : (bF rs (4 * m + b)).1 = -1007
    · rw [if_pos h1, if_pos h1, X_pkn hm (by omega), gmB_s, gmG_t ⟨by omega, by omega⟩, show (b : Int) + 1 = ((b + 1 : Nat) : Int) by omega]
    · rw [if_neg h1, if_neg h1]
      by_cases h2 : (bF rs (4 * m + b)).2 ≤ rs (4 * m + b)
      · rw [if_pos h2, if_pos h2, gmG_t ⟨by omega, by omega⟩, show (b : Int) + 1 = ((b + 1 : Nat) : Int) by omega]
      · rw [if_neg h2, if_neg h2, X_pkn hm (by omega), gmB_s, gmG_t ⟨by omega, by omega⟩, show (b : Int) + 1 = ((b + 1 : Nat) : Int) by omega]
theorem X_fb {σ : St} (hR : Rel σ) {rs : Nat → Int} (hrs : ∀ c, c < 8 → LenR (pts (σ 134)) (strip (σ 134)) ((c % 4 : Nat) : Int) ((c / 4 : Nat) : Int) (rs c)) : ∃ σ', Fx_findBestPacking σ = some (if rs 0 = -1007 then -1007 else (bF rs 8).1, σ') ∧ HX σ' (pts (σ 134)) ∧ σ' 54 2 = strip (σ 134) ∧ FrK σ σ' := by
  have hI := hR.2.1.1
  have hO := pts_all hI
  have hw := strip_b hI
  obtain ⟨σ1, e1, h1, f1, w1⟩ := X_mk16 hR
  obtain ⟨y1, y2⟩ := X_hasLayout hO h1 w1
  have hl0 := (hrs 0 (by omega)).lay
  unfold Fx_findBestPacking
  rw [e1, gmBv_s]
  by_cases hlay : layO (pts (σ 134)) (strip (σ 134))
  · rw [y1 hlay, gmB_s, if_neg (by decide), if_neg (fun z => hl0.mp z hlay)]
    obtain ⟨σ2, e2, x2, w2, f2⟩ := X_fb48 (m := 0) (rs := rs) (k := fun x18 x19 s20 => gmG (gmR ((0 : Int) + 1)) (Fx_findBestPacking_40 1499 x18 x19 ((0 : Int) + 1) s20 (fun x22 s23 => some (x22, s23)))) (by omega) hO (by omega) hw.2 hrs 4 gmN 0 σ1 (by rw [gmN_e]; omega) (by omega) h1 w1
    obtain ⟨σ3, e3, x3, w3, f3⟩ := X_fb48 (m := 1) (rs := rs) (k := fun x18 x19 s20 => gmG (gmR ((1 : Int) + 1)) (Fx_findBestPacking_40 1498 x18 x19 ((1 : Int) + 1) s20 (fun x22 s23 => some (x22, s23)))) (by omega) hO (by omega) hw.2 hrs 4 gmN 0 σ2 (by rw [gmN_e]; omega) (by omega) x2 w2
    refine ⟨σ3, ?_, x3, w3, f1.k.tr (f2.k.tr f3.k)⟩
    rw [show (gmN : Nat) = 1499 + 1 from rfl, Fx_findBestPacking_40.eq_2, if_neg (by decide)]
    refine Eq.trans e2 ?_
    rw [gmG_t (by decide), show (1499 : Nat) = 1498 + 1 from rfl, Fx_findBestPacking_40.eq_2, if_neg (by decide)]
    refine Eq.trans e3 ?_
    rw [gmG_t (by decide), show (1498 : Nat) = 1497 + 1 from rfl, Fx_findBestPacking_40.eq_2, if_pos (by decide)]
  · rw [y2 hlay, gmB_s, if_pos rfl, if_pos (hl0.mpr hlay)]
    exact ⟨σ1, rfl, h1, w1, f1.k⟩
theorem M_fb6 {a : Ar} {rs : Nat → Int} (hI : InvC a) (hlay : layO (pts a) (strip a)) (hrs : ∀ c, c < 8 → LenR (pts a) (strip a) ((c % 4 : Nat) : Int) ((c / 4 : Nat) : Int) (rs c)) : ∀ (d n c : Nat) (τ : St), d < n → c + d = 8 → τ 134 = a → (1 ≤ c → τ 133 17 = (bF rs c).1) → ∃ τ', Fm_findBest_6 n (if c = 0 then -1007 else (bF rs c).2) c τ (fun x16 s17 => some (x16, s17)) = some ((bF rs 8).2, τ') ∧ Qu τ τ' ∧ τ' 133 17 = (bF rs 8).1 := by
  intro d
  induction d with
  | zero =>
    intro n c τ hn hd hA h17
    obtain ⟨n, rfl⟩ : ∃ m, n = m + 1 := ⟨n - 1, by omega⟩
    obtain rfl : c = 8 := by omega
    exact ⟨τ, by rw [Fm_findBest_6.eq_2, if_pos (by omega), if_neg (by omega)], Qu.rf, h17 (by omega)⟩
  | succ d ih =>
    intro n c τ hn hd hA h17
    obtain ⟨n, rfl⟩ : ∃ m, n = m + 1 := ⟨n - 1, by omega⟩
    obtain ⟨r, τ1, e1, l1, h1, f1⟩ := M_lengthBy (b := ((c % 4 : Nat) : Int)) (m := ((c / 4 : Nat) : Int)) (by omega) hA hI
    have hr := hrs c (by omega)
    have er := l1.uniq hr
    subst er
    have hrb := hr.b
    have hr0 : ¬ rs c = -1007 := fun z => hr.lay.mp z hlay
    have epk : 10 * ((c : Int) / 4) + ((c : Int) % 4) = pkN c := by
      unfold pkN
      omega
    have epb : 0 ≤ pkN c ∧ pkN c ≤ 13 := by
      unfold pkN
      omega
    rw [Fm_findBest_6.eq_2, if_neg (by omega), gmG_t (by omega), show (c : Int) / 4 = ((c / 4 : Nat) : Int) by omega, show (c : Int) % 4 = ((c % 4 : Nat) : Int) by omega, e1, gmB_s, if_neg (by omega), show 10 * ((c / 4 : Nat) : Int) + ((c % 4 : Nat) : Int) = pkN c from rfl]
    rw [show (c : Int) + 1 = ((c + 1 : Nat) : Int) by omega]
    have ih := fun τ2 => ih n (c + 1) τ2 (by omega) (by omega)
    simp only [if_neg (show ¬ c + 1 = 0 by omega)] at ih
    have hs : bF rs (c + 1) = if (bF rs c).1 = -1007 then (pkN c, rs c) else if (bF rs c).2 ≤ rs c then bF rs c else (pkN c, rs c) := rfl
    have fin : bF rs (c + 1) = (pkN c, rs c) → ∃ τ', gmG (gmR (pkN c)) (gmL (gmUp τ1 133 17 (pkN c)) (fun s9 => gmG (gmR ((c + 1 : Nat) : Int)) (Fm_findBest_6 n (rs c) ((c + 1 : Nat) : Int) s9 (fun x16 s17 => some (x16, s17))))) = some ((bF rs 8).2, τ') ∧ Qu τ τ' ∧ τ' 133 17 = (bF rs 8).1 := fun z => by
      obtain ⟨τ', e2, q2, t2⟩ := ih (gmUp τ1 133 17 (pkN c)) (by rw [gmUp_k' τ1 (by decide)]; exact f1.ar hA) (fun _ => by rw [gmUp_s, z])
      rw [z] at e2
      refine ⟨τ', ?_, fun k i u => by rw [q2 k i u, gmUp_k (by omega), f1.qu k i u], t2⟩
      rw [gmG_t ⟨by omega, by omega⟩, gmL_s, gmG_t ⟨by omega, by omega⟩]
      exact e2
    by_cases h0 : c = 0
    · subst h0
      rw [if_pos rfl, if_pos (by decide)]
      exact fin rfl
    · rw [if_neg h0]
      obtain ⟨i, hi, ei⟩ := bF_at rs (c - 1)
      rw [show c - 1 + 1 = c by omega] at ei hi
      have hi2 := (hrs i (by omega)).b
      have hi3 : ¬ rs i = -1007 := fun z => (hrs i (by omega)).lay.mp z hlay
      have hpi : 0 ≤ pkN i := by unfold pkN; omega
      rw [if_neg (by rw [ei] at hs; show ¬ (bF rs c).1 = -1007; rw [ei]; show ¬ pkN i = -1007; omega)] at hs
      rw [if_neg (by rw [ei]; show ¬ rs i < 0; omega)]
      by_cases h2 : (bF rs c).2 ≤ rs c
      · rw [if_pos h2] at hs ⊢
        obtain ⟨τ', e2, q2, t2⟩ := ih τ1 (f1.ar hA) (fun _ => by rw [hs, f1 133 17 (by omega)]; exact h17 (by omega))
        rw [hs] at e2
        refine ⟨τ', ?_, f1.qu.tr q2, t2⟩
        rw [gmG_t ⟨by omega, by omega⟩]
        exact e2
      · rw [if_neg h2] at hs ⊢
        exact fin hs
theorem M_fb6n {a : Ar} (hI : InvC a) (hlay : ¬ layO (pts a) (strip a)) : ∀ (d n c : Nat) (τ : St), d < n → c + d = 8 → τ 134 = a → ∃ τ', Fm_findBest_6 n (-1007) c τ (fun x16 s17 => some (x16, s17)) = some (-1007, τ') ∧ Qu τ τ' := by
  intro d
  induction d with
  | zero =>
    intro n c τ hn hd hA
    obtain ⟨n, rfl⟩ : ∃ m, n = m + 1 := ⟨n - 1, by omega⟩
    exact ⟨τ, by rw [Fm_findBest_6.eq_2, if_pos (by omega)], Qu.rf⟩
  | succ d ih =>
    intro n c τ hn hd hA
    obtain ⟨n, rfl⟩ : ∃ m, n = m + 1 := ⟨n - 1, by omega⟩
    obtain ⟨r, τ1, e1, l1, h1, f1⟩ := M_lengthBy (b := ((c % 4 : Nat) : Int)) (m := ((c / 4 : Nat) : Int)) (by omega) hA hI
    obtain ⟨τ', e2, q2⟩ := ih n (c + 1) τ1 (by omega) (by omega) (f1.ar hA)
    refine ⟨τ', ?_, f1.qu.tr q2⟩
    rw [Fm_findBest_6.eq_2, if_neg (by omega), gmG_t (by omega), show (c : Int) / 4 = ((c / 4 : Nat) : Int) by omega, show (c : Int) % 4 = ((c % 4 : Nat) : Int) by omega, e1, gmB_s, l1.lay.mpr hlay, if_pos (by decide), gmG_t ⟨by omega, by omega⟩, show (c : Int) + 1 = ((c + 1 : Nat) : Int) by omega, e2]
theorem Op_best {σ : St} (hR : Rel σ) : Same Fx_bestLength Fm_bestLength σ ∧ Same Fx_bestPacking Fm_bestPacking σ := by
  have hI := hR.2.1.1
  have hw := strip_b hI
  obtain ⟨rs, hrs'⟩ := Classical.axiomOfChoice (r := fun (c : Nat) (r : Int) => LenR (pts (σ 134)) (strip (σ 134)) ((c % 4 : Nat) : Int) ((c / 4 : Nat) : Int) r) (fun c => len_ex hI (by omega))
  have hrs : ∀ c, c < 8 → LenR (pts (σ 134)) (strip (σ 134)) ((c % 4 : Nat) : Int) ((c / 4 : Nat) : Int) (rs c) := fun c _ => hrs' c
  obtain ⟨σ1, e1, x1, w1, f1⟩ := X_fb hR hrs
  have hl0 := (hrs 0 (by omega)).lay
  by_cases hlay : layO (pts (σ 134)) (strip (σ 134))
  · rw [if_neg (fun z => hl0.mp z hlay)] at e1
    obtain ⟨i, hi, ei⟩ := bF_at rs 7
    have ei : bF rs 8 = (pkN i, rs i) := ei
    have hri := hrs i (by omega)
    have hpi : 0 ≤ pkN i ∧ pkN i ≤ 13 := by unfold pkN; omega
    have hd : pkN i / 10 = ((i / 4 : Nat) : Int) ∧ pkN i % 10 = ((i % 4 : Nat) : Int) := by unfold pkN; omega
    have hb := hri.b
    have hn : ¬ rs i = -1007 := fun z => hri.lay.mp z hlay
    rw [ei] at e1
    have mm : ∀ τ, Qu σ τ → ∃ τ', Fm_findBest τ = some (rs i, τ') ∧ Qu τ τ' ∧ τ' 133 17 = pkN i := fun τ q => by
      obtain ⟨τ', e2, q2, t2⟩ := M_fb6 hI hlay hrs 8 gmN 0 τ (by rw [gmN_e]; omega) (by omega) q.ar (fun z => absurd z (by omega))
      rw [ei] at e2 t2
      exact ⟨τ', e2, q2, t2⟩
    constructor
    · obtain ⟨r, σ2, e2, l2, f2, -⟩ := X_lengthPacked (b := ((i % 4 : Nat) : Int)) (m := ((i / 4 : Nat) : Int)) (pts_all hI) (by omega) hw.2 x1 w1
      refine Same.look (r := rs i) hR ⟨σ2, ?_, f1.qu.tr f2.qu⟩ (fun τ q => ?_)
      · unfold Fx_bestLength
        rw [e1, gmB_s, if_neg (by show ¬ pkN i = -1007; omega), gmG_t (by show 0 ≤ pkN i ∧ pkN i < 2147483648; omega), hd.1, hd.2, e2, gmB_s, l2.uniq hri]
      · obtain ⟨τ', a1, a2, -⟩ := mm τ q
        refine ⟨τ', ?_, a2⟩
        unfold Fm_bestLength
        rw [a1, gmB_s]
    · refine Same.look (r := pkN i) hR ⟨σ1, ?_, f1.qu⟩ (fun τ q => ?_)
      · unfold Fx_bestPacking
        rw [e1, gmB_s]
      · obtain ⟨τ', a1, a2, a3⟩ := mm τ q
        refine ⟨τ', ?_, a2⟩
        unfold Fm_bestPacking
        rw [a1, gmB_s, if_pos (by omega), a3]
  · rw [if_pos (hl0.mpr hlay)] at e1
    have mm : ∀ τ, Qu σ τ → ∃ τ', Fm_findBest τ = some (-1007, τ') ∧ Qu τ τ' := fun τ q => M_fb6n hI hlay 8 gmN 0 τ (by rw [gmN_e]; omega) (by omega) q.ar
    constructor
    · refine Same.look (r := -1007) hR ⟨σ1, ?_, f1.qu⟩ (fun τ q => ?_)
      · unfold Fx_bestLength
        rw [e1, gmB_s, if_pos rfl]
      · obtain ⟨τ', a1, a2⟩ := mm τ q
        refine ⟨τ', ?_, a2⟩
        unfold Fm_bestLength
        rw [a1, gmB_s]
    · refine Same.look (r := -1007) hR ⟨σ1, ?_, f1.qu⟩ (fun τ q => ?_)
      · unfold Fx_bestPacking
        rw [e1, gmB_s]
      · obtain ⟨τ', a1, a2⟩ := mm τ q
        refine ⟨τ', ?_, a2⟩
        unfold Fm_bestPacking
        rw [a1, gmB_s, if_neg (by decide)]
