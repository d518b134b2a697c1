/-! FIRST FREE: what is occupied, what fits, the least place -/
def maskN (n c : Nat) : Nat := (2 ^ n - 1) * 2 ^ c
theorem maskN_bit (n c t : Nat) : (maskN n c).testBit t = true ↔ c ≤ t ∧ t < c + n := by
  unfold maskN
  rw [Nat.testBit_mul_two_pow]
  simp only [Nat.testBit_two_pow_sub_one, Bool.and_eq_true, decide_eq_true_eq]
  omega
theorem maskN_lt {n c : Nat} (h : n + c ≤ 24) : maskN n c < 2 ^ 24 := by
  unfold maskN
  have h1 : (2 ^ n - 1) * 2 ^ c + 2 ^ c = 2 ^ (n + c) := by
    rw [Nat.pow_add, ← Nat.succ_mul]
    congr 1
    have : 0 < 2 ^ n := Nat.pow_pos (by decide)
    omega
  have h2 : 0 < 2 ^ c := Nat.pow_pos (by decide)
  have h3 : 2 ^ (n + c) ≤ 2 ^ 24 := Nat.pow_le_pow_right (by decide) h
  omega
theorem bitI_N {ac c : Int} : bitI ac c = ((maskN ac.toNat c.toNat : Nat) : Int) := by
  unfold bitI maskN
  have h1 : 0 < 2 ^ ac.toNat := Nat.pow_pos (by decide)
  rw [Int.natCast_mul, Int.natCast_pow, Int.natCast_sub (by omega), Int.natCast_pow, Int.one_mul]
  rfl
theorem and_zero_iff (s x : Nat) : s &&& x = 0 ↔ ∀ t, x.testBit t = true → s.testBit t = false := by
  constructor
  · intro h t hx
    have := congrArg (fun z => z.testBit t) h
    simp only [Nat.testBit_and, Nat.zero_testBit, hx, Bool.and_true] at this
    exact this
  · intro h
    apply Nat.eq_of_testBit_eq
    intro t
    rw [Nat.testBit_and, Nat.zero_testBit]
    cases hx : x.testBit t
    · simp
    · rw [h t hx]; rfl
theorem and_mask (s n c : Nat) : s &&& maskN n c = 0 ↔ ∀ t, c ≤ t → t < c + n → s.testBit t = false := by
  rw [and_zero_iff]
  exact ⟨fun h t h1 h2 => h t ((maskN_bit n c t).mpr ⟨h1, h2⟩), fun h t h1 => by
    obtain ⟨a, b⟩ := (maskN_bit n c t).mp h1
    exact h t a b⟩
theorem shr_mask (s n c : Nat) : (s / 2 ^ c) &&& (2 ^ n - 1) = 0 ↔ ∀ t, c ≤ t → t < c + n → s.testBit t = false := by
  rw [and_zero_iff]
  constructor
  · intro h t h1 h2
    have := h (t - c) (by rw [Nat.testBit_two_pow_sub_one]; simp; omega)
    rw [Nat.testBit_div_two_pow] at this
    rw [show t - c + c = t by omega] at this
    exact this
  · intro h t ht
    rw [Nat.testBit_two_pow_sub_one] at ht
    simp at ht
    rw [Nat.testBit_div_two_pow]
    exact h (t + c) (by omega) (by omega)
section FF
variable (L : List PT) (w : Int) (o : Nat → Nat)
def Occ (pA pC : Nat → Int) (m : Nat) (r : Int) (c : Nat) : Prop := ∃ j, j < m ∧ (pA j ≤ r ∧ r < pA j + pal L (o j)) ∧ pC j ≤ (c : Int) ∧ (c : Int) < pC j + pac L (o j)
def Blk (pA pC : Nat → Int) (m : Nat) (q : Nat) (a : Int) (c : Nat) : Prop := ∃ r, (a ≤ r ∧ r < a + pal L q) ∧ Occ L o pA pC m r c
def lastC (q : Nat) : Int := if pfo L q = 0 then w - pac L q else 0
def Fit (pA pC : Nat → Int) (m : Nat) (q : Nat) (a : Int) (c : Nat) : Prop := (c : Int) ≤ lastC L w q ∧ ∀ t, c ≤ t → (t : Int) < c + pac L q → ¬ Blk L o pA pC m q a t
def Least (pA pC : Nat → Int) (m : Nat) (q : Nat) (a c : Int) : Prop := 0 ≤ a ∧ 0 ≤ c ∧ Fit L w o pA pC m q a c.toNat ∧ ∀ (a' : Int) (c' : Nat), 0 ≤ a' → Fit L w o pA pC m q a' c' → a < a' ∨ (a = a' ∧ c ≤ c')
/-- the place of each part in the order, first free -/
def FFp (pA pC : Nat → Int) (n : Nat) : Prop := ∀ i, i < n → Least L w o pA pC i (o i) (pA i) (pC i)
/-- the answer of a look for a gap -/
def Gap (pA pC : Nat → Int) (m : Nat) (q : Nat) (a g : Int) : Prop := (0 ≤ g ∧ Fit L w o pA pC m q a g.toNat ∧ ∀ c' : Nat, Fit L w o pA pC m q a c' → g ≤ c') ∨ (g < 0 ∧ ∀ c' : Nat, ¬ Fit L w o pA pC m q a c')
variable {L w o}
theorem Occ.congr {pA pC qA qC : Nat → Int} {m : Nat} (h : ∀ j, j < m → pA j = qA j ∧ pC j = qC j) {r : Int} {c : Nat} (hO : Occ L o pA pC m r c) : Occ L o qA qC m r c := by
  obtain ⟨j, a, b, d⟩ := hO
  obtain ⟨e1, e2⟩ := h j a
  rw [e1] at b
  rw [e2] at d
  exact ⟨j, a, b, d⟩
theorem Blk.congr {pA pC qA qC : Nat → Int} {m q : Nat} (h : ∀ j, j < m → pA j = qA j ∧ pC j = qC j) {a : Int} {c : Nat} (hB : Blk L o pA pC m q a c) : Blk L o qA qC m q a c := by
  obtain ⟨r, b, d⟩ := hB
  exact ⟨r, b, d.congr h⟩
theorem Fit.congr {pA pC qA qC : Nat → Int} {m q : Nat} (h : ∀ j, j < m → pA j = qA j ∧ pC j = qC j) {a : Int} {c : Nat} (hF : Fit L w o pA pC m q a c) : Fit L w o qA qC m q a c :=
  ⟨hF.1, fun t h1 h2 h3 => hF.2 t h1 h2 (h3.congr (fun j hj => ⟨(h j hj).1.symm, (h j hj).2.symm⟩))⟩
theorem Least.congr {pA pC qA qC : Nat → Int} {m q : Nat} (h : ∀ j, j < m → pA j = qA j ∧ pC j = qC j) {a c : Int} (hF : Least L w o pA pC m q a c) : Least L w o qA qC m q a c :=
  ⟨hF.1, hF.2.1, hF.2.2.1.congr h, fun a' c' h1 h2 => hF.2.2.2 a' c' h1 (h2.congr (fun j hj => ⟨(h j hj).1.symm, (h j hj).2.symm⟩))⟩
theorem Least.uniq {pA pC : Nat → Int} {m q : Nat} {a c a' c' : Int} (h : Least L w o pA pC m q a c) (h' : Least L w o pA pC m q a' c') : a = a' ∧ c = c' := by
  have h1 := h.2.2.2 a' c'.toNat h'.1 h'.2.2.1
  have h2 := h'.2.2.2 a c.toNat h.1 h.2.2.1
  have := h.2.1
  have := h'.2.1
  omega
theorem FFp.uniq {pA pC qA qC : Nat → Int} {n : Nat} (h : FFp L w o pA pC n) (h' : FFp L w o qA qC n) : ∀ i, i < n → pA i = qA i ∧ pC i = qC i := by
  have key : ∀ k i, i < k → i < n → pA i = qA i ∧ pC i = qC i := by
    intro k
    induction k with
    | zero => intro i hi; omega
    | succ k ih =>
      intro i hi hn
      exact (h i hn).uniq ((h' i hn).congr (fun j hj => by
        have := ih j (by omega) (by omega)
        exact ⟨this.1.symm, this.2.symm⟩))
  exact fun i hi => key (i + 1) i (by omega) hi
/-- beyond all that is placed everything is free -/
theorem Fit.top {pA pC : Nat → Int} {m q : Nat} {a : Int} (hl : 0 ≤ lastC L w q) (h : ∀ j, j < m → pA j + pal L (o j) ≤ a) : Fit L w o pA pC m q a 0 := by
  refine ⟨hl, fun t _ _ hB => ?_⟩
  obtain ⟨r, ⟨h1, h2⟩, j, h3, ⟨h4, h5⟩, h6⟩ := hB
  have := h j h3
  omega
/-- a free place that can't be moved toward the start stands at the start or at an end -/
theorem Fit.cand {pA pC : Nat → Int} {m q : Nat} (hq : 1 ≤ pal L q) : ∀ (k : Nat) (c : Nat), Fit L w o pA pC m q (k : Int) c → ∃ (k' : Nat) (c' : Nat), k' ≤ k ∧ Fit L w o pA pC m q (k' : Int) c' ∧ (k' = 0 ∨ ∃ j, j < m ∧ pA j + pal L (o j) = (k' : Int)) := by
  intro k
  induction k with
  | zero => exact fun c h => ⟨0, c, Nat.le_refl 0, h, Or.inl rfl⟩
  | succ k ih =>
    intro c h
    by_cases h1 : Fit L w o pA pC m q (k : Int) c
    · obtain ⟨k', c', a, b, d⟩ := ih c h1
      exact ⟨k', c', by omega, b, d⟩
    · have h2 : ∃ t, c ≤ t ∧ (t : Int) < c + pac L q ∧ Blk L o pA pC m q (k : Int) t := by
        apply Classical.byContradiction
        intro h3
        exact h1 ⟨h.1, fun t a b d => h3 ⟨t, a, b, d⟩⟩
      obtain ⟨t, a, b, r, ⟨r1, r2⟩, j, j1, ⟨j2, j3⟩, j4⟩ := h2
      have h4 := h.2 t a b
      refine ⟨k + 1, c, Nat.le_refl _, h, Or.inr ⟨j, j1, ?_⟩⟩
      apply Classical.byContradiction
      intro h5
      rcases Int.lt_or_gt_of_ne h5 with h6 | h6
      · by_cases h7 : r = (k : Int)
        · omega
        · exact h4 ⟨r, ⟨by omega, by omega⟩, j, j1, ⟨j2, j3⟩, j4⟩
      · exact h4 ⟨if r < (k : Int) + 1 then (k : Int) + 1 else r, by split <;> omega, j, j1, by split <;> omega, j4⟩
end FF
