/-! ===== 06.small: numbers within a range, least elements ===== -/
/-- x is a number below n -/
def vd (x : Int32) (n : Nat) : Bool := decide (0 ≤ x.toInt) && decide (x.toInt < (n : Int))
theorem vd_nI {j n : Nat} (hj : j < 2 ^ 31) : vd (nI j) n = decide (j < n) := by
  unfold vd
  rw [nI_toInt hj]
  simp
theorem vd_t {x : Int32} {n : Nat} (h : vd x n = true) (hn : n < 2 ^ 31) : ∃ j, j < n ∧ x = nI j := by
  unfold vd at h
  simp only [Bool.and_eq_true, decide_eq_true_eq] at h
  obtain ⟨j, hj, e⟩ := nI_of (x := x) (by rw [Int32.lt_iff_toInt_lt, Int32.toInt_zero]; omega)
  refine ⟨j, ?_, e⟩
  have := h.2
  rw [e, nI_toInt hj] at this
  omega
theorem vd_f {x : Int32} {n j : Nat} (h : vd x n = false) (hj : j < n) (hn : n < 2 ^ 31) : x ≠ nI j := by
  intro e
  rw [e, vd_nI (by omega)] at h
  simp [hj] at h
/-- the ways in which the programs ask -/
theorem vd_a {x : Int32} {n : Nat} (h : ¬ x < 0 ∧ ¬ nI n ≤ x) (hn : n < 2 ^ 31) : vd x n = true := by
  unfold vd
  obtain ⟨h1, h2⟩ := h
  rw [Int32.lt_iff_toInt_lt, Int32.toInt_zero] at h1
  rw [Int32.le_iff_toInt_le, nI_toInt hn] at h2
  simp only [Bool.and_eq_true, decide_eq_true_eq]
  omega
theorem vd_b {x : Int32} {n : Nat} (h : x < 0 ∨ nI n ≤ x) (hn : n < 2 ^ 31) : vd x n = false := by
  unfold vd
  rw [Int32.lt_iff_toInt_lt, Int32.toInt_zero, Int32.le_iff_toInt_le, nI_toInt hn] at h
  simp only [Bool.and_eq_false_iff, decide_eq_false_iff_not]
  omega
theorem vd_w {x : Int32} {n : Nat} (hn : n < 2 ^ 30) : (decide (nI 0 ≤ x) && decide (x ≤ nI n - nI 1)) = vd x n := by
  unfold vd
  congr 1
  · apply decide_eq_decide.mpr
    rw [Int32.le_iff_toInt_le, nI_toInt (by omega)]
    exact Iff.rfl
  · apply decide_eq_decide.mpr
    rw [Int32.le_iff_toInt_le, pk_sub_toInt hn (by omega)]
    omega
/-- the least number below n with p, or n -/
def lsn (p : Nat → Bool) : Nat → Nat
  | 0 => 0
  | n + 1 => if lsn p n < n then lsn p n else if p n then n else n + 1
theorem lsn_spec (p : Nat → Bool) : ∀ n, lsn p n ≤ n ∧ (∀ j, j < lsn p n → p j = false) ∧ (lsn p n < n → p (lsn p n) = true)
  | 0 => ⟨Nat.le_refl 0, fun _ h => absurd h (Nat.not_lt_zero _), fun h => absurd h (Nat.not_lt_zero _)⟩
  | n + 1 => by
    obtain ⟨h1, h2, h3⟩ := lsn_spec p n
    unfold lsn
    by_cases c : lsn p n < n
    · rw [if_pos c]; exact ⟨by omega, h2, fun _ => h3 c⟩
    · have e : lsn p n = n := by omega
      rw [if_neg c]
      by_cases d : p n = true
      · rw [if_pos d]; exact ⟨by omega, fun j hj => h2 j (by omega), fun _ => d⟩
      · rw [if_neg d]
        refine ⟨Nat.le_refl _, fun j hj => ?_, fun h => absurd h (Nat.lt_irrefl _)⟩
        by_cases f : j = n
        · subst f; exact Bool.eq_false_iff.mpr d
        · exact h2 j (by omega)
theorem lsn_uniq {p : Nat → Bool} {n k : Nat} (h1 : k ≤ n) (h2 : ∀ j, j < k → p j = false) (h3 : k < n → p k = true) : k = lsn p n := by
  obtain ⟨a1, a2, a3⟩ := lsn_spec p n
  rcases Nat.lt_trichotomy k (lsn p n) with h | h | h
  · have := a2 k h; rw [h3 (by omega)] at this; cases this
  · exact h
  · have := h2 _ h; rw [a3 (by omega)] at this; cases this
