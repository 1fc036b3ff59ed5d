/-! ===== 18.ntz: trailing zeros ===== -/
def yv (t : Nat) : Int32 := if t = 32 then -1 else nI (2 ^ t - 1)
theorem nt_split {X t : Nat} (h0 : ∀ j, j < t → Nat.testBit X j = false) (h1 : Nat.testBit X t = true) : X = 2 ^ (t + 1) * (X / 2 ^ (t + 1)) + 2 ^ t := by
  have hm : X % 2 ^ (t + 1) = 2 ^ t := by
    apply Nat.eq_of_testBit_eq
    intro j
    rw [Nat.testBit_mod_two_pow, Nat.testBit_two_pow]
    by_cases c : j < t + 1
    · by_cases d : t = j
      · subst d; simp [h1]
      · simp [c, d, h0 j (by omega)]
    · have : ¬ t = j := by omega
      simp [c, this]
  have := Nat.div_add_mod X (2 ^ (t + 1))
  rw [hm] at this
  exact this.symm
theorem nt_pred {q t j : Nat} : Nat.testBit (2 ^ (t + 1) * q + 2 ^ t - 1) j = if j < t then true else if j = t then false else Nat.testBit q (j - (t + 1)) := by
  have hp : 0 < 2 ^ t := Nat.two_pow_pos t
  have e : 2 ^ (t + 1) * q + 2 ^ t - 1 = 2 ^ (t + 1) * q + (2 ^ t - 1) := by omega
  rw [e, Nat.testBit_two_pow_mul_add q (by rw [Nat.pow_succ]; omega), Nat.testBit_two_pow_sub_one]
  by_cases c : j < t
  · have : j < t + 1 := by omega
    simp [c, this]
  · by_cases d : j = t
    · subst d; simp
    · have : ¬ j < t + 1 := by omega
      simp [c, d, this]
theorem ntz_y {x : Int32} {t : Nat} (hz : t = lsn (bt x) 32) : (x ^^^ (-1)) &&& (x - nI 1) = yv t := by
  obtain ⟨X, hX, rfl⟩ := wb_of32 x
  obtain ⟨a1, a2, a3⟩ := lsn_spec (bt (nI X)) 32
  rw [← hz] at a1 a2 a3
  by_cases c : t = 32
  · have h0 : nI X = 0 := by
      apply b_ext
      intro i hi
      rw [a2 i (by omega), b_0]
    rw [h0, c]
    decide
  · have h1 : Nat.testBit X t = true := by rw [← bt_nI hX]; exact a3 (by omega)
    have h2 : ∀ j, j < t → Nat.testBit X j = false := fun j hj => by rw [← bt_nI hX]; exact a2 j hj
    have hs := nt_split h2 h1
    have hpos : 1 ≤ X := by
      rcases Nat.eq_zero_or_pos X with q | q
      · rw [q] at h1; simp at h1
      · exact q
    have ht32 : 2 ^ t < 2 ^ 32 := Nat.pow_lt_pow_right (by decide) (by omega)
    unfold yv
    rw [if_neg c, pk_sub hpos]
    apply b_ext
    intro i hi
    rw [b_and, b_not _ hi, bt_nI hX, bt_nI (by omega), bt_nI (by omega), Nat.testBit_two_pow_sub_one]
    have hb : Nat.testBit (X - 1) i = if i < t then true else if i = t then false else Nat.testBit (X / 2 ^ (t + 1)) (i - (t + 1)) := by
      have := nt_pred (q := X / 2 ^ (t + 1)) (t := t) (j := i)
      rw [← hs] at this
      exact this
    rw [hb]
    by_cases d : i < t
    · simp [d, h2 i d]
    · by_cases f : i = t
      · subst f; simp
      · have hx : Nat.testBit X i = Nat.testBit (X / 2 ^ (t + 1)) (i - (t + 1)) := by
          rw [Nat.testBit_div_two_pow]; congr 1; omega
        simp only [if_neg d, if_neg f, hx]
        cases Nat.testBit (X / 2 ^ (t + 1)) (i - (t + 1)) <;> simp [d]
theorem bt_l2i (x : Int64) {i : Nat} (hi : i < 32) : bt x.toInt32 i = lb x i := by
  obtain ⟨n, hn, rfl⟩ := wb_of x
  rw [lN_i, lb_lN hn]
  unfold bt
  show (BitVec.ofNat 32 n).getLsbD i = _
  rw [BitVec.getLsbD_ofNat]
  simp [hi]
theorem bt_hi (x : Int64) {i : Nat} (hi : i < 32) : bt (u64 x 32).toInt32 i = lb x (32 + i) := by
  rw [bt_l2i _ hi, l_ushr 32 (by decide)]
theorem ntz_lo {x : Int64} (h : ¬ x.toInt32 = 0) : lsn (bt x.toInt32) 32 = lsn (lb x) 64 := by
  obtain ⟨a1, a2, a3⟩ := lsn_spec (bt x.toInt32) 32
  have hlt : lsn (bt x.toInt32) 32 < 32 := by
    apply Classical.byContradiction
    intro hn
    apply h
    apply b_ext
    intro i hi
    rw [a2 i (by omega), b_0]
  refine lsn_uniq (by omega) (fun j hj => ?_) (fun _ => ?_)
  · rw [← bt_l2i x (by omega)]; exact a2 j hj
  · rw [← bt_l2i x hlt]; exact a3 hlt
theorem ntz_hi {x : Int64} (h : x.toInt32 = 0) : 32 + lsn (bt (u64 x 32).toInt32) 32 = lsn (lb x) 64 := by
  obtain ⟨a1, a2, a3⟩ := lsn_spec (bt (u64 x 32).toInt32) 32
  refine lsn_uniq (by omega) (fun j hj => ?_) (fun hk => ?_)
  · by_cases c : j < 32
    · rw [← bt_l2i x c, h, b_0]
    · have := a2 (j - 32) (by omega)
      rw [bt_hi x (by omega)] at this
      rw [← this]; congr 1; omega
  · have := a3 (by omega)
    rw [bt_hi x (by omega)] at this
    exact this
