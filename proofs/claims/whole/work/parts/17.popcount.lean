/-! ===== 17.popcount: bitCount counts bits (wb_, nx_and began as rows of laws/BITS.to-paste) ===== -/
theorem wb_tb (n : Nat) : (lN n).toBitVec = BitVec.ofNat 64 n := rfl
theorem wb_inj {a b : Int64} (h : a.toBitVec = b.toBitVec) : a = b := Int64.toBitVec_inj.mp h
theorem wb_tn {n : Nat} (h : n < 2 ^ 64) : (lN n).toBitVec.toNat = n := by rw [wb_tb, BitVec.toNat_ofNat, Nat.mod_eq_of_lt h]
theorem wb_of (x : Int64) : ∃ n, n < 2 ^ 64 ∧ x = lN n := ⟨x.toBitVec.toNat, x.toBitVec.isLt, wb_inj (by rw [wb_tb]; simp)⟩
theorem wb_of32 (x : Int32) : ∃ n, n < 2 ^ 32 ∧ x = nI n := ⟨x.toBitVec.toNat, x.toBitVec.isLt, Int32.toBitVec_inj.mp (by show _ = BitVec.ofNat 32 _; simp)⟩
theorem wb_cu : ∀ k, k < 64 → ((nI k).toInt64.toUInt64 &&& Int64.toUInt64 63) = UInt64.ofNat k := by decide +kernel
theorem wb_shr {n k : Nat} (hn : n < 2 ^ 64) (hk : k < 64) : ((lN n).toUInt64 >>> ((nI k).toInt64.toUInt64 &&& Int64.toUInt64 63)).toInt64 = lN (n / 2 ^ k) := by
  rw [wb_cu k hk]
  apply wb_inj
  apply BitVec.eq_of_toNat_eq
  show ((lN n).toUInt64 >>> UInt64.ofNat k).toNat = (BitVec.ofNat 64 _).toNat
  have h1 : (UInt64.ofNat k).toNat = k := by
    show (BitVec.ofNat 64 k).toNat = k
    rw [BitVec.toNat_ofNat, Nat.mod_eq_of_lt (by omega)]
  have h2 : (lN n).toUInt64.toNat = n := wb_tn hn
  rw [UInt64.toNat_shiftRight, h1, h2, Nat.mod_eq_of_lt hk, Nat.shiftRight_eq_div_pow, BitVec.toNat_ofNat, Nat.mod_eq_of_lt (Nat.lt_of_le_of_lt (Nat.div_le_self _ _) hn)]
theorem wb_and {a b : Nat} (ha : a < 2 ^ 64) (hb : b < 2 ^ 64) : lN a &&& lN b = lN (a &&& b) := by
  apply wb_inj
  rw [Int64.toBitVec_and, wb_tb, wb_tb, wb_tb]
  apply BitVec.eq_of_toNat_eq
  rw [BitVec.toNat_and, BitVec.toNat_ofNat, BitVec.toNat_ofNat, BitVec.toNat_ofNat, Nat.mod_eq_of_lt ha, Nat.mod_eq_of_lt hb, Nat.mod_eq_of_lt (Nat.and_lt_two_pow _ hb)]
theorem nx_and (a b : Nat) : nI a &&& nI b = nI (a &&& b) := by
  apply Int32.toBitVec_inj.1
  show BitVec.ofNat 32 a &&& BitVec.ofNat 32 b = BitVec.ofNat 32 (a &&& b)
  apply BitVec.eq_of_getLsbD_eq
  intro i hi
  simp [hi]
theorem and8 (a c : Nat) {b d : Nat} (hb : b < 256) (hd : d < 256) : (256 * a + b) &&& (256 * c + d) = 256 * (a &&& c) + (b &&& d) := by
  have hbd : b &&& d < 2 ^ 8 := Nat.and_lt_two_pow _ hd
  apply Nat.eq_of_testBit_eq
  intro j
  rw [Nat.testBit_and, show (256 : Nat) = 2 ^ 8 from rfl, Nat.testBit_two_pow_mul_add a hb, Nat.testBit_two_pow_mul_add c hd, Nat.testBit_two_pow_mul_add (a &&& c) hbd]
  split <;> simp [Nat.testBit_and]
/-- masks of k bytes -/
def mk8 (c : Nat) : Nat → Nat
  | 0 => 0
  | k + 1 => 256 * mk8 c k + c
def p1 (k x : Nat) : Nat := x - ((x / 2) &&& mk8 85 k)
def p2 (k y : Nat) : Nat := (y &&& mk8 51 k) + ((y / 4) &&& mk8 51 k)
def p3 (k w : Nat) : Nat := (w + w / 16) &&& mk8 15 k
/-- the bytes' own counts -/
def pcs : Nat → Nat → Nat
  | 0, _ => 0
  | k + 1, x => 256 * pcs k (x / 256) + cn (Nat.testBit (x % 256)) 8
theorem t1 : ∀ a, a < 2 → ∀ b, b < 256 → (a * 128 + b / 2) &&& 85 = (b / 2) &&& 85 := by decide +kernel
theorem t1b : ∀ b, b < 256 → (b / 2) &&& 85 ≤ b := by decide +kernel
theorem t2 : ∀ a, a < 4 → ∀ b, b < 256 → (a * 64 + b / 4) &&& 51 = (b / 4) &&& 51 := by decide +kernel
/-- a byte's first two steps -/
def q2 (b : Nat) : Nat := ((b - ((b / 2) &&& 85)) &&& 51) + (((b - ((b / 2) &&& 85)) / 4) &&& 51)
theorem q2_nib : ∀ b, b < 256 → q2 b % 16 ≤ 4 ∧ q2 b / 16 ≤ 4 := by decide +kernel
theorem q2_cn : ∀ b, b < 256 → (q2 b + q2 b / 16) &&& 15 = cn (Nat.testBit b) 8 ∧ cn (Nat.testBit b) 8 ≤ 8 := by decide +kernel
theorem t3 : ∀ a, a < 5 → ∀ b, b < 256 → (16 * a + (q2 b + q2 b / 16)) &&& 15 = (q2 b + q2 b / 16) &&& 15 := by decide +kernel
theorem p1_s (k a : Nat) {b : Nat} (hb : b < 256) : p1 (k + 1) (256 * a + b) = 256 * p1 k a + (b - ((b / 2) &&& 85)) := by
  have h1 : (256 * a + b) / 2 = 256 * (a / 2) + (a % 2 * 128 + b / 2) := by omega
  have h2 : a % 2 * 128 + b / 2 < 256 := by omega
  have h3 := Nat.and_le_left (n := a / 2) (m := mk8 85 k)
  have h4 := t1b b hb
  unfold p1
  rw [show mk8 85 (k + 1) = 256 * mk8 85 k + 85 from rfl]
  rw [h1, and8 _ _ h2 (by decide), t1 (a % 2) (by omega) b hb]
  omega
theorem p1_lt (k : Nat) : ∀ b, b < 256 → b - ((b / 2) &&& 85) < 256 := fun b h => by omega
theorem p2_s (k a : Nat) {b : Nat} (hb : b < 256) : p2 (k + 1) (256 * a + b) = 256 * p2 k a + ((b &&& 51) + ((b / 4) &&& 51)) := by
  have h1 : (256 * a + b) / 4 = 256 * (a / 4) + (a % 4 * 64 + b / 4) := by omega
  have h2 : a % 4 * 64 + b / 4 < 256 := by omega
  unfold p2
  rw [show mk8 51 (k + 1) = 256 * mk8 51 k + 51 from rfl]
  rw [h1, and8 _ _ h2 (by decide), and8 _ _ hb (by decide), t2 (a % 4) (by omega) b hb]
  omega
theorem p3_s (k a : Nat) {b : Nat} (hb : b < 256) (ha : a % 16 ≤ 4) : p3 (k + 1) (256 * a + q2 b) = 256 * p3 k a + ((q2 b + q2 b / 16) &&& 15) := by
  have hq := q2_nib b hb
  have h1 : 256 * a + q2 b + (256 * a + q2 b) / 16 = 256 * (a + a / 16) + (16 * (a % 16) + (q2 b + q2 b / 16)) := by omega
  have h2 : 16 * (a % 16) + (q2 b + q2 b / 16) < 256 := by omega
  unfold p3
  rw [show mk8 15 (k + 1) = 256 * mk8 15 k + 15 from rfl]
  rw [h1, and8 _ _ h2 (by decide), t3 (a % 16) (by omega) b hb]
theorem p_all : ∀ (k x : Nat), x < 256 ^ k → p3 k (p2 k (p1 k x)) = pcs k x ∧ p2 k (p1 k x) % 16 ≤ 4
  | 0, x, h => by
    have : x = 0 := by simp at h; omega
    subst this; decide
  | k + 1, x, h => by
    have hx : x = 256 * (x / 256) + x % 256 := by omega
    have hb : x % 256 < 256 := Nat.mod_lt _ (by decide)
    have ha : x / 256 < 256 ^ k := by rw [Nat.pow_succ] at h; omega
    obtain ⟨i1, i2⟩ := p_all k (x / 256) ha
    have e : p2 (k + 1) (p1 (k + 1) x) = 256 * p2 k (p1 k (x / 256)) + q2 (x % 256) := by
      rw [hx, p1_s k _ hb, p2_s k _ (by omega), ← hx]; rfl
    have hq := q2_nib _ hb
    refine ⟨?_, by rw [e]; omega⟩
    rw [e, p3_s k _ hb i2, i1, (q2_cn _ hb).1]
    rfl
theorem cn_app8 (p : Nat → Bool) (m : Nat) : cn p (8 + m) = cn p 8 + cn (fun i => p (8 + i)) m := by
  induction m with
  | zero => rfl
  | succ m ih =>
    show cn p (8 + m) + (p (8 + m)).toNat = cn p 8 + (cn (fun i => p (8 + i)) m + (p (8 + m)).toNat)
    rw [ih, Nat.add_assoc]
theorem pcs_cn (k x : Nat) : cn (Nat.testBit x) (8 * (k + 1)) = cn (Nat.testBit (x % 256)) 8 + cn (Nat.testBit (x / 256)) (8 * k) := by
  rw [show 8 * (k + 1) = 8 + 8 * k by omega, cn_app8]
  congr 1
  · apply cn_congr
    intro i hi
    rw [show (256 : Nat) = 2 ^ 8 from rfl, Nat.testBit_mod_two_pow]; simp [hi]
  · apply cn_congr
    intro i hi
    rw [show (256 : Nat) = 2 ^ 8 from rfl, Nat.testBit_div_two_pow, Nat.add_comm]
theorem pc_le (b : Nat) : cn (Nat.testBit b) 8 ≤ 8 := cn_le _ 8
theorem pcs_0 (x : Nat) : cn (Nat.testBit x) (8 * 0) = 0 := rfl
theorem sum64 (x : Nat) : ∃ p0 p1 p2 p3 p4 p5 p6 p7, p0 ≤ 8 ∧ p1 ≤ 8 ∧ p2 ≤ 8 ∧ p3 ≤ 8 ∧ p4 ≤ 8 ∧ p5 ≤ 8 ∧ p6 ≤ 8 ∧ p7 ≤ 8 ∧ pcs 8 x = 256 * (256 * (256 * (256 * (256 * (256 * (256 * p7 + p6) + p5) + p4) + p3) + p2) + p1) + p0 ∧ cn (Nat.testBit x) 64 = p0 + (p1 + (p2 + (p3 + (p4 + (p5 + (p6 + p7)))))) := by
  refine ⟨cn (Nat.testBit (x % 256)) 8, cn (Nat.testBit ((x / 256) % 256)) 8, cn (Nat.testBit (((x / 256) / 256) % 256)) 8, cn (Nat.testBit ((((x / 256) / 256) / 256) % 256)) 8, cn (Nat.testBit (((((x / 256) / 256) / 256) / 256) % 256)) 8, cn (Nat.testBit ((((((x / 256) / 256) / 256) / 256) / 256) % 256)) 8, cn (Nat.testBit (((((((x / 256) / 256) / 256) / 256) / 256) / 256) % 256)) 8, cn (Nat.testBit ((((((((x / 256) / 256) / 256) / 256) / 256) / 256) / 256) % 256)) 8, pc_le _, pc_le _, pc_le _, pc_le _, pc_le _, pc_le _, pc_le _, pc_le _, ?_, ?_⟩
  rotate_left
  · show cn (Nat.testBit x) (8 * (7 + 1)) = _
    rw [pcs_cn, pcs_cn, pcs_cn, pcs_cn, pcs_cn, pcs_cn, pcs_cn, pcs_cn, pcs_0, Nat.add_zero]
  · simp only [pcs, Nat.mul_zero, Nat.zero_add]
theorem sum32 (x : Nat) : ∃ p0 p1 p2 p3, p0 ≤ 8 ∧ p1 ≤ 8 ∧ p2 ≤ 8 ∧ p3 ≤ 8 ∧ pcs 4 x = 256 * (256 * (256 * p3 + p2) + p1) + p0 ∧ cn (Nat.testBit x) 32 = p0 + (p1 + (p2 + p3)) := by
  refine ⟨cn (Nat.testBit (x % 256)) 8, cn (Nat.testBit ((x / 256) % 256)) 8, cn (Nat.testBit (((x / 256) / 256) % 256)) 8, cn (Nat.testBit ((((x / 256) / 256) / 256) % 256)) 8, pc_le _, pc_le _, pc_le _, pc_le _, ?_, ?_⟩
  rotate_left
  · show cn (Nat.testBit x) (8 * (3 + 1)) = _
    rw [pcs_cn, pcs_cn, pcs_cn, pcs_cn, pcs_0, Nat.add_zero]
  · simp only [pcs, Nat.mul_zero, Nat.zero_add]
theorem fold64 {v p0 p1 p2 p3 p4 p5 p6 p7 : Nat} (h0 : p0 ≤ 8) (h1 : p1 ≤ 8) (h2 : p2 ≤ 8) (h3 : p3 ≤ 8) (h4 : p4 ≤ 8) (h5 : p5 ≤ 8) (h6 : p6 ≤ 8) (h7 : p7 ≤ 8) (hv : v = 256 * (256 * (256 * (256 * (256 * (256 * (256 * p7 + p6) + p5) + p4) + p3) + p2) + p1) + p0) :
    ∃ v1 v2 v3, v + v / 256 = v1 ∧ v1 + v1 / 65536 = v2 ∧ v2 + v2 / 4294967296 = v3 ∧ v < 2 ^ 64 ∧ v1 < 2 ^ 64 ∧ v2 < 2 ^ 64 ∧ v3 % 128 = p0 + (p1 + (p2 + (p3 + (p4 + (p5 + (p6 + p7)))))) := by
  have d1 : v / 256 = 256 * (256 * (256 * (256 * (256 * (256 * p7 + p6) + p5) + p4) + p3) + p2) + p1 := by omega
  obtain ⟨v1, e1⟩ : ∃ v1, v + v / 256 = v1 := ⟨_, rfl⟩
  have f1 : v1 = 256 * (256 * (256 * (256 * (256 * (256 * (256 * p7 + (p6 + p7)) + (p5 + p6)) + (p4 + p5)) + (p3 + p4)) + (p2 + p3)) + (p1 + p2)) + (p0 + p1) := by omega
  have d2 : v1 / 65536 = 256 * (256 * (256 * (256 * (256 * p7 + (p6 + p7)) + (p5 + p6)) + (p4 + p5)) + (p3 + p4)) + (p2 + p3) := by omega
  obtain ⟨v2, e2⟩ : ∃ v2, v1 + v1 / 65536 = v2 := ⟨_, rfl⟩
  have f2 : v2 = 256 * (256 * (256 * (256 * (256 * (256 * (256 * p7 + (p6 + p7)) + (p5 + p6 + p7)) + (p4 + p5 + p6 + p7)) + (p3 + p4 + p5 + p6)) + (p2 + p3 + p4 + p5)) + (p1 + p2 + p3 + p4)) + (p0 + p1 + p2 + p3) := by omega
  have d3 : v2 / 4294967296 = 256 * (256 * (256 * p7 + (p6 + p7)) + (p5 + p6 + p7)) + (p4 + p5 + p6 + p7) := by omega
  refine ⟨v1, v2, _, e1, e2, rfl, ?_, ?_, ?_, ?_⟩
  · clear d1 e1 f1 d2 e2 f2 d3; omega
  · clear hv d1 e1 d2 e2 f2 d3; omega
  · clear hv d1 e1 d2 e2 f1 d3; omega
  · rw [d3, f2]
    clear hv d1 e1 f1 d2 e2 f2 d3
    omega
theorem fold32 {v p0 p1 p2 p3 : Nat} (h0 : p0 ≤ 8) (h1 : p1 ≤ 8) (h2 : p2 ≤ 8) (h3 : p3 ≤ 8) (hv : v = 256 * (256 * (256 * p3 + p2) + p1) + p0) :
    ∃ v1 v2, v + v / 256 = v1 ∧ v1 + v1 / 65536 = v2 ∧ v < 2 ^ 32 ∧ v1 < 2 ^ 32 ∧ v2 % 64 = p0 + (p1 + (p2 + p3)) := by
  have d1 : v / 256 = 256 * (256 * p3 + p2) + p1 := by omega
  obtain ⟨v1, e1⟩ : ∃ v1, v + v / 256 = v1 := ⟨_, rfl⟩
  have f1 : v1 = 256 * (256 * (256 * p3 + (p2 + p3)) + (p1 + p2)) + (p0 + p1) := by omega
  have d2 : v1 / 65536 = 256 * p3 + (p2 + p3) := by omega
  exact ⟨v1, _, e1, rfl, by omega, by omega, by rw [d2]; omega⟩
/-- the steps over the machine's words -/
abbrev u64 (x : Int64) (k : Nat) : Int64 := (x.toUInt64 >>> ((nI k).toInt64.toUInt64 &&& Int64.toUInt64 63)).toInt64
theorem u64_n {x k : Nat} (hx : x < 2 ^ 64) (hk : k < 64) : u64 (lN x) k = lN (x / 2 ^ k) := wb_shr hx hk
def c64a (x : Int64) : Int64 := x - (u64 x 1 &&& (6148914691236517205 : Int64))
def c64b (x : Int64) : Int64 := (x &&& (3689348814741910323 : Int64)) + (u64 x 2 &&& (3689348814741910323 : Int64))
def c64c (x : Int64) : Int64 := (x + u64 x 4) &&& (1085102592571150095 : Int64)
def c64d (x : Int64) : Int64 := x + u64 x 8
def c64e (x : Int64) : Int64 := x + u64 x 16
def c64f (x : Int64) : Int64 := x + u64 x 32
theorem mk85 : mk8 85 8 = 6148914691236517205 := by decide
theorem mk51 : mk8 51 8 = 3689348814741910323 := by decide
theorem mk15 : mk8 15 8 = 1085102592571150095 := by decide
theorem c64a_n {x : Nat} (h : x < 2 ^ 64) : c64a (lN x) = lN (p1 8 x) := by
  unfold c64a p1
  rw [u64_n h (by decide), show (6148914691236517205 : Int64) = lN (mk8 85 8) from by rw [mk85]; rfl, wb_and (by omega) (by rw [mk85]; decide), lN_sub]
  exact Nat.le_trans Nat.and_le_left (Nat.div_le_self _ _)
theorem c64b_n {x : Nat} (h : x < 2 ^ 64) : c64b (lN x) = lN (p2 8 x) := by
  unfold c64b p2
  rw [u64_n h (by decide), show (3689348814741910323 : Int64) = lN (mk8 51 8) from by rw [mk51]; rfl, wb_and h (by rw [mk51]; decide), wb_and (by omega) (by rw [mk51]; decide), lN_add]
theorem c64c_n {x : Nat} (h : x + x / 16 < 2 ^ 64) : c64c (lN x) = lN (p3 8 x) := by
  unfold c64c p3
  rw [u64_n (by omega) (by decide), lN_add, show (1085102592571150095 : Int64) = lN (mk8 15 8) from by rw [mk15]; rfl, wb_and (by simpa using h) (by rw [mk15]; decide)]
theorem p2_lt (y : Nat) : p2 8 y + p2 8 y / 16 < 2 ^ 64 := by
  have h1 := Nat.and_le_right (n := y) (m := mk8 51 8)
  have h2 := Nat.and_le_right (n := y / 4) (m := mk8 51 8)
  unfold p2
  rw [mk51] at *
  omega
theorem lb_lN {x : Nat} (h : x < 2 ^ 64) (i : Nat) : lb (lN x) i = Nat.testBit x i := by
  unfold lb
  rw [← BitVec.testBit_toNat, wb_tn h]
theorem bc64 (x : Int64) : (c64f (c64e (c64d (c64c (c64b (c64a x)))))).toInt32 &&& nI 127 = nI (cn (lb x) 64) := by
  obtain ⟨n, hn, rfl⟩ := wb_of x
  have hp := (p_all 8 n (by simpa using hn)).1
  obtain ⟨p0, p1', p2', p3', p4, p5, p6, p7, h0, h1, h2, h3, h4, h5, h6, h7, hv, hc⟩ := sum64 n
  obtain ⟨v1, v2, v3, e1, e2, e3, l0, l1, l2, hr⟩ := fold64 h0 h1 h2 h3 h4 h5 h6 h7 hv
  have ha : p1 8 n < 2 ^ 64 := by unfold p1; omega
  rw [c64a_n hn, c64b_n ha, c64c_n (p2_lt _), hp]
  unfold c64d c64e c64f
  rw [u64_n l0 (by decide), lN_add, show pcs 8 n + pcs 8 n / 2 ^ 8 = v1 from e1, u64_n l1 (by decide), lN_add, show v1 + v1 / 2 ^ 16 = v2 from e2, u64_n l2 (by decide), lN_add, show v2 + v2 / 2 ^ 32 = v3 from e3, lN_i, nx_and, show (127 : Nat) = 2 ^ 7 - 1 from rfl, Nat.and_two_pow_sub_one_eq_mod]
  congr 1
  rw [show (2 : Nat) ^ 7 = 128 from rfl, hr, ← hc]
  exact cn_congr (fun i _ => (lb_lN hn i).symm)
abbrev u32 (x : Int32) (k : Nat) : Int32 := (x.toUInt32 >>> ((nI k).toUInt32 &&& Int32.toUInt32 31)).toInt32
def c32a (x : Int32) : Int32 := x - (u32 x 1 &&& (1431655765 : Int32))
def c32b (x : Int32) : Int32 := (x &&& (858993459 : Int32)) + (u32 x 2 &&& (858993459 : Int32))
def c32c (x : Int32) : Int32 := (x + u32 x 4) &&& (252645135 : Int32)
def c32d (x : Int32) : Int32 := x + u32 x 8
def c32e (x : Int32) : Int32 := x + u32 x 16
theorem mj85 : mk8 85 4 = 1431655765 := by decide
theorem mj51 : mk8 51 4 = 858993459 := by decide
theorem mj15 : mk8 15 4 = 252645135 := by decide
theorem u32_n {x k : Nat} (hx : x < 2 ^ 32) (hs : (((nI k).toUInt32 &&& Int32.toUInt32 31).toBitVec % 32).toNat = k) : u32 (nI x) k = nI (x / 2 ^ k) := pk_ushrN hx (nI k) k hs
theorem c32a_n {x : Nat} (h : x < 2 ^ 32) : c32a (nI x) = nI (p1 4 x) := by
  unfold c32a p1
  rw [u32_n h (by decide), show (1431655765 : Int32) = nI (mk8 85 4) from by rw [mj85]; rfl, nx_and, pk_sub]
  exact Nat.le_trans Nat.and_le_left (Nat.div_le_self _ _)
theorem c32b_n {x : Nat} (h : x < 2 ^ 32) : c32b (nI x) = nI (p2 4 x) := by
  unfold c32b p2
  rw [u32_n h (by decide), show (858993459 : Int32) = nI (mk8 51 4) from by rw [mj51]; rfl, nx_and, nx_and, nI_add]
theorem c32c_n {x : Nat} (h : x < 2 ^ 32) : c32c (nI x) = nI (p3 4 x) := by
  unfold c32c p3
  rw [u32_n h (by decide), nI_add, show (252645135 : Int32) = nI (mk8 15 4) from by rw [mj15]; rfl, nx_and]
theorem p2_lt4 (y : Nat) : p2 4 y < 2 ^ 32 := by
  have h1 := Nat.and_le_right (n := y) (m := mk8 51 4)
  have h2 := Nat.and_le_right (n := y / 4) (m := mk8 51 4)
  unfold p2
  rw [mj51] at *
  omega
theorem bt_nI {x : Nat} (h : x < 2 ^ 32) (i : Nat) : bt (nI x) i = Nat.testBit x i := by
  unfold bt
  rw [← BitVec.testBit_toNat, pk_tn h]
theorem bc32 (x : Int32) : c32e (c32d (c32c (c32b (c32a x)))) &&& nI 63 = nI (cn (bt x) 32) := by
  obtain ⟨n, hn, rfl⟩ := wb_of32 x
  have hp := (p_all 4 n (by simpa using hn)).1
  obtain ⟨p0, p1', p2', p3', h0, h1, h2, h3, hv, hc⟩ := sum32 n
  obtain ⟨v1, v2, e1, e2, l0, l1, hr⟩ := fold32 h0 h1 h2 h3 hv
  have ha : p1 4 n < 2 ^ 32 := by unfold p1; omega
  rw [c32a_n hn, c32b_n ha, c32c_n (p2_lt4 _), hp]
  unfold c32d c32e
  rw [u32_n l0 (by decide), nI_add, show pcs 4 n + pcs 4 n / 2 ^ 8 = v1 from e1, u32_n l1 (by decide), nI_add, show v1 + v1 / 2 ^ 16 = v2 from e2, nx_and, show (63 : Nat) = 2 ^ 6 - 1 from rfl, Nat.and_two_pow_sub_one_eq_mod]
  congr 1
  rw [show (2 : Nat) ^ 6 = 64 from rfl, hr, ← hc]
  exact cn_congr (fun i _ => (bt_nI hn i).symm)
