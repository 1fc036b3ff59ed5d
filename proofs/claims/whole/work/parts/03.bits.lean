/-! ===== 03.bits: sets as bits (bt and its rows began as rows of laws/BITS.to-paste) ===== -/
def bt (x : Int32) (i : Nat) : Bool := x.toBitVec.getLsbD i
theorem b_ext {x y : Int32} (h : ∀ i, i < 32 → bt x i = bt y i) : x = y := Int32.toBitVec_inj.mp (BitVec.eq_of_getLsbD_eq (fun i hi => h i hi))
theorem b_or (x y : Int32) (i : Nat) : bt (x ||| y) i = (bt x i || bt y i) := by unfold bt; rw [Int32.toBitVec_or, BitVec.getLsbD_or]
theorem b_and (x y : Int32) (i : Nat) : bt (x &&& y) i = (bt x i && bt y i) := by unfold bt; rw [Int32.toBitVec_and, BitVec.getLsbD_and]
theorem b_xor (x y : Int32) (i : Nat) : bt (x ^^^ y) i = (bt x i ^^ bt y i) := by unfold bt; rw [Int32.toBitVec_xor, BitVec.getLsbD_xor]
theorem b_big {x : Int32} {i : Nat} (h : 32 ≤ i) : bt x i = false := BitVec.getLsbD_of_ge _ _ h
theorem b_m1 : ∀ i, i < 32 → bt (-1) i = true := by decide +kernel
theorem b_0 (i : Nat) : bt 0 i = false := BitVec.getLsbD_zero
theorem s_l : ∀ n, n < 32 → ((nI n &&& 31).toBitVec.smod 32).toNat = n := by decide +kernel
theorem b_shl (n : Nat) (hn : n < 32) (x : Int32) {i : Nat} (hi : i < 32) : bt (x <<< (nI n &&& 31)) i = (decide (n ≤ i) && bt x (i - n)) := by
  unfold bt
  rw [Int32.toBitVec_shiftLeft]
  show (x.toBitVec <<< ((nI n &&& 31).toBitVec.smod 32).toNat).getLsbD i = _
  rw [s_l n hn, BitVec.getLsbD_shiftLeft]
  rcases Nat.lt_or_ge i n with h | h
  · simp [h, Nat.not_le.mpr h]
  · simp [hi, h, Nat.not_lt.mpr h]
theorem b_sshr (n : Nat) (hn : n < 32) (x : Int32) {i : Nat} (hi : i < 32) : bt (x >>> (nI n &&& 31)) i = if n + i < 32 then bt x (n + i) else bt x 31 := by
  unfold bt
  rw [Int32.toBitVec_shiftRight]
  show (x.toBitVec.sshiftRight ((nI n &&& 31).toBitVec.smod 32).toNat).getLsbD i = _
  rw [s_l n hn, BitVec.getLsbD_sshiftRight, BitVec.msb_eq_getLsbD_last]
  simp [hi]
theorem b_1 : ∀ i, i < 32 → bt (nI 1) i = decide (i = 0) := by decide +kernel
theorem b_bI (b : Bool) : ∀ i, i < 32 → bt (bI b) i = (decide (i = 0) && b) := by cases b <;> decide +kernel
/-- one bit of a set, as the reference asks for it -/
theorem sh1 {x : Int32} {k : Nat} (hk : k < 32) : (x >>> (nI k &&& 31)) &&& nI 1 = bI (bt x k) := by
  apply b_ext
  intro i hi
  rw [b_and, b_sshr k hk x hi, b_1 i hi, b_bI _ i hi]
  rcases Nat.eq_zero_or_pos i with h | h
  · subst h; simp [hk]
  · have : i ≠ 0 := by omega
    simp [this]
/-- the set of one node -/
abbrev sb (k : Nat) : Int32 := nI 1 <<< (nI k &&& 31)
theorem b_sb {k i : Nat} (hk : k < 32) (hi : i < 32) : bt (sb k) i = decide (i = k) := by
  rw [b_shl k hk _ hi]
  rcases Nat.lt_or_ge i k with h | h
  · have : i ≠ k := by omega
    simp [Nat.not_le.mpr h, this]
  · rw [b_1 (i - k) (by omega)]
    by_cases e : i = k
    · simp [e]
    · have : i - k ≠ 0 := by omega
      simp [this, e]
theorem b_not (x : Int32) {i : Nat} (hi : i < 32) : bt (x ^^^ (-1)) i = !bt x i := by rw [b_xor, b_m1 i hi, Bool.xor_true]
def lb (x : Int64) (i : Nat) : Bool := x.toBitVec.getLsbD i
theorem l_ext {x y : Int64} (h : ∀ i, i < 64 → lb x i = lb y i) : x = y := Int64.toBitVec_inj.mp (BitVec.eq_of_getLsbD_eq (fun i hi => h i hi))
theorem l_or (x y : Int64) (i : Nat) : lb (x ||| y) i = (lb x i || lb y i) := by unfold lb; rw [Int64.toBitVec_or, BitVec.getLsbD_or]
theorem l_and (x y : Int64) (i : Nat) : lb (x &&& y) i = (lb x i && lb y i) := by unfold lb; rw [Int64.toBitVec_and, BitVec.getLsbD_and]
theorem l_xor (x y : Int64) (i : Nat) : lb (x ^^^ y) i = (lb x i ^^ lb y i) := by unfold lb; rw [Int64.toBitVec_xor, BitVec.getLsbD_xor]
theorem l_big {x : Int64} {i : Nat} (h : 64 ≤ i) : lb x i = false := BitVec.getLsbD_of_ge _ _ h
theorem l_m1 : ∀ i, i < 64 → lb (-1) i = true := by decide +kernel
theorem l_0 (i : Nat) : lb 0 i = false := BitVec.getLsbD_zero
theorem l_1 : ∀ i, i < 64 → lb 1 i = decide (i = 0) := by decide +kernel
theorem l_not (x : Int64) {i : Nat} (hi : i < 64) : lb (x ^^^ (-1)) i = !lb x i := by rw [l_xor, l_m1 i hi, Bool.xor_true]
abbrev lsb (k : Nat) : Int64 := 1 <<< ((nI k).toInt64 &&& 63)
theorem s_ll : ∀ k, k < 64 → (((nI k).toInt64 &&& 63).toBitVec.smod 64).toNat = k := by decide +kernel
theorem s_lu : ∀ k, k < 64 → (((nI k).toInt64.toUInt64 &&& Int64.toUInt64 63).toBitVec % 64).toNat = k := by decide +kernel
theorem l_shl (k : Nat) (hk : k < 64) (x : Int64) {i : Nat} (hi : i < 64) : lb (x <<< ((nI k).toInt64 &&& 63)) i = (decide (k ≤ i) && lb x (i - k)) := by
  unfold lb
  rw [Int64.toBitVec_shiftLeft]
  show (x.toBitVec <<< (((nI k).toInt64 &&& 63).toBitVec.smod 64).toNat).getLsbD i = _
  rw [s_ll k hk, BitVec.getLsbD_shiftLeft]
  rcases Nat.lt_or_ge i k with h | h
  · simp [h, Nat.not_le.mpr h]
  · simp [hi, h, Nat.not_lt.mpr h]
theorem l_lsb {k i : Nat} (hk : k < 64) (hi : i < 64) : lb (lsb k) i = decide (i = k) := by
  rw [l_shl k hk _ hi]
  rcases Nat.lt_or_ge i k with h | h
  · have : i ≠ k := by omega
    simp [Nat.not_le.mpr h, this]
  · rw [l_1 (i - k) (by omega)]
    by_cases e : i = k
    · simp [e]
    · have : i - k ≠ 0 := by omega
      simp [this, e]
theorem l_ushr (k : Nat) (hk : k < 64) (x : Int64) (i : Nat) : lb ((x.toUInt64 >>> ((nI k).toInt64.toUInt64 &&& Int64.toUInt64 63)).toInt64) i = lb x (k + i) := by
  show (x.toUInt64 >>> ((nI k).toInt64.toUInt64 &&& Int64.toUInt64 63)).toBitVec.getLsbD i = x.toUInt64.toBitVec.getLsbD (k + i)
  rw [UInt64.toBitVec_shiftRight]
  show (x.toUInt64.toBitVec >>> (((nI k).toInt64.toUInt64 &&& Int64.toUInt64 63).toBitVec % 64).toNat).getLsbD i = _
  rw [s_lu k hk, BitVec.getLsbD_ushiftRight]
/-- hasBit's own test -/
theorem l_bit (x : Int64) {k : Nat} (hk : k < 64) : ((x.toUInt64 >>> ((nI k).toInt64.toUInt64 &&& Int64.toUInt64 63)).toInt64 &&& 1) = 0 ↔ lb x k = false := by
  constructor
  · intro h
    have h0 : lb ((x.toUInt64 >>> ((nI k).toInt64.toUInt64 &&& Int64.toUInt64 63)).toInt64 &&& 1) 0 = false := by rw [h]; exact l_0 0
    rw [l_and, l_ushr k hk, l_1 0 (by decide)] at h0
    simpa using h0
  · intro h
    apply l_ext
    intro i hi
    rw [l_and, l_ushr k hk, l_1 i hi, l_0]
    by_cases e : i = 0
    · subst e; simp [h]
    · simp [e]
theorem lb_i2l (x : Int32) {k : Nat} (hk : k < 32) : lb x.toInt64 k = bt x k := by
  unfold lb bt
  show (x.toBitVec.signExtend 64).getLsbD k = _
  rw [BitVec.getLsbD_signExtend]
  simp [hk, Nat.lt_of_lt_of_le hk (by decide : 32 ≤ 64)]
/-- rows of numbers, of truths -/
abbrev nF (F : Nat → Nat) : Nat → Int32 := fun k => nI (F k)
abbrev bF (F : Nat → Bool) : Nat → Int32 := fun k => bI (F k)
theorem nF_up (F : Nat → Nat) (k x : Nat) : va_up (nF F) k (nI x) = nF (va_up F k x) := by
  funext j; by_cases h : j = k <;> simp [va_up, nF, h]
theorem bF_up (F : Nat → Bool) (k : Nat) (x : Bool) : va_up (bF F) k (bI x) = bF (va_up F k x) := by
  funext j; by_cases h : j = k <;> simp [va_up, bF, h]
theorem nI_dec {n : Nat} (h : 0 < n) : nI n + (-1) = nI (n - 1) := sb_m1 h
theorem lg_cmp_0 (x y : Int64) : lg_cmp x y = 0 ↔ x = y := by
  constructor
  · intro h
    have h1 : lg_cmp x y ≤ 0 := by rw [h]; exact Int32.le_refl 0
    have h2 : 0 ≤ lg_cmp x y := by rw [h]; exact Int32.le_refl 0
    have a := (lg_cmp_le x y).mp h1
    have b := (lg_cmp_ge x y).mp h2
    exact Int64.le_antisymm a b
  · intro h
    subst h
    unfold lg_cmp
    have : ¬ x > x := Int64.lt_irrefl
    simp
section LC
variable {p : Program} {l : Launch} {e : Env} {R : Room} {s : State} {m : MethodId} {args : Array Value} {below : List Frame} {meth : Method} {c : Code} {H : Heap} {locs : List Loc} {cells slots : Nat} {Q : State → Prop}
variable {cc : ByteArray} {pc : Nat} {ls : Array Slot} {rest : List Value}
theorem x_lcmp_eq (hexec : p.tables.exec = Jvm.exec) (hb : c.code = cc) {x y : Int64} {off : Int} {tgt : Nat} (hdg : decode cc pc = .ok (.lcmp, 1)) (hdg2 : decode cc (pc + 1) = .ok (.ifCond .eq off, 3)) (ht : ((pc + 1 : Nat) : Int) + off = (tgt : Int))
    (kt : x = y → W p l e R s m args below meth c H locs cells slots Q (F0 m tgt ls rest)) (kf : ¬ x = y → W p l e R s m args below meth c H locs cells slots Q (F0 m (pc + 1 + 3) ls rest)) : W p l e R s m args below meth c H locs cells slots Q (F0 m pc ls (.long y :: .long x :: rest)) :=
  W.lcmp hexec hb hdg (lv_if_eq hexec hb hdg2 ht (fun h => kt ((lg_cmp_0 x y).mp h)) (fun h => kf fun q => h ((lg_cmp_0 x y).mpr q)))
theorem x_lcmp_ne (hexec : p.tables.exec = Jvm.exec) (hb : c.code = cc) {x y : Int64} {off : Int} {tgt : Nat} (hdg : decode cc pc = .ok (.lcmp, 1)) (hdg2 : decode cc (pc + 1) = .ok (.ifCond .ne off, 3)) (ht : ((pc + 1 : Nat) : Int) + off = (tgt : Int))
    (kt : ¬ x = y → W p l e R s m args below meth c H locs cells slots Q (F0 m tgt ls rest)) (kf : x = y → W p l e R s m args below meth c H locs cells slots Q (F0 m (pc + 1 + 3) ls rest)) : W p l e R s m args below meth c H locs cells slots Q (F0 m pc ls (.long y :: .long x :: rest)) :=
  W.lcmp hexec hb hdg (lv_if_ne hexec hb hdg2 ht (fun h => kt fun q => h ((lg_cmp_0 x y).mpr q)) (fun h => kf ((lg_cmp_0 x y).mp h)))
/-- a bit against 1, two bits against each other -/
theorem x_cmp1_ne (hexec : p.tables.exec = Jvm.exec) (hb : c.code = cc) {b : Bool} {off : Int} {tgt : Nat} (hdg : decode cc pc = .ok (.if_icmp .ne off, 3)) (ht : (pc : Int) + off = (tgt : Int))
    (kt : b = false → W p l e R s m args below meth c H locs cells slots Q (F0 m tgt ls rest)) (kf : b = true → W p l e R s m args below meth c H locs cells slots Q (F0 m (pc + 3) ls rest)) : W p l e R s m args below meth c H locs cells slots Q (F0 m pc ls (.int (nI 1) :: .int (bI b) :: rest)) :=
  lv_icmp_ne hexec hb hdg ht (fun h => kt (by cases b; rfl; exact absurd rfl h)) (fun h => kf (by cases b; exact absurd h (by decide); rfl))
theorem x_cmp1_eq (hexec : p.tables.exec = Jvm.exec) (hb : c.code = cc) {b : Bool} {off : Int} {tgt : Nat} (hdg : decode cc pc = .ok (.if_icmp .eq off, 3)) (ht : (pc : Int) + off = (tgt : Int))
    (kt : b = true → W p l e R s m args below meth c H locs cells slots Q (F0 m tgt ls rest)) (kf : b = false → W p l e R s m args below meth c H locs cells slots Q (F0 m (pc + 3) ls rest)) : W p l e R s m args below meth c H locs cells slots Q (F0 m pc ls (.int (nI 1) :: .int (bI b) :: rest)) :=
  lv_icmp_eq hexec hb hdg ht (fun h => kt (by cases b; exact absurd h (by decide); rfl)) (fun h => kf (by cases b; rfl; exact absurd rfl h))
theorem x_cmpb_eq (hexec : p.tables.exec = Jvm.exec) (hb : c.code = cc) {a b : Bool} {off : Int} {tgt : Nat} (hdg : decode cc pc = .ok (.if_icmp .eq off, 3)) (ht : (pc : Int) + off = (tgt : Int))
    (kt : a = b → W p l e R s m args below meth c H locs cells slots Q (F0 m tgt ls rest)) (kf : a ≠ b → W p l e R s m args below meth c H locs cells slots Q (F0 m (pc + 3) ls rest)) : W p l e R s m args below meth c H locs cells slots Q (F0 m pc ls (.int (bI b) :: .int (bI a) :: rest)) :=
  lv_icmp_eq hexec hb hdg ht (fun h => kt (by cases a <;> cases b <;> first | rfl | exact absurd h (by decide))) (fun h => kf fun q => h (by rw [q]))
theorem x_cmpb_ne (hexec : p.tables.exec = Jvm.exec) (hb : c.code = cc) {a b : Bool} {off : Int} {tgt : Nat} (hdg : decode cc pc = .ok (.if_icmp .ne off, 3)) (ht : (pc : Int) + off = (tgt : Int))
    (kt : a ≠ b → W p l e R s m args below meth c H locs cells slots Q (F0 m tgt ls rest)) (kf : a = b → W p l e R s m args below meth c H locs cells slots Q (F0 m (pc + 3) ls rest)) : W p l e R s m args below meth c H locs cells slots Q (F0 m pc ls (.int (bI b) :: .int (bI a) :: rest)) :=
  lv_icmp_ne hexec hb hdg ht (fun h => kt fun q => h (by rw [q])) (fun h => kf (by cases a <;> cases b <;> first | rfl | exact absurd h (by decide)))
end LC
