/-! ===== 74.cuts: least cuts of arcs and of nodes ===== -/
theorem bt_nIs {s : Nat} {i : Nat} (hi : i < 32) : bt (nI s) i = s.testBit i := by
  unfold bt nI
  rw [Int32.toBitVec_ofNat', BitVec.getLsbD_ofNat, decide_eq_true hi, Bool.true_and]
theorem bt_lt {s n i : Nat} (hs : s < 2 ^ n) (h : bt (nI s) i = true) : i < n := by
  have h32 : i < 32 := by
    rcases Nat.lt_or_ge i 32 with q | q
    · exact q
    · rw [b_big q] at h; cases h
  rw [bt_nIs h32] at h
  apply Classical.byContradiction
  intro q
  rw [Nat.testBit_lt_two_pow (Nat.lt_of_lt_of_le hs (Nat.pow_le_pow_right (by decide) (by omega)))] at h
  cases h
theorem nI_bits {x : Int32} {n : Nat} (hn : n ≤ 14) (h : ∀ i, bt x i = true → i < n) : ∃ s, s < 2 ^ n ∧ x = nI s := by
  have hlt : x.toBitVec.toNat < 2 ^ n := by
    apply Nat.lt_pow_two_of_testBit
    intro i hi
    rw [Bool.eq_false_iff]
    intro q
    have := h i q
    omega
  refine ⟨x.toBitVec.toNat, hlt, b_ext (fun i hi => ?_)⟩
  rw [bt_nIs hi]; rfl
theorem set_of (p : Nat → Prop) {n : Nat} (hn : n ≤ 14) : ∃ s, s < 2 ^ n ∧ ∀ y, bt (nI s) y = true ↔ (y < n ∧ p y) := by
  obtain ⟨x, hx⟩ := bits_of p n (by omega)
  obtain ⟨s, s1, s2⟩ := nI_bits hn (fun i hi => ((hx i).mp hi).1)
  exact ⟨s, s1, by rw [← s2]; exact hx⟩
theorem ouN_ct {F G : Nat → Nat} {pr : Int64} {F' G' : Nat → Nat} {P : Nat → Bool} {ar s : Nat} {C : Nat → Nat} (hL : LK F G pr F' G' P ar) (hC : ArcC F G pr C) : ouN ar P F' G' s = ct C (bt (nI s)) := by
  have har := hL.2.1
  rw [hC]
  unfold ouN
  rw [cn_skip (m := ar) (l := 40) har (fun e he _ => by
    cases q : lb pr e
    · rfl
    · have := hL.1 e q; omega)]
  refine cn_congr (fun e he => ?_)
  obtain ⟨r1, r2, r3⟩ := hL.2.2 e (by omega)
  unfold ouB
  rw [decide_eq_false (by omega), Bool.false_or, r1, r2, r3]
theorem arc_eq {F G : Nat → Nat} {pr : Int64} {F' G' : Nat → Nat} {P : Nat → Bool} {ar n a b fd fw bs : Nat} {C : Nat → Nat} {y : Int32} (hL : LK F G pr F' G' P ar) (hG : GOK (lb pr) F G n) (ha : a < n) (hC : ArcC F G pr C) (hM : MC C a b fd y) (hl : loI ar P F' G' a b fw bs (2 ^ n)) : fd = fw ∧ y = nI bs := by
  have har := hL.2.1
  have hn := hG.1
  obtain ⟨m1, m2, m3, m4, m5⟩ := hM
  have hy : ∀ i, bt y i = true → i < n := by
    have e : ct C (fun i => bt y i && decide (i < n)) = fd := by
      rw [← m3, hC, hC]
      refine cn_congr (fun e he => ?_)
      cases q : lb pr e
      · rfl
      · have := hG.2 e (by omega) q
        rw [decide_eq_true this.1, decide_eq_true this.2.1, Bool.and_true, Bool.and_true]
    intro i hi
    have := m5 (fun i => bt y i && decide (i < n)) (by rw [m1, decide_eq_true ha]; rfl) (by rw [m2]; rfl) e i hi
    exact of_decide_eq_true ((Bool.and_eq_true _ _).mp this).2
  obtain ⟨s, s1, s2⟩ := nI_bits hn hy
  have hok : okS a b s := ⟨by rw [← s2]; exact m1, by rw [← s2]; exact m2⟩
  have hs : ouN ar P F' G' s = fd := by rw [ouN_ct hL hC, ← s2]; exact m3
  rcases hl with ⟨_, _, h3⟩ | ⟨h1, h2, h3, h4⟩
  · exact absurd hok (h3 s s1)
  · have hb : fd ≤ ouN ar P F' G' bs := by rw [ouN_ct hL hC]; exact m4 _ h2.1 h2.2
    have h5 := h4 s s1 hok
    have e1 : fd = ouN ar P F' G' bs := by omega
    refine ⟨by omega, ?_⟩
    have hsub := m5 (bt (nI bs)) h2.1 h2.2 (by rw [← ouN_ct hL hC]; omega)
    have hc : cn (bt (nI bs)) 16 ≤ cn (bt y) 16 := by
      rcases h5 with q | q
      · omega
      · rw [s2]; exact q.2
    apply b_iff
    intro i
    refine ⟨hsub i, fun q => ?_⟩
    apply Classical.byContradiction
    intro z
    have hi := bt_lt h1 q
    have := cn_lt (p := bt y) (q := bt (nI bs)) (n := 16) (fun j _ => hsub j) i (by omega) (Bool.eq_false_iff.mpr z) q
    omega
theorem sm_cn (p : Nat → Bool) : ∀ n, sm (fun v => (p v).toNat) n = cn p n
  | 0 => rfl
  | n + 1 => by simp only [sm, cn]; rw [sm_cn p n]
theorem cn_or2 {p q r : Nat → Bool} : ∀ {n : Nat}, (∀ i, i < n → r i = true → p i = true ∨ q i = true) → cn r n ≤ cn p n + cn q n
  | 0, _ => Nat.zero_le _
  | n + 1, h => by
    have := cn_or2 (n := n) (fun i hi => h i (by omega))
    have hn := h n (by omega)
    simp only [cn]
    cases hr : r n
    · simp only [Bool.toNat_false]; omega
    · rcases hn hr with z | z
      · rw [z]; simp only [Bool.toNat_true]; omega
      · rw [z]; simp only [Bool.toNat_true]; omega
theorem node_le {F G : Nat → Nat} {pr : Int64} {F' G' : Nat → Nat} {P : Nat → Bool} {ar n a b fd t : Nat} {N : Nat → Int32} {C : Nat → Nat} {y : Int32} (hL : LK F G pr F' G' P ar) (hG : GOK (lb pr) F G n) (hN : NR (lb pr) F G N) (ha : a < n) (hb : b < n) (hC : NodC N C) (hM : MC C (a + 14) b fd y) (ht : t < 2 ^ n) (hq : noQ ar P F' G' a b t) : fd ≤ cn (bt (nI t)) 16 := by
  have hn := hG.1
  obtain ⟨q1, q2⟩ := hq
  rw [lk_s hL] at q2
  have hX : ∀ v, bt (nI t) v = true → v < n := fun v => bt_lt ht
  have hXa : ¬ bt (nI t) a = true := fun z => by
    have : bt (nI t &&& (sb a ||| sb b)) a = true := b_and'.mpr ⟨z, b_or'.mpr (Or.inl ((b_sb' (by omega)).mpr rfl))⟩
    rw [q1, b_0] at this; cases this
  have hXb : ¬ bt (nI t) b = true := fun z => by
    have : bt (nI t &&& (sb a ||| sb b)) b = true := b_and'.mpr ⟨z, b_or'.mpr (Or.inr ((b_sb' (by omega)).mpr rfl))⟩
    rw [q1, b_0] at this; cases this
  let R : Nat → Prop := fun v => Rc (gX (lb pr) F G (fun z => bt (nI t) z = true)) a v
  have hRX : ∀ v, R v → ¬ bt (nI t) v = true := fun v hv => hv (fun v => ¬ bt (nI t) v = true) hXa (fun _ _ _ h => h.2.2)
  let S : Nat → Bool := fun i => if i < 14 then dc (R i) || bt (nI t) i else dc (R (i - 14))
  have hS1 : ∀ v, v < 14 → S v = (dc (R v) || bt (nI t) v) := fun v hv => if_pos hv
  have hS2 : ∀ v, S (v + 14) = dc (R v) := fun v => by
    show (if v + 14 < 14 then _ else _) = _
    rw [if_neg (by omega), Nat.add_sub_cancel]
  have hle := hM.2.2.2.1 S (by rw [hS2]; exact dc_t.mpr (Rc.rf _ _)) (by rw [hS1 b (by omega), dc_f.mpr q2, Bool.eq_false_iff.mpr hXb]; rfl)
  refine Nat.le_trans hle ?_
  rw [hC, sm_congr (g := fun v => (bt (nI t) v).toNat) (fun v hv => ?_), sm_cn, cn_skip (m := 14) (l := 16) (by omega) (fun i h1 _ => Bool.eq_false_iff.mpr (fun z => by have := hX i z; omega))]
  · exact Nat.le_refl _
  · unfold lnF
    rw [hS1 v hv, hS2, cn_none (fun w hw => ?_)]
    · by_cases r : R v
      · rw [dc_t.mpr r, Bool.eq_false_iff.mpr (hRX v r)]; rfl
      · rw [dc_f.mpr r]; cases bt (nI t) v <;> rfl
    · rw [hS1 w hw]
      cases h1 : bt (N v) w
      · rfl
      · by_cases r : R v
        · rw [dc_t.mpr r]
          cases h2 : bt (nI t) w
          · have : R w := r.step ⟨(hN v w hv).mp h1, hRX v r, by show ¬ bt (nI t) w = true; rw [h2]; exact Bool.false_ne_true⟩
            rw [dc_t.mpr this]; rfl
          · rw [Bool.or_true]; rfl
        · rw [dc_f.mpr r]; rfl
theorem node_ge {F G : Nat → Nat} {pr : Int64} {F' G' : Nat → Nat} {P : Nat → Bool} {ar n a b fd : Nat} {N : Nat → Int32} {C : Nat → Nat} {y : Int32} (hL : LK F G pr F' G' P ar) (hG : GOK (lb pr) F G n) (hN : NR (lb pr) F G N) (ha : a < n) (hb : b < n) (hab : a ≠ b) (hadj : bt (N a) b = false) (hC : NodC N C) (hM : MC C (a + 14) b fd y) : ∃ t, t < 2 ^ n ∧ noQ ar P F' G' a b t ∧ cn (bt (nI t)) 16 ≤ fd := by
  have hn := hG.1
  obtain ⟨m1, m2, m3, _⟩ := hM
  let cr : Nat → Nat → Bool := fun v w => bt (N v) w && (bt y (v + 14) && !bt y w)
  obtain ⟨t, t1, t2⟩ := set_of (fun v => v ≠ a ∧ v ≠ b ∧ ((bt y v = true ∧ bt y (v + 14) = false) ∨ (∃ w, w < 14 ∧ cr v w = true) ∨ cr a v = true)) hn
  refine ⟨t, t1, ⟨?_, ?_⟩, ?_⟩
  · apply b_ext
    intro i _
    rw [b_0, Bool.eq_false_iff]
    intro q
    have q := b_and'.mp q
    have h1 := ((t2 i).mp q.1).2
    rcases b_or'.mp q.2 with z | z
    · exact h1.1 ((b_sb' (by omega)).mp z)
    · exact h1.2.1 ((b_sb' (by omega)).mp z)
  · rw [lk_s hL]
    intro hr
    have key := hr (fun v => bt y (v + 14) = true ∧ (v = a ∨ ¬ bt (nI t) v = true) ∧ v ≠ b) ⟨m1, Or.inl rfl, hab⟩ (fun v w hv hs => by
      obtain ⟨h1, h2, h3⟩ := hv
      obtain ⟨s1, s2, s3⟩ := hs
      have hvw := hG.ad s1
      have hNv : bt (N v) w = true := (hN v w (by omega)).mpr s1
      have hyw : bt y w = true := by
        apply Classical.byContradiction
        intro z
        have hcr : cr v w = true := by
          show (bt (N v) w && (bt y (v + 14) && !bt y w)) = true
          rw [hNv, h1, Bool.eq_false_iff.mpr z]; rfl
        by_cases va : v = a
        · rw [va] at hcr hNv hvw
          have hwb : w ≠ b := fun e => by rw [e, hadj] at hNv; cases hNv
          exact s3 ((t2 w).mpr ⟨hvw.2.1, fun e => hvw.2.2 e.symm, hwb, Or.inr (Or.inr hcr)⟩)
        · exact s2 ((t2 v).mpr ⟨hvw.1, va, h3, Or.inr (Or.inl ⟨w, by omega, hcr⟩)⟩)
      have hwb : w ≠ b := fun e => by rw [e, m2] at hyw; cases hyw
      refine ⟨?_, Or.inr s3, hwb⟩
      by_cases wa : w = a
      · rw [wa]; exact m1
      · apply Classical.byContradiction
        intro z
        exact s3 ((t2 w).mpr ⟨hvw.2.1, wa, hwb, Or.inl ⟨hyw, Bool.eq_false_iff.mpr z⟩⟩))
    exact key.2.2 rfl
  · rw [← m3, hC, cn_skip (m := 14) (l := 16) (by omega) (fun i h1 _ => Bool.eq_false_iff.mpr (fun z => by have := ((t2 i).mp z).1; omega))]
    let p1 : Nat → Bool := fun v => dc (v ≠ a ∧ ((bt y v = true ∧ bt y (v + 14) = false) ∨ ∃ w, w < 14 ∧ cr v w = true))
    have h1 : cn (bt (nI t)) 14 ≤ cn p1 14 + cn (cr a) 14 := cn_or2 (fun i _ hi => by
      obtain ⟨_, i2, i3, i4⟩ := (t2 i).mp hi
      rcases i4 with z | z | z
      · exact Or.inl (dc_t.mpr ⟨i2, Or.inl z⟩)
      · exact Or.inl (dc_t.mpr ⟨i2, Or.inr z⟩)
      · exact Or.inr z)
    have h2 : ∀ m, cn p1 m + (if a < m then cn (cr a) 14 else 0) ≤ sm (lnF N (bt y)) m := by
      intro m
      induction m with
      | zero => rw [if_neg (Nat.not_lt_zero _)]; exact Nat.le_refl _
      | succ m ih =>
        show cn p1 m + (p1 m).toNat + (if a < m + 1 then cn (cr a) 14 else 0) ≤ sm (lnF N (bt y)) m + lnF N (bt y) m
        have e : lnF N (bt y) m = (bt y m && !bt y (m + 14)).toNat + cn (cr m) 14 := rfl
        by_cases q : a = m
        · have p0 : p1 m = false := dc_f.mpr (fun z => z.1 q.symm)
          rw [if_neg (by omega)] at ih
          rw [if_pos (by omega), p0, e, ← q]
          simp only [Bool.toNat_false]; rw [← q] at ih; omega
        · have ei : (if a < m + 1 then cn (cr a) 14 else 0) = (if a < m then cn (cr a) 14 else 0) := by
            by_cases z : a < m
            · rw [if_pos z, if_pos (by omega)]
            · rw [if_neg z, if_neg (by omega)]
          rw [ei]
          have : (p1 m).toNat ≤ lnF N (bt y) m := by
            cases hp : p1 m
            · exact Nat.zero_le _
            · rw [e]
              rcases (dc_t.mp hp).2 with z | ⟨w, w1, w2⟩
              · rw [z.1, z.2]; simp
              · have := cn_pos (p := cr m) w w1 w2
                simp only [Bool.toNat_true]; omega
          omega
    have h3 := h2 14
    rw [if_pos (by omega)] at h3
    omega
theorem node_eq {F G : Nat → Nat} {pr : Int64} {F' G' : Nat → Nat} {P : Nat → Bool} {ar n a b fd fw : Nat} {N : Nat → Int32} {C : Nat → Nat} {y : Int32} (hL : LK F G pr F' G' P ar) (hG : GOK (lb pr) F G n) (hN : NR (lb pr) F G N) (ha : a < n) (hb : b < n) (hab : a ≠ b) (hadj : bt (N a) b = false) (hC : NodC N C) (hM : MC C (a + 14) b fd y) (hno : noI (noQ ar P F' G' a b) fw (2 ^ n)) : fd = fw := by
  obtain ⟨t, t1, t2, t3⟩ := node_ge hL hG hN ha hb hab hadj hC hM
  rcases hno with ⟨_, h2⟩ | ⟨u, u1, u2, u3, u4⟩
  · exact absurd t2 (h2 t t1)
  · have a1 := node_le hL hG hN ha hb hC hM u1 u2
    have a2 := u4 t t1 t2
    omega
