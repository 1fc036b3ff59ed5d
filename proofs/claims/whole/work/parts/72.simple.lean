/-! ===== 72.simple: part, bridge, falls, block, twin, counts, between: one answer ===== -/
/-- sets of nodes that are closed -/
theorem rE_cl {T : Nat → Bool} {F G : Nat → Nat} {n : Nat} {N : Nat → Int32} {X : Nat → Prop} {w : Int32} (hG : GOK T F G n) (hN : NR T F G N) (hw : ∀ y, bt w y = true → ¬ X y) (hc : ∀ a b, bt w a = true → gX T F G X a b → bt w b = true) {x y : Nat} (hx : bt w x = true) : Rc (rE N w) x y ↔ Rc (gX T F G X) x y := by
  constructor
  · intro h
    exact (h (fun y => bt w y = true ∧ Rc (gX T F G X) x y) ⟨hx, Rc.rf _ _⟩ (fun a b ha he => ⟨he.2.2, ha.2.step ⟨(hN a b he.1).mp he.2.1, hw a ha.1, hw b he.2.2⟩⟩)).2
  · intro h
    exact (h (fun y => bt w y = true ∧ Rc (rE N w) x y) ⟨hx, Rc.rf _ _⟩ (fun a b ha he => by
      have hab := hG.ad he.1
      have h14 := hG.1
      have hb := hc a b ha.1 he
      exact ⟨hb, ha.2.step ⟨by omega, (hN a b (by omega)).mpr he.1, hb⟩⟩)).2
theorem gX_0 {T : Nat → Bool} {F G : Nat → Nat} : gX T F G (fun _ => False) = ad T F G := by
  funext a b
  apply propext
  exact ⟨fun h => h.1, fun h => ⟨h, fun q => q, fun q => q⟩⟩
theorem ski_reach {T : Nat → Bool} {F G : Nat → Nat} {n : Nat} {N Fm : Nat → Int32} {A S : Nat → Int64} {z : Nat} {al : Int32} {br : Int64} (h : SKI T F G n N Fm A S z al br) (x y : Nat) : Rc (rE N al) x y ↔ Rc (ad T F G) x y := by
  rw [rE_gX h.1 h.2.2.1 h.2.1 (fun q => q), gX_0]
theorem GOK_nb {T : Nat → Bool} {F G : Nat → Nat} {n : Nat} {br : Int64} (h : GOK T F G n) : GOK (fun e => T e && !lb br e) F G n := ⟨h.1, fun e h1 h2 => h.2 e h1 ((Bool.and_eq_true _ _).mp h2).1⟩
theorem ski_twin {T : Nat → Bool} {F G : Nat → Nat} {n : Nat} {N Fm : Nat → Int32} {A S : Nat → Int64} {z : Nat} {al : Int32} {br : Int64} (h : SKI T F G n N Fm A S z al br) (x y : Nat) : Rc (rE Fm al) x y ↔ twA T F G x y := by
  rw [rE_gX (GOK_nb h.1) h.2.2.2.2.2.2 h.2.1 (fun q => q), gX_0]
  exact tw_nb (br_iff h)
theorem lsn_16 {p : Nat → Bool} {m n : Nat} (h : ∃ k, k < n ∧ p k = true) (hm : n ≤ m) : lsn p m = lsn p n := by
  obtain ⟨a1, a2, a3⟩ := lsn_spec p n
  obtain ⟨k, k1, k2⟩ := h
  have hlt : lsn p n < n := by
    apply Classical.byContradiction
    intro q
    have := a2 k (by omega)
    rw [this] at k2; cases k2
  exact (lsn_uniq (by omega) a2 (fun _ => a3 hlt)).symm
theorem lsn_c {p q : Nat → Bool} {n : Nat} (h : ∀ i, p i = q i) : lsn p n = lsn q n := by rw [show p = q from funext h]
theorem b_iff {x y : Int32} (h : ∀ i, bt x i = true ↔ bt y i = true) : x = y := b_ext (fun i _ => by
  have := h i
  cases hx : bt x i <;> cases hy : bt y i <;> simp_all)
/-- part -/
theorem part_eq {F G : Nat → Nat} {pr : Int64} {F' G' : Nat → Nat} {P : Nat → Bool} {ar n : Nat} {N Fm : Nat → Int32} {A S : Nat → Int64} {z : Nat} {al : Int32} {br : Int64} (hL : LK F G pr F' G' P ar) (h : SKI (lb pr) F G n N Fm A S z al br) {x : Nat} (hx : x < n) {p1 p2 : Int32} (h1 : SpR N x al p1) (h2 : RcT (lkT ar 0 P (-1) (-1) (nI 0) F' G') F' G' (sb x) p2) : p1 = p2 ∧ (∀ y, bt p1 y = true → y < n) ∧ bt p1 x = true := by
  have hn := h.1.1
  have e1 : ∀ y, bt p1 y = true ↔ Rc (ad (lb pr) F G) x y := fun y => (h1 y).trans (ski_reach h x y)
  refine ⟨b_iff (fun y => ?_), fun y hy => ?_, (e1 x).mpr (Rc.rf _ _)⟩
  · rw [e1 y, h2.one (by omega) y, lk_0 hL]
  · exact (e1 y).mp hy (fun y => y < n) hx (fun a b _ hab => (h.1.ad hab).2.1)
theorem lsn_part {p : Int32} {x n m : Nat} (hn : n ≤ 14) (hx : x < n) (hb : bt p x = true) (hm : 16 ≤ m) : lsn (bt p) m = lsn (bt p) 16 := lsn_16 ⟨x, by omega, hb⟩ hm
/-- falls -/
theorem gX_dec {T : Nat → Bool} {F G : Nat → Nat} {n : Nat} (hG : GOK T F G n) {w : Int32} {x : Nat} {pt : Int32} (hp : ∀ y, bt pt y = true ↔ Rc (ad T F G) x y) (hx : x < 14) (hw : w = pt &&& (sb x ^^^ (-1))) : (∀ y, bt w y = true → ¬ y = x) ∧ ∀ a b, bt w a = true → gX T F G (fun z => z = x) a b → bt w b = true := by
  have hd : ∀ y, bt w y = true ↔ (bt pt y = true ∧ y ≠ x) := fun y => by rw [hw, b_del (by omega), Bool.and_eq_true, decide_eq_true_eq]
  refine ⟨fun y hy => ((hd y).mp hy).2, fun a b ha hab => ?_⟩
  exact (hd b).mpr ⟨(hp b).mpr (((hp a).mp ((hd a).mp ha).1).step hab.1), hab.2.2⟩
theorem falls_eq {F G : Nat → Nat} {pr : Int64} {F' G' : Nat → Nat} {P : Nat → Bool} {ar n : Nat} {N Fm : Nat → Int32} {A S : Nat → Int64} {z : Nat} {al : Int32} {br : Int64} (hL : LK F G pr F' G' P ar) (h : SKI (lb pr) F G n N Fm A S z al br) {x k1 k2 : Nat} (hx : x < n) (h1 : FallsR N al x k1) (h2 : flM ar n P F' G' x k2) : k1 = k2 := by
  obtain ⟨p1, a1, a2⟩ := h1
  obtain ⟨p2, b1, b2⟩ := h2
  have hn := h.1.1
  obtain ⟨e, hlt, _⟩ := part_eq hL h hx a1 b1
  subst e
  have e1 : ∀ y, bt p1 y = true ↔ Rc (ad (lb pr) F G) x y := fun y => (a1 y).trans (ski_reach h x y)
  obtain ⟨c1, c2⟩ := gX_dec h.1 e1 (by omega) rfl
  have e2 : ∀ a, lead N (p1 &&& (sb x ^^^ (-1))) a = ldB (lkT ar 0 P (-1) (-1) (sb x) F' G') F' G' (p1 &&& (sb x ^^^ (-1))) a := fun a => by
    apply dc_c
    unfold ldP ldM
    rw [lk_n hL (by omega)]
    constructor
    · rintro ⟨q1, q2⟩
      exact ⟨q1, fun b hb hwb hr => q2 b hb hwb ((rE_cl h.1 h.2.2.1 c1 c2 hwb).mpr hr)⟩
    · rintro ⟨q1, q2⟩
      exact ⟨q1, fun b hb hwb hr => q2 b hb hwb ((rE_cl h.1 h.2.2.1 c1 c2 hwb).mp hr)⟩
  rw [a2, b2, cn_congr (fun i _ => e2 i)]
  refine (cn_skip (by omega) (fun b hb _ => ?_)).symm
  refine dc_f.mpr (fun q => ?_)
  have := hlt b (b_and'.mp q.1).1
  omega
theorem falls_ex {N : Nat → Int32} {al : Int32} {x : Nat} {pt : Int32} (h : SpR N x al pt) : FallsR N al x (cn (lead N (pt &&& (sb x ^^^ (-1)))) 14) := ⟨pt, h, rfl⟩
/-- any set of nodes below n is some bits -/
theorem bits_of (p : Nat → Prop) : ∀ n, n ≤ 31 → ∃ x : Int32, ∀ y, bt x y = true ↔ (y < n ∧ p y)
  | 0, _ => ⟨0, fun y => by rw [b_0]; exact ⟨fun h => (by cases h), fun h => absurd h.1 (Nat.not_lt_zero _)⟩⟩
  | n + 1, h => by
    obtain ⟨x, hx⟩ := bits_of p n (by omega)
    by_cases q : p n
    · refine ⟨x ||| sb n, fun y => ?_⟩
      rw [b_or', hx y, b_sb' (by omega)]
      constructor
      · rintro (⟨a, b⟩ | a)
        · exact ⟨by omega, b⟩
        · subst a; exact ⟨by omega, q⟩
      · rintro ⟨a, b⟩
        by_cases e : y = n
        · exact Or.inr e
        · exact Or.inl ⟨by omega, b⟩
    · refine ⟨x, fun y => ?_⟩
      rw [hx y]
      constructor
      · rintro ⟨a, b⟩; exact ⟨by omega, b⟩
      · rintro ⟨a, b⟩
        by_cases e : y = n
        · subst e; exact absurd b q
        · exact ⟨by omega, b⟩
theorem SpR_ex {T : Nat → Bool} {F G : Nat → Nat} {n : Nat} {N Fm : Nat → Int32} {A S : Nat → Int64} {z : Nat} {al : Int32} {br : Int64} (h : SKI T F G n N Fm A S z al br) {x : Nat} (hx : x < n) : ∃ pt, SpR N x al pt := by
  have hn := h.1.1
  obtain ⟨pt, hp⟩ := bits_of (fun y => Rc (rE N al) x y) 14 (by omega)
  refine ⟨pt, fun y => (hp y).trans ⟨fun q => q.2, fun q => ⟨?_, q⟩⟩⟩
  have := ((ski_reach h x y).mp q) (fun y => y < n) hx (fun a b _ hab => (h.1.ad hab).2.1)
  omega
theorem RcT_ex {F G : Nat → Nat} {pr : Int64} {F' G' : Nat → Nat} {P : Nat → Bool} {ar n : Nat} {N Fm : Nat → Int32} {A S : Nat → Int64} {z : Nat} {al : Int32} {br : Int64} (hL : LK F G pr F' G' P ar) (h : SKI (lb pr) F G n N Fm A S z al br) {x : Nat} (hx : x < n) {pt : Int32} (hp : SpR N x al pt) : RcT (lkT ar 0 P (-1) (-1) (nI 0) F' G') F' G' (sb x) pt := by
  have hn := h.1.1
  intro y
  rw [hp y, ski_reach h]
  constructor
  · intro q; exact ⟨x, (b_sb' (by omega)).mpr rfl, by rw [lk_0 hL]; exact q⟩
  · rintro ⟨f, f1, f2⟩
    rw [(b_sb' (by omega)).mp f1, lk_0 hL] at f2; exact f2
theorem cut_eq {F G : Nat → Nat} {pr : Int64} {F' G' : Nat → Nat} {P : Nat → Bool} {ar n : Nat} {N Fm : Nat → Int32} {A S : Nat → Int64} {z : Nat} {al : Int32} {br : Int64} (hL : LK F G pr F' G' P ar) (h : SKI (lb pr) F G n N Fm A S z al br) : cn (cutB N al) 14 = cn (cfB ar n P F' G') n := by
  have hn := h.1.1
  rw [cn_skip (p := cutB N al) hn (fun b hb _ => dc_f.mpr (fun q => by have := ((h.2.1 b).mp q.1).1; omega))]
  refine cn_congr (fun x hx => ?_)
  apply dc_c
  obtain ⟨pt, hp⟩ := SpR_ex h hx
  have h1 := falls_ex hp
  have h2 : flM ar n P F' G' x _ := ⟨pt, RcT_ex hL h hx hp, rfl⟩
  have e := falls_eq hL h hx h1 h2
  constructor
  · rintro ⟨_, k, k1, k2⟩
    exact ⟨_, h2, by rw [← falls_eq hL h hx k1 h2]; exact k2⟩
  · rintro ⟨k, k1, k2⟩
    exact ⟨(h.2.1 x).mpr ⟨hx, fun q => q⟩, _, h1, by rw [falls_eq hL h hx h1 k1]; exact k2⟩
theorem parts_eq {F G : Nat → Nat} {pr : Int64} {F' G' : Nat → Nat} {P : Nat → Bool} {ar n : Nat} {N Fm : Nat → Int32} {A S : Nat → Int64} {z : Nat} {al : Int32} {br : Int64} (hL : LK F G pr F' G' P ar) (h : SKI (lb pr) F G n N Fm A S z al br) : cn (lead N al) 14 = cn (ldB (lkT ar 0 P (-1) (-1) (nI 0) F' G') F' G' (sb n - nI 1)) 16 := by
  have hn := h.1.1
  have hal : ∀ y, bt al y = true ↔ bt (sb n - nI 1) y = true := fun y => by
    rw [h.2.1 y, b_all' (by omega), decide_eq_true_eq]; exact ⟨fun q => q.1, fun q => ⟨q, fun z => z⟩⟩
  rw [cn_congr (q := ldB (lkT ar 0 P (-1) (-1) (nI 0) F' G') F' G' (sb n - nI 1)) (fun x _ => by
    apply dc_c
    unfold ldP ldM
    rw [lk_0 hL]
    constructor
    · rintro ⟨q1, q2⟩
      exact ⟨(hal x).mp q1, fun b hb hwb hr => q2 b hb ((hal b).mpr hwb) ((ski_reach h b x).mpr hr)⟩
    · rintro ⟨q1, q2⟩
      exact ⟨(hal x).mpr q1, fun b hb hwb hr => q2 b hb ((hal b).mp hwb) ((ski_reach h b x).mp hr)⟩)]
  refine (cn_skip (by omega) (fun b hb _ => dc_f.mpr (fun q => ?_))).symm
  have := q.1
  rw [b_all' (by omega)] at this
  have := of_decide_eq_true this
  omega
/-- between -/
theorem btw_eq {F G : Nat → Nat} {pr : Int64} {F' G' : Nat → Nat} {P : Nat → Bool} {ar n : Nat} {N Fm : Nat → Int32} {A S : Nat → Int64} {z : Nat} {al : Int32} {br : Int64} (hL : LK F G pr F' G' P ar) (h : SKI (lb pr) F G n N Fm A S z al br) {a b : Nat} : cn (btwB N al a b) 14 = cn (bmB ar P F' G' a b) n := by
  have hn := h.1.1
  rw [cn_skip (p := btwB N al a b) hn (fun b hb _ => dc_f.mpr (fun q => by have := ((h.2.1 b).mp q.1).1; omega))]
  refine cn_congr (fun x hx => ?_)
  apply dc_c
  rw [lk_n hL (by omega)]
  constructor
  · rintro ⟨_, q2, q3, q4⟩
    exact ⟨q2, q3, fun z => q4 ((rE_gX h.1 h.2.2.1 (WX_one hn h.2.1 (by omega)) (fun w => q2 w.symm)).mpr z)⟩
  · rintro ⟨q2, q3, q4⟩
    exact ⟨(h.2.1 x).mpr ⟨hx, fun q => q⟩, q2, q3, fun z => q4 ((rE_gX h.1 h.2.2.1 (WX_one hn h.2.1 (by omega)) (fun w => q2 w.symm)).mp z)⟩
/-- bridges -/
theorem brd_eq {F G : Nat → Nat} {pr : Int64} {F' G' : Nat → Nat} {P : Nat → Bool} {ar n : Nat} {N Fm : Nat → Int32} {A S : Nat → Int64} {z : Nat} {al : Int32} {br : Int64} (hL : LK F G pr F' G' P ar) (h : SKI (lb pr) F G n N Fm A S z al br) {x : Nat} (hx : x < ar) (hp : lb pr x = true) : lb br x = !dc (Rc (ad (lkT ar 0 P (nI x) (-1) (nI 0) F' G') F' G') (F' x) (G' x)) := by
  have har := hL.2.1
  obtain ⟨r1, r2, r3⟩ := hL.2.2 x hx
  rw [lk_e hL (by omega), r1, r2]
  have := br_iff h x
  by_cases q : Rc (gL (lb pr) F G x) (F x) (G x)
  · rw [dc_t.mpr q]
    rw [Bool.not_true, Bool.eq_false_iff]
    exact fun z => (this.mp z).2.2 q
  · rw [dc_f.mpr q]
    exact this.mpr ⟨by omega, hp, q⟩
theorem brc_eq {F G : Nat → Nat} {pr : Int64} {F' G' : Nat → Nat} {P : Nat → Bool} {ar n : Nat} {N Fm : Nat → Int32} {A S : Nat → Int64} {z : Nat} {al : Int32} {br : Int64} (hL : LK F G pr F' G' P ar) (h : SKI (lb pr) F G n N Fm A S z al br) : cn (lb br) 64 = cn (fun e => P e && !dc (Rc (ad (lkT ar 0 P (nI e) (-1) (nI 0) F' G') F' G') (F' e) (G' e))) ar := by
  have har := hL.2.1
  have hb := br_iff h
  rw [cn_skip (m := ar) (by omega) (fun b hb1 _ => by rw [Bool.eq_false_iff]; intro q; have := hL.1 b ((hb b).mp q).2.1; omega)]
  refine cn_congr (fun x hx => ?_)
  rw [(hL.2.2 x hx).2.2]
  cases hp : lb pr x
  · rw [Bool.false_and, Bool.eq_false_iff]
    intro q; have := ((hb x).mp q).2.1; rw [hp] at this; cases this
  · rw [Bool.true_and]; exact brd_eq hL h hx hp
theorem cnt_eq {F G : Nat → Nat} {pr : Int64} {F' G' : Nat → Nat} {P : Nat → Bool} {ar : Nat} (hL : LK F G pr F' G' P ar) : cn (lb pr) 64 = cn P ar := by
  have har := hL.2.1
  rw [cn_skip (m := ar) (by omega) (fun b hb1 _ => by rw [Bool.eq_false_iff]; intro q; have := hL.1 b q; omega)]
  exact cn_congr (fun x hx => (hL.2.2 x hx).2.2.symm)
/-- blocks -/
theorem ab_eq {F G : Nat → Nat} {pr : Int64} {F' G' : Nat → Nat} {P : Nat → Bool} {ar n : Nat} (hL : LK F G pr F' G' P ar) (hG : GOK (lb pr) F G n) {e f : Nat} (he : e < ar) (hf : f < ar) (hT : lb pr e = true) (hTf : lb pr f = true) : abR ar n P F' G' e f ↔ Rc (BL (lb pr) F G) e f := by
  have har := hL.2.1
  have hn := hG.1
  rw [bl_ab hG (by omega) hT (by omega) hTf]
  obtain ⟨e1, e2, _⟩ := hL.2.2 e he
  obtain ⟨f1, f2, _⟩ := hL.2.2 f hf
  unfold abR abG abM
  refine or_congr Iff.rfl (forall_congr' (fun m => ?_))
  constructor
  · intro q hm
    have := q hm
    rw [lk_b hL (by omega) (by omega) (by omega), e1, e2, f1, f2] at this
    exact this
  · intro q hm
    rw [lk_b hL (by omega) (by omega) (by omega), e1, e2, f1, f2]
    exact q hm
theorem blk_in {F G : Nat → Nat} {pr : Int64} {F' G' : Nat → Nat} {P : Nat → Bool} {ar n : Nat} {S : Nat → Int64} {z : Nat} (hL : LK F G pr F' G' P ar) (hG : GOK (lb pr) F G n) (hP : GPI (BL (lb pr) F G) S z) {x : Nat} (hx : x < ar) (hT : lb pr x = true) : ∃ i, i < z ∧ lb (S i) x = true ∧ ∀ f, lb (S i) f = true ↔ (f < ar ∧ P f = true ∧ abR ar n P F' G' x f) := by
  have har := hL.2.1
  obtain ⟨i, i1, i2⟩ := hP.2.2.1 x ⟨by omega, by omega, hT, hT, F x, G x, G x, ends_self F G x, ends_self F G x, Rc.rf _ _⟩
  refine ⟨i, i1, i2, fun f => ?_⟩
  constructor
  · intro q
    have q1 := hP.2.1 i f i1 q
    have hTf := q1.2.2.2.1
    have hf := hL.1 f hTf
    exact ⟨hf, by rw [(hL.2.2 f hf).2.2]; exact hTf, (ab_eq hL hG hx hf hT hTf).mpr ((hP.2.2.2.1 i x f i1 i2).mp q)⟩
  · rintro ⟨hf, hPf, hab⟩
    have hTf : lb pr f = true := by rw [← (hL.2.2 f hf).2.2]; exact hPf
    exact (hP.2.2.2.1 i x f i1 i2).mpr ((ab_eq hL hG hx hf hT hTf).mp hab)
theorem blk_eq {F G : Nat → Nat} {pr : Int64} {F' G' : Nat → Nat} {P : Nat → Bool} {ar n : Nat} {S : Nat → Int64} {z : Nat} (hL : LK F G pr F' G' P ar) (hG : GOK (lb pr) F G n) (hP : GPI (BL (lb pr) F G) S z) {x v : Nat} {y : Int64} (hx : x < ar) (hT : lb pr x = true) (hH : Held S z x y) (hv : v ≤ x ∧ (P v = true ∧ abR ar n P F' G' x v) ∧ ∀ f, f < v → ¬ (P f = true ∧ abR ar n P F' G' x f)) : lsn (lb y) 64 = v := by
  have har := hL.2.1
  obtain ⟨i, i1, i2, i3⟩ := blk_in hL hG hP hx hT
  have hy : y = S i := by
    rcases hH with ⟨j, j1, j2, j3⟩ | ⟨j1, _⟩
    · rw [j3, hP.2.2.2.2 j i x j1 i1 j2 i2]
    · rw [j1 i i1] at i2; cases i2
  subst hy
  refine (lsn_uniq (by omega) (fun j hj => ?_) (fun _ => (i3 v).mpr ⟨by omega, hv.2.1⟩)).symm
  rw [Bool.eq_false_iff]
  exact fun q => hv.2.2 j hj ((i3 j).mp q).2
theorem blc_eq {F G : Nat → Nat} {pr : Int64} {F' G' : Nat → Nat} {P : Nat → Bool} {ar n : Nat} {S : Nat → Int64} {z : Nat} (hL : LK F G pr F' G' P ar) (hG : GOK (lb pr) F G n) (hP : GPI (BL (lb pr) F G) S z) : z = cn (fun e => P e && dc (∀ f, f < e → ¬ (P f = true ∧ abR ar n P F' G' e f))) ar := by
  have har := hL.2.1
  have hz : ∀ i, i < z → ∃ e, lb (S i) e = true ∧ ∀ f, f < e → lb (S i) f = false := by
    intro i hi
    obtain ⟨e, he⟩ := hP.1 i hi
    obtain ⟨a1, a2, a3⟩ := lsn_spec (lb (S i)) 64
    have he41 := (hP.2.1 i e hi he).1
    refine ⟨lsn (lb (S i)) 64, a3 ?_, a2⟩
    apply Classical.byContradiction
    intro q
    rw [a2 e (by omega)] at he; cases he
  have hzz : ∀ i, ∃ e, i < z → lb (S i) e = true ∧ ∀ f, f < e → lb (S i) f = false := fun i => by
    by_cases hi : i < z
    · obtain ⟨e, he⟩ := hz i hi; exact ⟨e, fun _ => he⟩
    · exact ⟨0, fun q => absurd q hi⟩
  have hg : ∃ g : Nat → Nat, ∀ i, i < z → lb (S i) (g i) = true ∧ ∀ f, f < g i → lb (S i) f = false := ⟨fun i => Classical.choose (hzz i), fun i hi => Classical.choose_spec (hzz i) hi⟩
  obtain ⟨g, hg⟩ := hg
  have hpt : ∀ i e, i < z → lb (S i) e = true → e < ar ∧ P e = true ∧ lb pr e = true := fun i e hi he => by
    have q := (hP.2.1 i e hi he).2.2.2.1
    have q1 := hL.1 e q
    exact ⟨q1, by rw [(hL.2.2 e q1).2.2]; exact q, q⟩
  apply Nat.le_antisymm
  · refine cn_inj ar z g (fun i hi => ?_) (fun i j hi hj e => ?_)
    · obtain ⟨q1, q2, q3⟩ := hpt i (g i) hi (hg i hi).1
      refine ⟨q1, ?_⟩
      rw [q2, Bool.true_and]
      refine dc_t.mpr (fun f hf hab => ?_)
      have hTf : lb pr f = true := by rw [← (hL.2.2 f (by omega)).2.2]; exact hab.1
      have := (hP.2.2.2.1 i (g i) f hi (hg i hi).1).mpr ((ab_eq hL hG q1 (by omega) q3 hTf).mp hab.2)
      rw [(hg i hi).2 f hf] at this; cases this
    · exact hP.2.2.2.2 i j (g i) hi hj (hg i hi).1 (by rw [e]; exact (hg j hj).1)
  · have hh : ∀ e, ∃ i, (e < ar ∧ P e = true) → i < z ∧ lb (S i) e = true := fun e => by
      by_cases q : e < ar ∧ P e = true
      · obtain ⟨i, i1, i2, _⟩ := blk_in hL hG hP q.1 (by rw [← (hL.2.2 e q.1).2.2]; exact q.2)
        exact ⟨i, fun _ => ⟨i1, i2⟩⟩
      · exact ⟨0, fun z => absurd z q⟩
    have hh2 : ∃ w : Nat → Nat, ∀ e, (e < ar ∧ P e = true) → w e < z ∧ lb (S (w e)) e = true := ⟨fun e => Classical.choose (hh e), fun e he => Classical.choose_spec (hh e) he⟩
    obtain ⟨w, hw⟩ := hh2
    refine Nat.le_trans (cn_map w z ar (fun _ => true) (fun e he hp => ?_) (fun e f he hf hpe hpf hwe => ?_)) (cn_le _ _)
    · exact ⟨(hw e ⟨he, ((Bool.and_eq_true _ _).mp hp).1⟩).1, rfl⟩
    · have pe := (Bool.and_eq_true _ _).mp hpe
      have pf := (Bool.and_eq_true _ _).mp hpf
      have w1 := hw e ⟨he, pe.1⟩
      have w2 := hw f ⟨hf, pf.1⟩
      have te := hpt (w e) e w1.1 w1.2
      have tf := hpt (w f) f w2.1 w2.2
      rcases Nat.lt_trichotomy e f with q | q | q
      · refine absurd ⟨te.2.1, (ab_eq hL hG hf he tf.2.2 te.2.2).mpr ((hP.2.2.2.1 (w f) f e w2.1 w2.2).mp (by rw [← hwe]; exact w1.2))⟩ (dc_t.mp pf.2 e q)
      · exact q
      · refine absurd ⟨tf.2.1, (ab_eq hL hG he hf te.2.2 tf.2.2).mpr ((hP.2.2.2.1 (w e) e f w1.1 w1.2).mp (by rw [hwe]; exact w2.2))⟩ (dc_t.mp pe.2 f q)
