/-! ===== 81.together: together, splits: one answer ===== -/
section TG
variable {F G F' G' : Nat → Nat} {pr : Int64} {P : Nat → Bool} {ar n : Nat} {N Fm : Nat → Int32} {A Se : Nat → Int64} {z : Nat} {al : Int32} {br : Int64} {x i0 : Nat}
theorem blk_at (hL : LK F G pr F' G' P ar) (h : SKI (lb pr) F G n N Fm A Se z al br) (hx : x < ar) (hT : lb pr x = true) (hi0 : i0 < z) (he : lb (Se i0) x = true) : ∀ f, lb (Se i0) f = true ↔ (f < ar ∧ P f = true ∧ abR ar n P F' G' x f) := by
  have hP := h.2.2.2.2.1
  obtain ⟨i, i1, i2, i3⟩ := blk_in hL h.1 hP hx hT
  have : i0 = i := hP.2.2.2.2 i0 i x hi0 i1 he i2
  subst this
  exact i3
theorem blk_ex (hL : LK F G pr F' G' P ar) (h : SKI (lb pr) F G n N Fm A Se z al br) (hx : x < ar) (hT : lb pr x = true) : ∃ i, i < z ∧ lb (Se i) x = true := by
  obtain ⟨i, i1, i2, i3⟩ := blk_in hL h.1 h.2.2.2.2.1 hx hT
  exact ⟨i, i1, i2⟩
theorem blk_cn (hL : LK F G pr F' G' P ar) (h : SKI (lb pr) F G n N Fm A Se z al br) (hx : x < ar) (hT : lb pr x = true) (hi0 : i0 < z) (he : lb (Se i0) x = true) : cn (lb (Se i0)) 64 = cn (fun f => dc (P f = true ∧ abR ar n P F' G' x f)) ar := by
  have har := hL.2.1
  have hb := blk_at hL h hx hT hi0 he
  rw [cn_skip (m := ar) (by omega) (fun b hb1 _ => by rw [Bool.eq_false_iff]; intro q; have := ((hb b).mp q).1; omega)]
  refine cn_congr (fun e hE => (dc_b ?_).symm)
  rw [hb e]
  exact ⟨fun q => q.2, fun q => ⟨hE, q⟩⟩
variable {Pi Gd : Nat → Int64} {Bo : Nat → Nat} {pc gc : Nat} {Ob Sp : Nat → Nat} {bz sz : Nat} {D : Nat → Bool}
theorem tog_core (hL : LK F G pr F' G' P ar) (h : SKI (lb pr) F G n N Fm A Se z al br) (hx : x < ar) (hT : lb pr x = true) (hi0 : i0 < z) (he : lb (Se i0) x = true) (hPC : PCE A (Se i0) Pi Bo pc 14 15) (hfg : fgI Pi Bo pc (Se i0) Gd gc pc) (hO : lbI (fun f => P f = true ∧ abR ar n P F' G' x f) Ob bz ar) (hbz : bz ≤ 14) (hS : lbI (spQ F' G' Ob bz) Sp sz (2 ^ bz - 1)) (hD : gdO bz Sp D sz sz) :
    gc = cn D sz ∧ (∀ e, lb (Se i0) e = true ↔ ∃ k, k < bz ∧ Ob k = e) ∧ ∀ q1 q2, q1 < bz → q2 < bz → ((∀ k, k < gc → lb (Gd k) (Ob q1) = lb (Gd k) (Ob q2)) ↔ tgR Sp D sz q1 q2) := by
  have har := hL.2.1
  have hb := blk_at hL h hx hT hi0 he
  have hG := h.1
  have hP := h.2.2.2.2.1
  have hRc : ∀ f, lb (Se i0) f = true ↔ Rc (BL (lb pr) F G) x f := fun f => hP.2.2.2.1 i0 x f hi0 he
  have hrow : ∀ e, lb (Se i0) e = true ↔ ∃ k, k < bz ∧ Ob k = e := fun e => by
    constructor
    · intro q
      obtain ⟨q1, q2⟩ := (hb e).mp q
      exact hO.2.2.1 e q1 q2
    · rintro ⟨k, k1, k2⟩
      have := hO.1 k k1
      rw [k2] at this
      exact (hb e).mpr this
  have hTe : ∀ e, Rc (BL (lb pr) F G) x e → lb pr e = true := fun e q => (hP.2.1 i0 e hi0 ((hRc e).mpr q)).2.2.2.1
  have hR : RowO (fun f => Rc (BL (lb pr) F G) x f) Ob bz := by
    refine ⟨fun e => (hRc e).symm.trans (hrow e), fun k l hk hl e => ?_, hbz, ?_⟩
    · rcases Nat.lt_trichotomy k l with q | q | q
      · have := hO.2.1 k l q hl; omega
      · exact q
      · have := hO.2.1 l k q hk; omega
    · obtain ⟨k, k1, _⟩ := (hrow x).mp he; omega
  have hB : BkO (fun f => Rc (BL (lb pr) F G) x f) F G (Se i0) := by
    refine ⟨hRc, fun e q => ?_⟩
    have h1 := hTe e q
    have h2 := hL.1 e h1
    have h3 := hG.2 e (by omega) h1
    have h4 := hG.1
    exact ⟨by omega, by omega, by omega, h3.2.2⟩
  have h2 := bl_B2 hG (e0 := x) (by omega) hT
  obtain ⟨pa, pb, hPI⟩ := hPC
  have hPA := PCA_of h.2.2.2.1 hB hTe h2 hPI
  have hF : ∀ e, Rc (BL (lb pr) F G) x e → F' e = F e ∧ G' e = G e := fun e q => by
    have := hL.2.2 e (hL.1 e (hTe e q))
    exact ⟨this.1, this.2.1⟩
  have := spl_main hR hB h2 hPA hF hfg hS hD
  exact ⟨this.1, hrow, this.2⟩
/-- what the class shows to be held together with x -/
theorem jw_tg (hL : LK F G pr F' G' P ar) (h : SKI (lb pr) F G n N Fm A Se z al br) (hx : x < ar) (hT : lb pr x = true) (hi0 : i0 < z) (he : lb (Se i0) x = true) (hPC : PCE A (Se i0) Pi Bo pc 14 15) (hfg : fgI Pi Bo pc (Se i0) Gd gc pc) (hO : lbI (fun f => P f = true ∧ abR ar n P F' G' x f) Ob bz ar) (hbz : bz ≤ 14) (hS : lbI (spQ F' G' Ob bz) Sp sz (2 ^ bz - 1)) (hD : gdO bz Sp D sz sz) {w : Int64} (hw : jwI Gd (Se i0) x w gc) {q1 : Nat} (h1 : q1 < bz) (hq1 : Ob q1 = x) : (∀ e, lb w e = true → ∃ k, k < bz ∧ Ob k = e) ∧ ∀ k, k < bz → (lb w (Ob k) = true ↔ tgR Sp D sz q1 k) := by
  obtain ⟨_, c2, c3⟩ := tog_core hL h hx hT hi0 he hPC hfg hO hbz hS hD
  have har := hL.2.1
  refine ⟨fun e q => (c2 e).mp ((hw e (lt64 q)).mp q).1, fun k hk => ?_⟩
  have hOk := (hO.1 k hk).1
  rw [hw (Ob k) (by omega), ← c3 q1 k h1 hk, hq1]
  exact ⟨fun q j hj => (q.2 j hj).symm, fun q => ⟨(c2 _).mpr ⟨k, hk, rfl⟩, fun j hj => (q j hj).symm⟩⟩
theorem tog_eq (hL : LK F G pr F' G' P ar) (h : SKI (lb pr) F G n N Fm A Se z al br) (hx : x < ar) (hT : lb pr x = true) (hi0 : i0 < z) (he : lb (Se i0) x = true) (hPC : PCE A (Se i0) Pi Bo pc 14 15) (hfg : fgI Pi Bo pc (Se i0) Gd gc pc) (hO : lbI (fun f => P f = true ∧ abR ar n P F' G' x f) Ob bz ar) (hbz : bz ≤ 14) (hS : lbI (spQ F' G' Ob bz) Sp sz (2 ^ bz - 1)) (hD : gdO bz Sp D sz sz) {w : Int64} (hw : jwI Gd (Se i0) x w gc) {q1 q2 y : Nat} (h1 : q1 < bz) (hq1 : Ob q1 = x) (h2 : q2 < bz) (hq2 : Ob q2 = y) : lb w y = dc (tgR Sp D sz q1 q2) := by
  obtain ⟨_, d2⟩ := jw_tg hL h hx hT hi0 he hPC hfg hO hbz hS hD hw h1 hq1
  refine (dc_b ?_).symm
  rw [← hq2]
  exact d2 q2 h2
theorem sp2_eq (hL : LK F G pr F' G' P ar) (h : SKI (lb pr) F G n N Fm A Se z al br) (hx : x < ar) (hT : lb pr x = true) (hi0 : i0 < z) (he : lb (Se i0) x = true) (hPC : PCE A (Se i0) Pi Bo pc 14 15) (hfg : fgI Pi Bo pc (Se i0) Gd gc pc) (hO : lbI (fun f => P f = true ∧ abR ar n P F' G' x f) Ob bz ar) (hbz : bz ≤ 14) (hS : lbI (spQ F' G' Ob bz) Sp sz (2 ^ bz - 1)) (hD : gdO bz Sp D sz sz) {w : Int64} (hw : jwI Gd (Se i0) x w gc) {q1 : Nat} (h1 : q1 < bz) (hq1 : Ob q1 = x) : cn (lb w) 64 = cn (fun k => dc (tgR Sp D sz q1 k)) bz := by
  obtain ⟨d1, d2⟩ := jw_tg hL h hx hT hi0 he hPC hfg hO hbz hS hD hw h1 hq1
  have har := hL.2.1
  refine Nat.le_antisymm ?_ ?_
  · refine cn_map (p := lb w) (fun e => if q : lb w e = true then Classical.choose (d1 e q) else 0) bz 64 (fun k => dc (tgR Sp D sz q1 k)) (fun e _ q => ?_) (fun e f _ _ q r hef => ?_)
    · simp only [dif_pos q]
      have c := Classical.choose_spec (d1 e q)
      exact ⟨c.1, dc_t.mpr ((d2 _ c.1).mp (by rw [c.2]; exact q))⟩
    · simp only [dif_pos q, dif_pos r] at hef
      have c := Classical.choose_spec (d1 e q)
      have d := Classical.choose_spec (d1 f r)
      rw [← c.2, ← d.2, hef]
  · refine cn_map (p := fun k => dc (tgR Sp D sz q1 k)) Ob 64 bz (lb w) (fun k hk q => ⟨by have := (hO.1 k hk).1; omega, (d2 k hk).mpr (dc_t.mp q)⟩) (fun k l hk hl _ _ e => ?_)
    rcases Nat.lt_trichotomy k l with q | q | q
    · have := hO.2.1 k l q hl; omega
    · exact q
    · have := hO.2.1 l k q hk; omega
theorem sp3_eq (hL : LK F G pr F' G' P ar) (h : SKI (lb pr) F G n N Fm A Se z al br) (hx : x < ar) (hT : lb pr x = true) (hi0 : i0 < z) (he : lb (Se i0) x = true) (hPC : PCE A (Se i0) Pi Bo pc 14 15) (hfg : fgI Pi Bo pc (Se i0) Gd gc pc) (hO : lbI (fun f => P f = true ∧ abR ar n P F' G' x f) Ob bz ar) (hbz : bz ≤ 14) (hS : lbI (spQ F' G' Ob bz) Sp sz (2 ^ bz - 1)) (hD : gdO bz Sp D sz sz) {w : Int64} (hw : jwI Gd (Se i0) x w gc) {q1 : Nat} (h1 : q1 < bz) (hq1 : Ob q1 = x) {r : Int32} (hr : lwI (tgR Sp D sz q1) Ob r bz) : nI (lsn (lb w) 64) = r := by
  obtain ⟨d1, d2⟩ := jw_tg hL h hx hT hi0 he hPC hfg hO hbz hS hD hw h1 hq1
  have har := hL.2.1
  rcases hr with ⟨_, hn⟩ | ⟨k, k1, k2, k3, k4⟩
  · exact absurd (fun _ _ _ => rfl) (hn q1 h1)
  · have hk := (hO.1 k k1).1
    suffices e : Ob k = lsn (lb w) 64 by rw [k3, ← e]
    refine lsn_uniq (by omega) (fun j hj => ?_) (fun _ => (d2 k k1).mpr k2)
    rw [Bool.eq_false_iff]
    intro q
    obtain ⟨l, l1, l2⟩ := d1 j q
    subst l2
    refine k4 l ?_ ((d2 l l1).mp q)
    rcases Nat.lt_trichotomy k l with e | e | e
    · have := hO.2.1 k l e l1; omega
    · rw [e] at hj; omega
    · exact e
end TG
