/-! ===== 75.wornu: what is left is one set ===== -/
def wsym (S : WSt) : Prop := (∀ a b, S.2 a b = S.2 b a) ∧ (∀ a b, S.2 a b = true → S.1 a = true ∧ S.1 b = true ∧ a ≠ b) ∧ ∀ a, S.1 a = true → a < 32
theorem rmv_sym {S : WSt} (h : wsym S) (v : Nat) : wsym (rmv v S) := by
  obtain ⟨h1, h2, h3⟩ := h
  refine ⟨fun a b => ?_, fun a b hab => ?_, fun a ha => ?_⟩
  · unfold rmv
    simp only []
    rw [h1 a b, Bool.and_comm (decide (a ≠ v)), Bool.and_comm (S.2 v a), decide_eq_decide.mpr (show a ≠ b ↔ b ≠ a from ⟨fun q z => q z.symm, fun q z => q z.symm⟩)]
  · unfold rmv at hab ⊢
    simp only [Bool.and_eq_true, Bool.or_eq_true, decide_eq_true_eq] at hab ⊢
    obtain ⟨⟨q1, q2⟩, q3 | ⟨q3, q4, q5⟩⟩ := hab
    · have := h2 a b q3; exact ⟨⟨this.1, q1⟩, ⟨this.2.1, q2⟩, this.2.2⟩
    · exact ⟨⟨(h2 v a q4).2.1, q1⟩, ⟨(h2 v b q5).2.1, q2⟩, q3⟩
  · unfold rmv at ha
    simp only [Bool.and_eq_true] at ha
    exact h3 a ha.1
theorem rmv_comm {S : WSt} (h : wsym S) {u v : Nat} (huv : u ≠ v) : rmv v (rmv u S) = rmv u (rmv v S) := by
  obtain ⟨h1, h2, h3⟩ := h
  unfold rmv
  refine Prod.ext ?_ ?_
  · funext a
    simp only []
    rw [Bool.and_assoc, Bool.and_assoc, Bool.and_comm (decide (a ≠ u))]
  · funext a b
    rw [Bool.eq_iff_iff]
    simp only [Bool.and_eq_true, Bool.or_eq_true, decide_eq_true_eq]
    have s1 : S.2 u v = S.2 v u := h1 u v
    constructor
    · rintro ⟨⟨a1, a2⟩, ⟨⟨b1, b2⟩, b3⟩ | ⟨b1, ⟨⟨b2, b3⟩, b4⟩, ⟨b5, b6⟩, b7⟩⟩
      · refine ⟨⟨b1, b2⟩, ?_⟩
        rcases b3 with z | ⟨z1, z2, z3⟩
        · exact Or.inl ⟨⟨a1, a2⟩, Or.inl z⟩
        · exact Or.inr ⟨z1, ⟨⟨huv, a1⟩, Or.inl z2⟩, ⟨huv, a2⟩, Or.inl z3⟩
      · refine ⟨⟨b3, b6⟩, ?_⟩
        rcases b4 with z | ⟨z1, z2, z3⟩ <;> rcases b7 with w | ⟨w1, w2, w3⟩
        · exact Or.inl ⟨⟨a1, a2⟩, Or.inr ⟨b1, z, w⟩⟩
        · exact Or.inr ⟨b1, ⟨⟨huv, a1⟩, Or.inr ⟨fun q => b3 q.symm, by rw [← s1]; exact w2, z⟩⟩, ⟨huv, a2⟩, Or.inl w3⟩
        · exact Or.inr ⟨b1, ⟨⟨huv, a1⟩, Or.inl z3⟩, ⟨huv, a2⟩, Or.inr ⟨fun q => b6 q.symm, by rw [← s1]; exact z2, w⟩⟩
        · exact Or.inr ⟨b1, ⟨⟨huv, a1⟩, Or.inl z3⟩, ⟨huv, a2⟩, Or.inl w3⟩
    · have hvu : v ≠ u := fun q => huv q.symm
      rintro ⟨⟨a1, a2⟩, ⟨⟨b1, b2⟩, b3⟩ | ⟨b1, ⟨⟨b2, b3⟩, b4⟩, ⟨b5, b6⟩, b7⟩⟩
      · refine ⟨⟨b1, b2⟩, ?_⟩
        rcases b3 with z | ⟨z1, z2, z3⟩
        · exact Or.inl ⟨⟨a1, a2⟩, Or.inl z⟩
        · exact Or.inr ⟨z1, ⟨⟨hvu, a1⟩, Or.inl z2⟩, ⟨hvu, a2⟩, Or.inl z3⟩
      · refine ⟨⟨b3, b6⟩, ?_⟩
        rcases b4 with z | ⟨z1, z2, z3⟩ <;> rcases b7 with w | ⟨w1, w2, w3⟩
        · exact Or.inl ⟨⟨a1, a2⟩, Or.inr ⟨b1, z, w⟩⟩
        · exact Or.inr ⟨b1, ⟨⟨hvu, a1⟩, Or.inr ⟨fun q => b3 q.symm, by rw [s1]; exact w2, z⟩⟩, ⟨hvu, a2⟩, Or.inl w3⟩
        · exact Or.inr ⟨b1, ⟨⟨hvu, a1⟩, Or.inl z3⟩, ⟨hvu, a2⟩, Or.inr ⟨fun q => b6 q.symm, by rw [s1]; exact z2, w⟩⟩
        · exact Or.inr ⟨b1, ⟨⟨hvu, a1⟩, Or.inl z3⟩, ⟨hvu, a2⟩, Or.inl w3⟩
/-- a thin node stays thin when another goes -/
theorem thn_st {S : WSt} (h : wsym S) {u v : Nat} (huv : u ≠ v) (hu : thn S u) (hv : thn S v) : thn (rmv u S) v := by
  obtain ⟨h1, h2, h3⟩ := h
  refine ⟨?_, ?_⟩
  · show (S.1 v && decide (v ≠ u)) = true
    rw [hv.1, decide_eq_true (p := v ≠ u) (fun q => huv q.symm)]; rfl
  · have hvu : v ≠ u := fun q => huv q.symm
    have e : ∀ y, (rmv u S).2 v y = true ↔ (y ≠ u ∧ (S.2 v y = true ∨ (v ≠ y ∧ S.2 u v = true ∧ S.2 u y = true))) := fun y => by
      unfold rmv
      simp only [Bool.and_eq_true, Bool.or_eq_true, decide_eq_true_eq]
      exact ⟨fun q => ⟨q.1.2, q.2⟩, fun q => ⟨⟨hvu, q.1⟩, q.2⟩⟩
    cases c : S.2 u v
    · refine Nat.le_trans (cn_mono (fun i _ hi => ?_)) hv.2
      rcases ((e i).mp hi).2 with q | q
      · exact q
      · rw [c] at q; cases q.2.1
    · -- u is a neighbour: it goes, its other neighbour may come
      have cu := h1 u v ▸ c
      have hu32 := h3 u hu.1
      have d1 := cn_del (p := S.2 v) (n := 32) u hu32 cu
      have hv32 := h3 v hv.1
      have d2 := cn_del (p := S.2 u) (n := 32) v hv32 c
      have : cn ((rmv u S).2 v) 32 ≤ cn (fun i => S.2 v i && decide (i ≠ u)) 32 + cn (fun i => S.2 u i && decide (i ≠ v)) 32 := cn_or2 (fun i _ hi => by
        obtain ⟨q1, q2 | ⟨q2, _, q4⟩⟩ := (e i).mp hi
        · left; simp only [q2, Bool.true_and, decide_eq_true_eq]; exact q1
        · right; simp only [q4, Bool.true_and, decide_eq_true_eq]; exact fun z => q2 z.symm)
      have := hu.2
      have := hv.2
      omega
theorem Rs.first {S T : WSt} (h : Rs S T) : T = S ∨ ∃ v, thn S v ∧ Rs (rmv v S) T := by
  refine h (fun T => T = S ∨ ∃ v, thn S v ∧ Rs (rmv v S) T) (Or.inl rfl) (fun T v hT hv => ?_)
  rcases hT with q | ⟨u, u1, u2⟩
  · subst q; exact Or.inr ⟨v, hv, Rs.rf _⟩
  · exact Or.inr ⟨u, u1, u2.step hv⟩
theorem rmv_cn {S : WSt} {v : Nat} (h : wsym S) (hv : thn S v) : cn (rmv v S).1 32 < cn S.1 32 := by
  refine cn_lt (fun i _ hi => ((Bool.and_eq_true _ _).mp hi).1) v (h.2.2 v hv.1) ?_ hv.1
  show (S.1 v && decide (v ≠ v)) = false
  rw [decide_eq_false (p := v ≠ v) (fun q => q rfl), Bool.and_false]
theorem Rs.ex : ∀ (k : Nat) {S : WSt}, wsym S → cn S.1 32 ≤ k → ∃ T, Rs S T ∧ ∀ v, ¬ thn T v
  | 0, S, h, hk => ⟨S, Rs.rf _, fun v hv => by
    have := cn_pos (p := S.1) v (h.2.2 v hv.1) hv.1; omega⟩
  | k + 1, S, h, hk => by
    by_cases q : ∃ v, thn S v
    · obtain ⟨v, hv⟩ := q
      have := rmv_cn h hv
      obtain ⟨T, t1, t2⟩ := Rs.ex k (rmv_sym h v) (by omega)
      exact ⟨T, fun Q q1 q2 => t1 Q (q2 S v q1 hv) q2, t2⟩
    · exact ⟨S, Rs.rf _, fun v hv => q ⟨v, hv⟩⟩
theorem Rs.uq : ∀ (k : Nat) {S T T2 : WSt}, wsym S → cn S.1 32 ≤ k → Rs S T → (∀ v, ¬ thn T v) → Rs S T2 → (∀ v, ¬ thn T2 v) → T = T2
  | k, S, T, T2, h, hk, r1, t1, r2, t2 => by
    rcases r1.first with q | ⟨u, u1, u2⟩
    · subst q
      rcases r2.first with q | ⟨v, v1, _⟩
      · exact q.symm
      · exact absurd v1 (t1 v)
    · rcases r2.first with q | ⟨v, v1, v2⟩
      · subst q; exact absurd u1 (t2 u)
      · have c1 := rmv_cn h u1
        have c2 := rmv_cn h v1
        match k, hk with
        | 0, hk => omega
        | k + 1, hk =>
          by_cases e : u = v
          · subst e
            exact Rs.uq k (rmv_sym h u) (by omega) u2 t1 v2 t2
          · obtain ⟨T3, r3, t3⟩ := Rs.ex k (rmv_sym (rmv_sym h u) v) (by have := rmv_cn (rmv_sym h u) (thn_st h e u1 v1); omega)
            have s1 : Rs (rmv u S) T3 := fun Q q1 q2 => r3 Q (q2 _ v q1 (thn_st h e u1 v1)) q2
            have s2 : Rs (rmv v S) T3 := fun Q q1 q2 => by
              rw [rmv_comm h e] at r3
              exact r3 Q (q2 _ u q1 (thn_st h (fun z => e z.symm) v1 u1)) q2
            rw [Rs.uq k (rmv_sym h u) (by omega) u2 t1 s1 t3, Rs.uq k (rmv_sym h v) (by omega) v2 t2 s2 t3]
theorem wr_uq {S : WSt} (h : wsym S) {x y : Int32} (h1 : WR S x) (h2 : WR S y) : x = y := by
  obtain ⟨T, r1, t1, e1⟩ := h1
  obtain ⟨T2, r2, t2, e2⟩ := h2
  have := Rs.uq _ h (Nat.le_refl _) r1 t1 r2 t2
  subst this
  exact b_ext (fun i _ => by rw [e1, e2])
theorem worn_eq {F G : Nat → Nat} {pr : Int64} {F' G' : Nat → Nat} {P : Nat → Bool} {ar n : Nat} {N Fm : Nat → Int32} {A S : Nat → Int64} {z : Nat} {al : Int32} {br : Int64} {x y : Int32} (hL : LK F G pr F' G' P ar) (h : SKI (lb pr) F G n N Fm A S z al br) (h1 : WR (wS al N) x) (h2 : ∃ N', NR (lkT ar 0 P (-1) (-1) (nI 0) F' G') F' G' N' ∧ WR (wS (sb n - nI 1) N') y) : x = y := by
  obtain ⟨N', hN', h2⟩ := h2
  have hn := h.1.1
  have hal : ∀ a, bt al a = bt (sb n - nI 1) a := fun a => by
    rw [b_all' (by omega), Bool.eq_iff_iff, h.2.1 a, decide_eq_true_eq]; exact ⟨fun q => q.1, fun q => ⟨q, fun z => z⟩⟩
  have hNN : ∀ a b, a < 14 → (bt (N a) b = true ↔ ad (lb pr) F G a b) := h.2.2.1
  have e : wS (sb n - nI 1) N' = wS al N := by
    unfold wS
    refine Prod.ext ?_ ?_
    · funext a; exact (hal a).symm
    · funext a b
      simp only []
      rw [← hal a, ← hal b]
      cases q : bt al a
      · rfl
      · have : a < n := ((h.2.1 a).mp q).1
        have e1 : bt (N' a) b = bt (N a) b := by rw [Bool.eq_iff_iff, hNN a b (by omega), hN' a b (by omega), lk_0 hL]
        rw [e1]
  rw [e] at h2
  refine wr_uq ⟨fun a b => ?_, fun a b hab => ?_, fun a ha => ?_⟩ h1 h2
  · unfold wS
    rw [Bool.eq_iff_iff]
    simp only [Bool.and_eq_true]
    constructor
    · rintro ⟨q1, q2, q3⟩
      have := ((h.2.1 a).mp q1).1
      have := ((h.2.1 b).mp q2).1
      exact ⟨q2, q1, (hNN b a (by omega)).mpr (ad_symm a b ((hNN a b (by omega)).mp q3))⟩
    · rintro ⟨q1, q2, q3⟩
      have := ((h.2.1 a).mp q2).1
      have := ((h.2.1 b).mp q1).1
      exact ⟨q2, q1, (hNN a b (by omega)).mpr (ad_symm b a ((hNN b a (by omega)).mp q3))⟩
  · unfold wS at hab ⊢
    simp only [Bool.and_eq_true] at hab ⊢
    have := ((h.2.1 a).mp hab.1).1
    exact ⟨hab.1, hab.2.1, (h.1.ad ((hNN a b (by omega)).mp hab.2.2)).2.2⟩
  · have := ((h.2.1 a).mp ha).1; omega
theorem wr_lt {S : WSt} {x : Int32} (h : WR S x) : ∀ a, bt x a = true → S.1 a = true := by
  obtain ⟨T, r, _, e⟩ := h
  intro a ha
  rw [e] at ha
  exact (r (fun T => ∀ a, T.1 a = true → S.1 a = true) (fun _ q => q) (fun S1 v hS _ a ha => hS a ((Bool.and_eq_true _ _).mp ha).1)) a ha
