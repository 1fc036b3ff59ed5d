/-! ===== 70.link: the reference's graph is the class's; bridges; twins; blocks ===== -/
def LK (F G : Nat → Nat) (pr : Int64) (F' G' : Nat → Nat) (P : Nat → Bool) (ar : Nat) : Prop := (∀ e, lb pr e = true → e < ar) ∧ ar ≤ 40 ∧ ∀ e, e < ar → F' e = F e ∧ G' e = G e ∧ P e = lb pr e
def gR (T : Nat → Bool) (F G : Nat → Nat) (D X : Nat → Prop) (a b : Nat) : Prop := ∃ e, e < 41 ∧ T e = true ∧ ¬ D e ∧ ends F G e a b ∧ ¬ X a ∧ ¬ X b
theorem ends_X {F G : Nat → Nat} {e a b : Nat} {X : Nat → Prop} (h : ends F G e a b) (h1 : ¬ X (F e)) (h2 : ¬ X (G e)) : ¬ X a ∧ ¬ X b := by
  rcases h with ⟨p, q⟩ | ⟨p, q⟩
  · subst p; subst q; exact ⟨h1, h2⟩
  · subst p; subst q; exact ⟨h2, h1⟩
theorem ends_Y {F G : Nat → Nat} {e a b : Nat} {X : Nat → Prop} (h : ends F G e a b) (h1 : ¬ X a) (h2 : ¬ X b) : ¬ X (F e) ∧ ¬ X (G e) := by
  rcases h with ⟨p, q⟩ | ⟨p, q⟩
  · rw [p, q]; exact ⟨h1, h2⟩
  · rw [p, q]; exact ⟨h2, h1⟩
theorem ends_c {F G F' G' : Nat → Nat} {e a b : Nat} (h1 : F' e = F e) (h2 : G' e = G e) : ends F' G' e a b ↔ ends F G e a b := by unfold ends; rw [h1, h2]
theorem lk_gR {F G : Nat → Nat} {pr : Int64} {F' G' : Nat → Nat} {P : Nat → Bool} {ar : Nat} (h : LK F G pr F' G' P ar) (lo ot go : Int32) : ad (lkT ar 0 P lo ot go F' G') F' G' = gR (lb pr) F G (fun e => nI e = lo ∨ nI e = ot) (fun z => bt go z = true) := by
  obtain ⟨h1, h2, h3⟩ := h
  funext a b
  apply propext
  constructor
  · rintro ⟨e, e1, e2, e3⟩
    have q := lk_iff.mp e2
    have q1 : e < ar := by have := q.1; omega
    obtain ⟨r1, r2, r3⟩ := h3 e q1
    have x := ends_X (X := fun z => bt go z = true) e3 (by rw [q.2.2.1]; exact Bool.false_ne_true) (by rw [q.2.2.2.1]; exact Bool.false_ne_true)
    refine ⟨e, e1, ?_, ?_, (ends_c r1 r2).mp e3, x.1, x.2⟩
    · rcases q.2.1 with z | z
      · omega
      · rw [← r3]; exact z
    · rintro (z | z)
      · exact q.2.2.2.2.1 z
      · exact q.2.2.2.2.2 z
  · rintro ⟨e, e1, e2, e3, e4, e5, e6⟩
    have q1 := h1 e e2
    obtain ⟨r1, r2, r3⟩ := h3 e q1
    have e4' := (ends_c r1 r2).mpr e4
    have x := ends_Y (X := fun z => bt go z = true) e4' e5 e6
    exact ⟨e, e1, lk_t (by omega) (Or.inr (by rw [r3]; exact e2)) (Bool.eq_false_iff.mpr x.1) (Bool.eq_false_iff.mpr x.2) (fun z => e3 (Or.inl z)) (fun z => e3 (Or.inr z)), e4'⟩
def gL (T : Nat → Bool) (F G : Nat → Nat) (x a b : Nat) : Prop := ∃ e, e < 41 ∧ T e = true ∧ e ≠ x ∧ ends F G e a b
theorem gL.symm {T : Nat → Bool} {F G : Nat → Nat} {x : Nat} (a b : Nat) (h : gL T F G x a b) : gL T F G x b a := by
  obtain ⟨e, h1, h2, h3, h4⟩ := h
  exact ⟨e, h1, h2, h3, h4.symm.imp (fun q => ⟨q.1, q.2⟩) (fun q => ⟨q.1, q.2⟩)⟩
theorem ad_symm {T : Nat → Bool} {F G : Nat → Nat} (a b : Nat) (h : ad T F G a b) : ad T F G b a := h.symm
theorem b_nI0 (z : Nat) : ¬ bt (nI 0) z = true := by rw [show nI 0 = 0 from nI_0, b_0]; exact Bool.false_ne_true
theorem lk_0 {F G : Nat → Nat} {pr : Int64} {F' G' : Nat → Nat} {P : Nat → Bool} {ar : Nat} (h : LK F G pr F' G' P ar) : ad (lkT ar 0 P (-1) (-1) (nI 0) F' G') F' G' = ad (lb pr) F G := by
  rw [lk_gR h]
  funext a b
  apply propext
  exact ⟨fun ⟨e, e1, e2, e3, e4, _⟩ => ⟨e, e1, e2, e4⟩, fun ⟨e, e1, e2, e4⟩ => ⟨e, e1, e2, fun z => z.elim (nI_nm1 e1) (nI_nm1 e1), e4, b_nI0 _, b_nI0 _⟩⟩
theorem lk_e {F G : Nat → Nat} {pr : Int64} {F' G' : Nat → Nat} {P : Nat → Bool} {ar x : Nat} (h : LK F G pr F' G' P ar) (hx : x < 41) : ad (lkT ar 0 P (nI x) (-1) (nI 0) F' G') F' G' = gL (lb pr) F G x := by
  rw [lk_gR h]
  funext a b
  apply propext
  exact ⟨fun ⟨e, e1, e2, e3, e4, _⟩ => ⟨e, e1, e2, fun z => e3 (Or.inl (by rw [z])), e4⟩, fun ⟨e, e1, e2, e3, e4⟩ => ⟨e, e1, e2, fun z => z.elim (fun q => e3 ((nI_eq (by omega) (by omega)).mp q)) (nI_nm1 e1), e4, b_nI0 _, b_nI0 _⟩⟩
theorem lk_s {F G : Nat → Nat} {pr : Int64} {F' G' : Nat → Nat} {P : Nat → Bool} {ar : Nat} (h : LK F G pr F' G' P ar) (go : Int32) : ad (lkT ar 0 P (-1) (-1) go F' G') F' G' = gX (lb pr) F G (fun z => bt go z = true) := by
  rw [lk_gR h]
  funext a b
  apply propext
  exact ⟨fun ⟨e, e1, e2, e3, e4, e5, e6⟩ => ⟨⟨e, e1, e2, e4⟩, e5, e6⟩, fun ⟨⟨e, e1, e2, e4⟩, e5, e6⟩ => ⟨e, e1, e2, fun z => z.elim (nI_nm1 e1) (nI_nm1 e1), e4, e5, e6⟩⟩
theorem lk_n {F G : Nat → Nat} {pr : Int64} {F' G' : Nat → Nat} {P : Nat → Bool} {ar n : Nat} (h : LK F G pr F' G' P ar) (hn : n < 14) : ad (lkT ar 0 P (-1) (-1) (sb n) F' G') F' G' = gX (lb pr) F G (fun z => z = n) := by
  rw [lk_s h]
  congr 1
  funext z
  exact propext (b_sb' (by omega))
def gB (T : Nat → Bool) (F G : Nat → Nat) (x y n a b : Nat) : Prop := ∃ e, e < 41 ∧ T e = true ∧ e ≠ x ∧ e ≠ y ∧ ends F G e a b ∧ a ≠ n ∧ b ≠ n
theorem lk_b {F G : Nat → Nat} {pr : Int64} {F' G' : Nat → Nat} {P : Nat → Bool} {ar x y n : Nat} (h : LK F G pr F' G' P ar) (hx : x < 41) (hy : y < 41) (hn : n < 14) : ad (lkT ar 0 P (nI x) (nI y) (sb n) F' G') F' G' = gB (lb pr) F G x y n := by
  rw [lk_gR h]
  funext a b
  apply propext
  have hb : ∀ z, bt (sb n) z = true ↔ z = n := fun z => b_sb' (by omega)
  constructor
  · rintro ⟨e, e1, e2, e3, e4, e5, e6⟩
    exact ⟨e, e1, e2, fun z => e3 (Or.inl (by rw [z])), fun z => e3 (Or.inr (by rw [z])), e4, fun z => e5 ((hb a).mpr z), fun z => e6 ((hb b).mpr z)⟩
  · rintro ⟨e, e1, e2, e3, e4, e5, e6, e7⟩
    exact ⟨e, e1, e2, fun z => z.elim (fun q => e3 ((nI_eq (by omega) (by omega)).mp q)) (fun q => e4 ((nI_eq (by omega) (by omega)).mp q)), e5, fun z => e6 ((hb a).mp z), fun z => e7 ((hb b).mp z)⟩
