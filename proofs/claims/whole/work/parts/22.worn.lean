/-! ===== 22.worn: nodes that go ===== -/
abbrev WSt : Type := (Nat → Bool) × (Nat → Nat → Bool)
def wS (lf : Int32) (R : Nat → Int32) : WSt := (bt lf, fun a b => bt lf a && (bt lf b && bt (R a) b))
def thn (S : WSt) (v : Nat) : Prop := S.1 v = true ∧ cn (S.2 v) 32 ≤ 2
def rmv (v : Nat) (S : WSt) : WSt := (fun a => S.1 a && decide (a ≠ v), fun a b => (decide (a ≠ v) && decide (b ≠ v)) && (S.2 a b || (decide (a ≠ b) && (S.2 v a && S.2 v b))))
/-- T is what some thin nodes leave of S -/
def Rs (S T : WSt) : Prop := ∀ Q : WSt → Prop, Q S → (∀ S1 v, Q S1 → thn S1 v → Q (rmv v S1)) → Q T
theorem Rs.rf (S : WSt) : Rs S S := fun _ h _ => h
theorem Rs.step {S T : WSt} {v : Nat} (h : Rs S T) (ht : thn T v) : Rs S (rmv v T) := fun Q h1 h2 => h2 T v (h Q h1 h2) ht
/-- x is what is left when no thin node is left -/
def WR (S : WSt) (x : Int32) : Prop := ∃ T, Rs S T ∧ (∀ v, ¬ thn T v) ∧ ∀ a, bt x a = T.1 a
def thI (lf : Int32) (R : Nat → Int32) (i : Nat) : Prop := ∀ v, v < i → ¬ (bt lf v = true ∧ cn (bt (R v &&& lf)) 32 ≤ 2)
def lkI (R : Nat → Int32) (so : Int32) (R2 : Nat → Int32) (i : Nat) : Prop := ∀ a, a < 14 → ∀ b, bt (R2 a) b = (bt (R a) b || (decide (a < i) && (bt so a && (bt so b && decide (b ≠ a)))))
theorem lkI_0 (R : Nat → Int32) (so : Int32) : lkI R so R 0 := fun a _ b => by simp
theorem lkI_t {R : Nat → Int32} {so : Int32} {R2 : Nat → Int32} {i : Nat} (hi : i < 14) (h : lkI R so R2 i) (c : bt so i = true) : lkI R so (va_up R2 i (R2 i ||| (so &&& (sb i ^^^ (-1))))) (i + 1) := by
  intro a ha b
  by_cases e : a = i
  · subst e
    rw [va_up_s, b_or, b_and, h a ha b]
    rcases Nat.lt_or_ge b 32 with q | q
    · rw [b_not _ q, b_sb (by omega) q]
      by_cases d : b = a <;> simp [d, c]
    · rw [b_big q, b_big q, b_big q]; simp
  · rw [va_up_o _ e, h a ha b]
    have : decide (a < i) = decide (a < i + 1) := decide_eq_decide.mpr (by omega)
    rw [this]
theorem lkI_f {R : Nat → Int32} {so : Int32} {R2 : Nat → Int32} {i : Nat} (h : lkI R so R2 i) (c : bt so i = false) : lkI R so R2 (i + 1) := by
  intro a ha b
  rw [h a ha b]
  by_cases e : a = i
  · subst e; simp [c]
  · have : decide (a < i) = decide (a < i + 1) := decide_eq_decide.mpr (by omega)
    rw [this]
/-- one node goes -/
theorem w_step {lf : Int32} {R R2 : Nat → Int32} {v : Nat} (hlf : ∀ a, bt lf a = true → a < 14) (hv : v < 14) (hbv : bt lf v = true) (h : lkI R (R v &&& (lf &&& (sb v ^^^ (-1)))) R2 14) : wS (lf &&& (sb v ^^^ (-1))) R2 = rmv v (wS lf R) := by
  have hl : ∀ a, bt (lf &&& (sb v ^^^ (-1))) a = (bt lf a && decide (a ≠ v)) := by
    intro a
    rw [b_and]
    rcases Nat.lt_or_ge a 32 with q | q
    · rw [b_not _ q, b_sb (by omega) q]
      by_cases e : a = v <;> simp [e]
    · rw [b_big q]; simp
  unfold wS rmv
  refine Prod.ext ?_ ?_
  · funext a; exact hl a
  · funext a b
    show (bt (lf &&& (sb v ^^^ (-1))) a && (bt (lf &&& (sb v ^^^ (-1))) b && bt (R2 a) b)) = _
    rw [hl a, hl b]
    by_cases ha : bt lf a = true
    · rw [h a (hlf a ha) b, b_and (R v) (lf &&& (sb v ^^^ (-1))) a, b_and (R v) (lf &&& (sb v ^^^ (-1))) b, hl a, hl b]
      have h14 : decide (a < 14) = true := decide_eq_true (hlf a ha)
      rw [h14]
      cases h1 : bt lf b <;> cases h2 : bt (R a) b <;> cases h3 : bt (R v) a <;> cases h4 : bt (R v) b <;> by_cases e1 : a = v <;> by_cases e2 : b = v <;> by_cases e3 : a = b <;> simp_all
      all_goals (first | omega | (intro q; exact absurd q.symm (by assumption)) | (exact fun q => absurd q.symm (by assumption)) | skip)
    · have ha' : bt lf a = false := Bool.eq_false_iff.mpr ha
      simp [ha']
theorem thn_iff {lf : Int32} {R : Nat → Int32} {v : Nat} : thn (wS lf R) v ↔ (bt lf v = true ∧ cn (bt (R v &&& lf)) 32 ≤ 2) := by
  unfold thn wS
  constructor
  · rintro ⟨h1, h2⟩
    refine ⟨h1, ?_⟩
    rw [cn_congr (q := fun b => bt lf v && (bt lf b && bt (R v) b)) (fun i _ => by rw [b_and]; simp only [] at h1; rw [h1]; simp [Bool.and_comm])]
    exact h2
  · rintro ⟨h1, h2⟩
    refine ⟨h1, ?_⟩
    rw [cn_congr (q := bt (R v &&& lf)) (fun i _ => by rw [b_and]; simp only []; rw [h1]; simp [Bool.and_comm])]
    exact h2
/-- wear's rounds -/
def wrI (S0 : WSt) (lf : Int32) (R : Nat → Int32) (rd : Nat) : Prop := Rs S0 (wS lf R) ∧ (∀ a, bt lf a = true → a < 14) ∧ cn (bt lf) 14 + rd ≤ 14
theorem wrI_n {S0 : WSt} {lf : Int32} {R R2 : Nat → Int32} {rd v : Nat} (h : wrI S0 lf R rd) (hv : v < 14) (ht : bt lf v = true ∧ cn (bt (R v &&& lf)) 32 ≤ 2) (hk : lkI R (R v &&& (lf &&& (sb v ^^^ (-1)))) R2 14) : wrI S0 (lf &&& (sb v ^^^ (-1))) R2 (rd + 1) := by
  obtain ⟨h1, h2, h3⟩ := h
  refine ⟨?_, fun a ha => h2 a (b_and'.mp ha).1, ?_⟩
  · rw [w_step h2 hv ht.1 hk]
    exact h1.step (thn_iff.mpr ht)
  · have : cn (bt (lf &&& (sb v ^^^ (-1)))) 14 < cn (bt lf) 14 := cn_lt (fun i _ hi => (b_and'.mp hi).1) v hv (by
      rw [Bool.eq_false_iff]; intro q
      have q2 := (b_and'.mp q).2
      rw [b_not' (by omega), Bool.eq_false_iff] at q2
      exact q2 ((b_sb' (by omega)).mpr rfl)) ht.1
    omega
theorem wrI_e {S0 : WSt} {lf : Int32} {R : Nat → Int32} {rd : Nat} (h : wrI S0 lf R rd) (hn : thI lf R 14) : WR S0 lf :=
  ⟨wS lf R, h.1, fun v hv => hn v (h.2.1 v (thn_iff.mp hv).1) (thn_iff.mp hv), fun _ => rfl⟩
theorem wrI_z {S0 : WSt} {lf : Int32} {R : Nat → Int32} {rd : Nat} (h : wrI S0 lf R rd) (hr : 14 ≤ rd) : WR S0 lf := by
  refine wrI_e h (fun v hv ht => ?_)
  have := cn_pos (p := bt lf) v hv ht.1
  have := h.2.2
  omega
