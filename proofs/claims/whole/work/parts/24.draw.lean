/-! ===== 24.draw: a drawn sketch ===== -/
theorem wS_c {al : Int32} {N R : Nat → Int32} (h : ∀ a, bt al a = true → a < 14) : wS al (va_cpy N R 0 0 14) = wS al N := by
  unfold wS
  refine Prod.ext rfl ?_
  funext a b
  show (bt al a && (bt al b && bt (va_cpy N R 0 0 14 a) b)) = (bt al a && (bt al b && bt (N a) b))
  by_cases ha : bt al a = true
  · rw [pk_cpy_in (Nat.zero_le _) (by have := h a ha; omega)]; simp
  · rw [Bool.eq_false_iff.mpr ha]; simp
theorem wrI_0 {al : Int32} {N R : Nat → Int32} (h : ∀ a, bt al a = true → a < 14) : wrI (wS al N) al (va_cpy N R 0 0 14) 0 := by
  refine ⟨by rw [wS_c h]; exact Rs.rf _, h, ?_⟩
  have := cn_le (bt al) 14; omega
theorem al_b : ∀ n, n < 15 → ∀ b, b < 32 → bt (sb n - nI 1) b = decide (b < n) := by decide +kernel
theorem WX_all {n : Nat} (h : n ≤ 14) : WX n (fun _ => False) (sb n - nI 1) := by
  intro b
  rcases Nat.lt_or_ge b 32 with q | q
  · rw [al_b n (by omega) b q]; simp
  · rw [b_big q]
    constructor
    · intro z; cases z
    · intro z; omega
/-- what a sketch shows of the graph -/
def SKI (T : Nat → Bool) (F G : Nat → Nat) (n : Nat) (N Fm : Nat → Int32) (A : Nat → Int64) (S : Nat → Int64) (z : Nat) (al : Int32) (br : Int64) : Prop :=
  GOK T F G n ∧ WX n (fun _ => False) al ∧ NR T F G N ∧ AR T F G A ∧ GPI (BL T F G) S z ∧ LnR S br z ∧ NR (fun e => T e && !lb br e) F G Fm
theorem lb_but (dr br : Int64) : (∀ e, e < 41 → lb (dr &&& (br ^^^ (-1 : Int64))) e = (lb dr e && !lb br e)) := by
  intro e he
  rw [l_and, l_not _ (by omega)]
theorem NR_congr {T T' : Nat → Bool} {F G : Nat → Nat} {r : Nat → Int32} (h : ∀ e, e < 41 → T e = T' e) (hr : NR T F G r) : NR T' F G r := by
  intro a b ha
  rw [hr a b ha]
  constructor
  · rintro ⟨e, h1, h2, h3⟩; exact ⟨e, h1, by rw [← h e h1]; exact h2, h3⟩
  · rintro ⟨e, h1, h2, h3⟩; exact ⟨e, h1, by rw [h e h1]; exact h2, h3⟩
theorem SKI.r14 {T : Nat → Bool} {F G : Nat → Nat} {n : Nat} {N Fm : Nat → Int32} {A S : Nat → Int64} {z : Nat} {al : Int32} {br : Int64} (h : SKI T F G n N Fm A S z al br) : ∀ a b, a < 14 → bt (N a) b = true → b < 14 := fun a b ha hb => by
  have h1 := (h.1.ad ((h.2.2.1 a b ha).mp hb)).2.1
  have h2 := h.1.1
  omega
theorem SKI.rw {T : Nat → Bool} {F G : Nat → Nat} {n : Nat} {N Fm : Nat → Int32} {A S : Nat → Int64} {z : Nat} {al : Int32} {br : Int64} (h : SKI T F G n N Fm A S z al br) (r : Nat → Int32) : ∀ a b, rE r al a b → b < 14 := rE_lt h.1.1 h.2.1
theorem SKI.al14 {T : Nat → Bool} {F G : Nat → Nat} {n : Nat} {N Fm : Nat → Int32} {A S : Nat → Int64} {z : Nat} {al : Int32} {br : Int64} (h : SKI T F G n N Fm A S z al br) : ∀ a, bt al a = true → a < 14 := fun a ha => by
  have h1 := ((h.2.1 a).mp ha).1
  have h2 := h.1.1
  omega
