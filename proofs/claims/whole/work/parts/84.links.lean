/-! ===== 84.links: how the graphs stay linked ===== -/
theorem lk_clear {F G F' G' : Nat → Nat} {P : Nat → Bool} : LK F G 0 F' G' P 0 := ⟨fun e h => (by rw [l_0] at h; cases h), by omega, fun e h => absurd h (Nat.not_lt_zero _)⟩
theorem lk_arc {F G F' G' : Nat → Nat} {pr : Int64} {P : Nat → Bool} {ar a b : Nat} (h : LK F G pr F' G' P ar) (har : ar < 40) : LK (va_up F ar a) (va_up G ar b) (pr ||| lsb ar) (va_up F' ar a) (va_up G' ar b) (va_up P ar true) (ar + 1) := by
  obtain ⟨h1, h2, h3⟩ := h
  refine ⟨fun e he => ?_, by omega, fun e he => ?_⟩
  · rw [l_or', l_lsb' (by omega)] at he
    rcases he with q | q
    · have := h1 e q; omega
    · omega
  · by_cases c : e = ar
    · subst c
      rw [va_up_s, va_up_s, va_up_s, va_up_s, va_up_s]
      exact ⟨rfl, rfl, (l_or'.mpr (Or.inr ((l_lsb' (by omega)).mpr rfl))).symm⟩
    · rw [va_up_o _ c, va_up_o _ c, va_up_o _ c, va_up_o _ c, va_up_o _ c]
      obtain ⟨q1, q2, q3⟩ := h3 e (by omega)
      refine ⟨q1, q2, ?_⟩
      rw [q3, l_or, l_lsb (by omega) (by omega), decide_eq_false c, Bool.or_false]
theorem lk_turn {F G F' G' : Nat → Nat} {pr : Int64} {P : Nat → Bool} {ar x : Nat} (h : LK F G pr F' G' P ar) (hx : x < ar) : LK F G (pr ^^^ lsb x) F' G' (va_up P x (!P x)) ar := by
  obtain ⟨h1, h2, h3⟩ := h
  have hb : ∀ e, e < 64 → lb (pr ^^^ lsb x) e = (if e = x then !lb pr e else lb pr e) := fun e he => by
    rw [l_xor, l_lsb (by omega) he]
    by_cases c : e = x
    · rw [if_pos c, decide_eq_true c, Bool.xor_true]
    · rw [if_neg c, decide_eq_false c, Bool.xor_false]
  refine ⟨fun e he => ?_, h2, fun e he => ?_⟩
  · have he64 := lt64 he
    rw [hb e he64] at he
    by_cases c : e = x
    · omega
    · rw [if_neg c] at he; exact h1 e he
  · obtain ⟨q1, q2, q3⟩ := h3 e he
    refine ⟨q1, q2, ?_⟩
    rw [hb e (by omega)]
    by_cases c : e = x
    · subst c; rw [va_up_s, if_pos rfl, q3]
    · rw [va_up_o _ c, if_neg c, q3]
theorem lk_mend {F G F' G' : Nat → Nat} {pr : Int64} {P : Nat → Bool} {ar a b : Nat} (h : LK F G pr F' G' P ar) : LK (va_up F 40 a) (va_up G 40 b) pr (va_up F' ar a) (va_up G' ar b) P ar := by
  obtain ⟨h1, h2, h3⟩ := h
  refine ⟨h1, h2, fun e he => ?_⟩
  rw [va_up_o _ (show e ≠ 40 by omega), va_up_o _ (show e ≠ 40 by omega), va_up_o _ (show e ≠ ar by omega), va_up_o _ (show e ≠ ar by omega)]
  exact h3 e he
theorem ad_c {T : Nat → Bool} {F G F' G' : Nat → Nat} (h : ∀ e, T e = true → F' e = F e ∧ G' e = G e) : ad T F' G' = ad T F G := by
  funext a b
  apply propext
  constructor
  · rintro ⟨e, e1, e2, e3⟩; exact ⟨e, e1, e2, (ends_c (h e e2).1 (h e e2).2).mp e3⟩
  · rintro ⟨e, e1, e2, e3⟩; exact ⟨e, e1, e2, (ends_c (h e e2).1 (h e e2).2).mpr e3⟩
theorem BL_c {T : Nat → Bool} {F G F' G' : Nat → Nat} (h : ∀ e, T e = true → F' e = F e ∧ G' e = G e) : BL T F' G' = BL T F G := by
  have hg : ∀ X, gX T F' G' X = gX T F G X := fun X => by
    funext a b; unfold gX; rw [ad_c h]
  funext e f
  apply propext
  constructor
  · rintro ⟨h1, h2, h3, h4, u, x, y, h5, h6, h7⟩
    exact ⟨h1, h2, h3, h4, u, x, y, (ends_c (h e h3).1 (h e h3).2).mp h5, (ends_c (h f h4).1 (h f h4).2).mp h6, by rw [← hg]; exact h7⟩
  · rintro ⟨h1, h2, h3, h4, u, x, y, h5, h6, h7⟩
    exact ⟨h1, h2, h3, h4, u, x, y, (ends_c (h e h3).1 (h e h3).2).mpr h5, (ends_c (h f h4).1 (h f h4).2).mpr h6, by rw [hg]; exact h7⟩
/-- a sketch stays right when rows change where no arc is -/
theorem SKI_c {T : Nat → Bool} {F G F' G' : Nat → Nat} {n : Nat} {N Fm : Nat → Int32} {A S : Nat → Int64} {z : Nat} {al : Int32} {br : Int64} (hs : SKI T F G n N Fm A S z al br) (h : ∀ e, T e = true → F' e = F e ∧ G' e = G e) : SKI T F' G' n N Fm A S z al br := by
  obtain ⟨h1, h2, h3, h4, h5, h6, h7⟩ := hs
  refine ⟨⟨h1.1, fun e e1 e2 => by rw [(h e e2).1, (h e e2).2]; exact h1.2 e e1 e2⟩, h2, ?_, ?_, ?_, h6, ?_⟩
  · unfold NR; rw [ad_c h]; exact h3
  · intro a e ha
    rw [h4 a e ha]
    constructor
    · rintro ⟨q1, q2, q3⟩; exact ⟨q1, q2, by rw [(h e q2).1, (h e q2).2]; exact q3⟩
    · rintro ⟨q1, q2, q3⟩; rw [(h e q2).1, (h e q2).2] at q3; exact ⟨q1, q2, q3⟩
  · rw [BL_c h]; exact h5
  · unfold NR
    rw [ad_c (T := fun e => T e && !lb br e) (fun e q => h e ((Bool.and_eq_true _ _).mp q).1)]; exact h7
theorem SKI_m {pr : Int64} {F G : Nat → Nat} {n nd ar a b : Nat} {N Fm : Nat → Int32} {A S : Nat → Int64} {z : Nat} {al : Int32} {br : Int64} (hs : SKI (lb pr) F G n N Fm A S z al br) (hG : GAR F G nd ar pr) : SKI (lb pr) (va_up F 40 a) (va_up G 40 b) n N Fm A S z al br :=
  SKI_c hs (fun e he => by
    have h1 := hG.2.2.1 e he
    have h2 := hG.2.1
    exact ⟨va_up_o _ (by omega), va_up_o _ (by omega)⟩)
/-- the empty graph's sketch, as it is made -/
theorem SKI_0 {S : Nat → Int64} : SKI (lb 0) (fun _ => 0) (fun _ => 0) 0 (fun _ => 0) (fun _ => 0) (fun _ => 0) S 0 0 0 := by
  have n0 : ∀ e, lb (0 : Int64) e = true → False := fun e h => by rw [l_0] at h; cases h
  have m0 : ∀ e, bt (0 : Int32) e = true → False := fun e h => by rw [b_0] at h; cases h
  refine ⟨⟨by omega, fun e _ h => (n0 e h).elim⟩, fun b => ⟨fun h => (m0 b h).elim, fun h => absurd h.1 (Nat.not_lt_zero _)⟩, fun a b _ => ⟨fun h => (m0 b h).elim, fun ⟨e, _, h, _⟩ => (n0 e h).elim⟩, fun a e _ => ⟨fun h => (n0 e h).elim, fun h => (n0 e h.2.1).elim⟩, ⟨fun i h => absurd h (Nat.not_lt_zero _), fun i e h => absurd h (Nat.not_lt_zero _), fun e h => (n0 e h.2.2.1).elim, fun i e f h => absurd h (Nat.not_lt_zero _), fun i j e h => absurd h (Nat.not_lt_zero _)⟩, LnR_0 S, fun a b _ => ⟨fun h => (m0 b h).elim, fun ⟨e, _, h, _⟩ => (n0 e ((Bool.and_eq_true _ _).mp h).1).elim⟩⟩
theorem lk_P {F G F' G' : Nat → Nat} {pr : Int64} {P : Nat → Bool} {ar x : Nat} (h : LK F G pr F' G' P ar) (hx : x < ar) : P x = lb pr x := (h.2.2 x hx).2.2
theorem lk_M {F G F' G' : Nat → Nat} {pr : Int64} {P : Nat → Bool} {nd ar : Nat} (h : LK F G pr F' G' P ar) (hG : GAR F G nd ar pr) : (∀ e, e < ar → F' e < nd ∧ G' e < nd) ∧ ∀ e, e < ar → F' e ≠ G' e := by
  refine ⟨fun e he => ?_, fun e he => ?_⟩
  · obtain ⟨q1, q2, _⟩ := h.2.2 e he
    have := hG.2.2.2.1 e he
    rw [q1, q2]; exact ⟨this.1, this.2.1⟩
  · obtain ⟨q1, q2, _⟩ := h.2.2 e he
    rw [q1, q2]; exact (hG.2.2.2.1 e he).2.2
