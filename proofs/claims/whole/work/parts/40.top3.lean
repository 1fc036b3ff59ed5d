/-! ===== 40.top3: the answers of the public methods, by the sketch's rows ===== -/
def Held (S : Nat → Int64) (z x : Nat) (y : Int64) : Prop := (∃ i, i < z ∧ lb (S i) x = true ∧ y = S i) ∨ ((∀ i, i < z → lb (S i) x = false) ∧ y = 0)
theorem hold_eq {L : Nat → Nat → Prop} {S : Nat → Int64} {z i0 x : Nat} {y : Int64} (hG : GPI L S z) (hi : i0 < z) (hx : lb (S i0) x = true) (h : Held S z x y) : y = S i0 := by
  rcases h with ⟨i, h1, h2, h3⟩ | ⟨h1, -⟩
  · rw [h3, hG.2.2.2.2 i i0 x h1 hi h2 hx]
  · rw [h1 i0 hi] at hx; cases hx
/-- cuts of arcs, of nodes -/
def ArcC (F G : Nat → Nat) (pr : Int64) (C : Nat → Nat) : Prop := ∀ S : Nat → Bool, ct C S = cn (fun e => lb pr e && (S (F e) != S (G e))) 40
def NodC (N : Nat → Int32) (C : Nat → Nat) : Prop := ∀ S : Nat → Bool, ct C S = sm (lnF N S) 14
theorem cap_a {F G : Nat → Nat} {pr : Int64} {C : Nat → Nat} {a b : Nat} (h : ArcC F G pr C) (hab : a ≠ b) : ∃ S0 : Nat → Bool, S0 a = true ∧ S0 b = false ∧ ct C S0 ≤ 40 :=
  ⟨fun x => decide (x = a), by simp, by simpa using fun q => hab q.symm, by rw [h]; exact cn_le _ _⟩
theorem sm_one {f : Nat → Nat} {k b m : Nat} (h : ∀ i, i < m → i ≠ k → f i = 0) (hk : f k ≤ b) : ∀ n, n ≤ m → sm f n ≤ b
  | 0, _ => Nat.zero_le _
  | n + 1, hn => by
    by_cases e : n = k
    · subst e
      have : sm f n = 0 := zero_sm (fun i hi => h i (by omega) (by omega))
      simp only [sm]; omega
    · have := sm_one h hk n (by omega)
      have h2 := h n (by omega) e
      simp only [sm]; omega
theorem cap_n {N : Nat → Int32} {C : Nat → Nat} {a b : Nat} (h : NodC N C) (ha : a < 14) (hb : b < 14) : ∃ S0 : Nat → Bool, S0 (a + 14) = true ∧ S0 b = false ∧ ct C S0 ≤ 40 := by
  refine ⟨fun x => decide (x = a + 14), by simp, decide_eq_false (by omega), ?_⟩
  rw [h]
  refine Nat.le_trans (sm_one (k := a) (b := 15) (m := 14) (fun v hv hne => ?_) ?_ 14 (Nat.le_refl _)) (by decide)
  · unfold lnF
    dsimp only
    have h2 : decide (v + 14 = a + 14) = false := decide_eq_false (by omega)
    have h3 : decide (v = a + 14) = false := decide_eq_false (by omega)
    rw [h2, h3, cn_none (fun i _ => by simp)]; rfl
  · unfold lnF
    dsimp only
    have h3 : decide (a = a + 14) = false := decide_eq_false (by omega)
    rw [h3, Bool.false_and, Bool.toNat_false, Nat.zero_add]
    exact Nat.le_trans (cn_le _ _) (by decide)
theorem bts_t {r : Nat → Int32} {f b : Nat} {w x : Int32} (h : SpR r f w x) (hr : Rc (rE r w) f b) : bt x b = true := (h b).mpr hr
theorem bts_f {r : Nat → Int32} {f b : Nat} {w x : Int32} (h : SpR r f w x) (hr : ¬ Rc (rE r w) f b) : bt x b = false := Bool.eq_false_iff.mpr (fun q => hr ((h b).mp q))
