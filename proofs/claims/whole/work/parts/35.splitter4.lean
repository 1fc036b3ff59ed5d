/-! ===== 35.splitter4: all pairs; all good sets ===== -/
def PCE (A : Nat → Int64) (bl : Int64) (Pi : Nat → Int64) (Bo : Nat → Nat) (pc a b : Nat) : Prop := ∃ pa pb, PCI A bl Pi Bo pc a b pa pb
theorem PCE_k {A : Nat → Int64} {bl : Int64} {Pi Pi9 : Nat → Int64} {Bo Bo9 : Nat → Nat} {pc pc9 a b : Nat} (h : PCE A bl Pi Bo pc a b) (hab : a < b) (hb : b < 14) {S : Nat → Int64} {z : Nat} (hg : GPI (PLr A bl a b) S z) (h14 : cn (lb bl) 64 ≤ 14)
    (hu : (z < 2 ∧ pc9 = pc ∧ Bo9 = Bo ∧ Pi9 = Pi) ∨ (2 ≤ z ∧ pc9 = pc + 1 ∧ Bo9 = va_up Bo (pc + 1) (Bo pc + z) ∧ kpI S Pi Pi9 (Bo pc) z)) : PCE A bl Pi9 Bo9 pc9 a (b + 1) := by
  obtain ⟨pa, pb, h⟩ := h
  rcases hu with ⟨u1, u2, u3, u4⟩ | ⟨u1, u2, u3, u4⟩
  · rw [u2, u3, u4]; exact ⟨pa, pb, PCI_s h hab (Or.inr (Or.inr ⟨S, z, hg, u1⟩))⟩
  · rw [u2, u3]
    have hz := hg.le_cn (bl := bl) (fun e he => PLr_bl he)
    exact ⟨_, _, PCI_k h hab hb hg u1 (by omega) u4⟩
theorem PCE_s {A : Nat → Int64} {bl : Int64} {Pi : Nat → Int64} {Bo : Nat → Nat} {pc a b : Nat} (h : PCE A bl Pi Bo pc a b) (hab : a < b) (hn : A a &&& bl = 0 ∨ A b &&& bl = 0) : PCE A bl Pi Bo pc a (b + 1) := by
  obtain ⟨pa, pb, h⟩ := h
  exact ⟨pa, pb, PCI_s h hab (hn.elim Or.inl (fun q => Or.inr (Or.inl q)))⟩
theorem PCE_n {A : Nat → Int64} {bl : Int64} {Pi : Nat → Int64} {Bo : Nat → Nat} {pc a b : Nat} (h : PCE A bl Pi Bo pc a b) (ha : a < 14) (hb : b = 14) : PCE A bl Pi Bo pc (a + 1) (a + 1 + 1) := by
  obtain ⟨pa, pb, h⟩ := h
  exact ⟨pa, pb, PCI_n h ha hb⟩
theorem PCE_cap {A : Nat → Int64} {bl : Int64} {Pi : Nat → Int64} {Bo : Nat → Nat} {pc a b : Nat} (h : PCE A bl Pi Bo pc a b) (hab : a < b) (hb : b < 14) {S : Nat → Int64} {z : Nat} (hg : GPI (PLr A bl a b) S z) (h14 : cn (lb bl) 64 ≤ 14) : pc < 91 ∧ Bo pc + z ≤ 1274 := by
  obtain ⟨pa, pb, h0, h1, h2, -⟩ := h
  have hr := rk_lt a (by omega) b hb hab
  have hz := hg.le_cn (bl := bl) (fun e he => PLr_bl he)
  omega
theorem PCE_bo {A : Nat → Int64} {bl : Int64} {Pi : Nat → Int64} {Bo : Nat → Nat} {pc a b : Nat} (h : PCE A bl Pi Bo pc a b) (hp : pc ≤ 91) : ∀ p, p < pc → Bo p ≤ Bo (p + 1) ∧ Bo (p + 1) ≤ 1274 := by
  obtain ⟨pa, pb, h0, h1, h2, h3, -⟩ := h
  intro p hp2
  have := h3 p hp2
  omega
theorem PCE_pc {A : Nat → Int64} {bl : Int64} {Pi : Nat → Int64} {Bo : Nat → Nat} {pc : Nat} (h : PCE A bl Pi Bo pc 14 15) : pc ≤ 91 := by
  obtain ⟨pa, pb, h0, h1, h2, -⟩ := h
  have : sm (fun i => 13 - i) 14 + (15 - (14 + 1)) = 91 := by decide
  omega
theorem PCE.b0 {A : Nat → Int64} {bl : Int64} {Pi : Nat → Int64} {Bo : Nat → Nat} {pc a b : Nat} (h : PCE A bl Pi Bo pc a b) : Bo 0 = 0 := by
  obtain ⟨pa, pb, h0, -⟩ := h
  exact h0
def okN (Pi : Nat → Int64) (Bo : Nat → Nat) (pc : Nat) (bl : Int64) (p : Nat) : Nat := cn (fun m => okB Pi Bo pc bl (Pi (Bo p + m))) (lasN (Bo p) (Bo (p + 1)))
/-- the good sets of the first i pairs -/
def fgI (Pi : Nat → Int64) (Bo : Nat → Nat) (pc : Nat) (bl : Int64) (Gd : Nat → Int64) (gc i : Nat) : Prop :=
  gc ≤ 14 ∧ gc ≤ sm (okN Pi Bo pc bl) i ∧ (sm (okN Pi Bo pc bl) i ≤ 14 → gc = sm (okN Pi Bo pc bl) i) ∧ (gc < 14 → gc = sm (okN Pi Bo pc bl) i) ∧
  (∀ k, k < gc → ∃ p m, p < i ∧ m < lasN (Bo p) (Bo (p + 1)) ∧ okB Pi Bo pc bl (Pi (Bo p + m)) = true ∧ Gd k = Pi (Bo p + m)) ∧
  (sm (okN Pi Bo pc bl) i ≤ 14 → ∀ p m, p < i → m < lasN (Bo p) (Bo (p + 1)) → okB Pi Bo pc bl (Pi (Bo p + m)) = true → ∃ k, k < gc ∧ Gd k = Pi (Bo p + m))
theorem fgI_0 (Pi : Nat → Int64) (Bo : Nat → Nat) (pc : Nat) (bl : Int64) (Gd : Nat → Int64) : fgI Pi Bo pc bl Gd 0 0 :=
  ⟨by omega, Nat.le_refl _, fun _ => rfl, fun _ => rfl, fun _ h => absurd h (Nat.not_lt_zero _), fun _ _ _ h => absurd h (Nat.not_lt_zero _)⟩
theorem fgI_n {Pi : Nat → Int64} {Bo : Nat → Nat} {pc : Nat} {bl : Int64} {Gd Gd9 : Nat → Int64} {gc gc9 i : Nat} (h : fgI Pi Bo pc bl Gd gc i) (k : kgI Pi Bo pc bl (Bo i) gc Gd Gd9 gc9 (lasN (Bo i) (Bo (i + 1)))) : fgI Pi Bo pc bl Gd9 gc9 (i + 1) := by
  obtain ⟨h1, h2, h3, h4, h5, h6⟩ := h
  obtain ⟨k1, k2, k3, k4, k5, k6, k7⟩ := k
  have e : sm (okN Pi Bo pc bl) (i + 1) = sm (okN Pi Bo pc bl) i + okN Pi Bo pc bl i := rfl
  have eo : cn (fun m => okB Pi Bo pc bl (Pi (Bo i + m))) (lasN (Bo i) (Bo (i + 1))) = okN Pi Bo pc bl i := rfl
  rw [eo] at k4 k5 k7
  unfold fgI
  rw [e]
  refine ⟨k2, by omega, fun q => ?_, fun q => ?_, fun x hx => ?_, fun q p m hp hm ho => ?_⟩
  · have := h3 (by omega)
    by_cases z : gc9 < 14
    · have := k4 (Or.inl z); omega
    · have := k4 (Or.inr (by omega)); omega
  · have := k4 (Or.inl q)
    have := h4 (by omega)
    omega
  · by_cases z : x < gc
    · obtain ⟨p, m, p1, p2, p3, p4⟩ := h5 x z
      exact ⟨p, m, by omega, p2, p3, by rw [k3 x z]; exact p4⟩
    · obtain ⟨m, m1, m2, m3⟩ := k6 x (by omega) hx
      exact ⟨i, m, by omega, m1, m2, m3⟩
  · by_cases z : p = i
    · subst z
      have := h3 (by omega)
      obtain ⟨x, x1, x2, x3⟩ := k7 (by omega) m hm ho
      exact ⟨x, x2, x3⟩
    · obtain ⟨x, x1, x2⟩ := h6 (by omega) p m (by omega) hm ho
      exact ⟨x, by omega, by rw [k3 x x1]; exact x2⟩
