/-! ===== 32.splitter: pieces of a block ===== -/
theorem cn_inj {p : Nat → Bool} : ∀ (N z : Nat) (g : Nat → Nat), (∀ i, i < z → g i < N ∧ p (g i) = true) → (∀ i j, i < z → j < z → g i = g j → i = j) → z ≤ cn p N
  | 0, z, g, h, _ => by
    rcases Nat.eq_zero_or_pos z with q | q
    · omega
    · exact absurd (h 0 q).1 (Nat.not_lt_zero _)
  | N + 1, z, g, h, hi => by
    by_cases c : ∃ k, k < z ∧ g k = N
    · obtain ⟨k, hk, ek⟩ := c
      have hz : 0 < z := by omega
      have hp : p N = true := by rw [← ek]; exact (h k hk).2
      have := cn_inj (p := p) N (z - 1) (fun i => if i = k then g (z - 1) else g i) (fun i h1 => by
        by_cases e : i = k
        · simp only [if_pos e]
          have h2 := h (z - 1) (by omega)
          have h3 : g (z - 1) ≠ N := fun q => by
            have := hi (z - 1) k (by omega) hk (q.trans ek.symm); omega
          exact ⟨by omega, h2.2⟩
        · simp only [if_neg e]
          have h2 := h i (by omega)
          have h3 : g i ≠ N := fun q => e (hi i k (by omega) hk (q.trans ek.symm))
          exact ⟨by omega, h2.2⟩) (fun i j h1 h2 hij => by
        by_cases e : i = k
        · by_cases f : j = k
          · omega
          · simp only [if_pos e, if_neg f] at hij
            have := hi (z - 1) j (by omega) (by omega) hij; omega
        · by_cases f : j = k
          · simp only [if_neg e, if_pos f] at hij
            have := hi i (z - 1) (by omega) (by omega) hij; omega
          · simp only [if_neg e, if_neg f] at hij
            exact hi i j (by omega) (by omega) hij)
      simp only [cn, hp, Bool.toNat_true]; omega
    · have := cn_inj (p := p) N z g (fun i h1 => by
        have h2 := h i h1
        have h3 : g i ≠ N := fun q => c ⟨i, h1, q⟩
        exact ⟨by omega, h2.2⟩) hi
      simp only [cn]; omega
theorem GPI.le_cn {L : Nat → Nat → Prop} {S : Nat → Int64} {z : Nat} {bl : Int64} (h : GPI L S z) (hb : ∀ e, L e e → lb bl e = true) : z ≤ cn (lb bl) 64 := by
  obtain ⟨h1, h2, -, -, h5⟩ := h
  refine cn_inj 64 z (fun i => if hi : i < z then Classical.choose (h1 i hi) else 0) (fun i hi => ?_) (fun i j hi hj e => ?_)
  · simp only [dif_pos hi]
    have := h2 i _ hi (Classical.choose_spec (h1 i hi))
    exact ⟨by omega, hb _ this.2⟩
  · simp only [dif_pos hi, dif_pos hj] at e
    exact h5 i j _ hi hj (Classical.choose_spec (h1 i hi)) (by rw [e]; exact Classical.choose_spec (h1 j hj))
/-- each class of one list is one of the other's -/
theorem GPI.find {L : Nat → Nat → Prop} {S S' : Nat → Int64} {z z' : Nat} (h : GPI L S z) (g : GPI L S' z') {i : Nat} (hi : i < z) : ∃ j, j < z' ∧ S' j = S i := by
  obtain ⟨h1, h2, h3, h4, h5⟩ := h
  obtain ⟨g1, g2, g3, g4, g5⟩ := g
  obtain ⟨e, he⟩ := h1 i hi
  obtain ⟨j, hj, hje⟩ := g3 e (h2 i e hi he).2
  refine ⟨j, hj, l_ext (fun f _ => ?_)⟩
  have a := h4 i e f hi he
  have b := g4 j e f hj hje
  cases q1 : lb (S' j) f <;> cases q2 : lb (S i) f
  · rfl
  · have := b.mpr (a.mp q2); rw [q1] at this; cases this
  · have := a.mpr (b.mp q1); rw [q2] at this; cases this
  · rfl
theorem GPI.sz {L : Nat → Nat → Prop} {S S' : Nat → Int64} {z z' : Nat} (h : GPI L S z) (g : GPI L S' z') : z ≤ z' := by
  refine php z' z (fun i => if hi : i < z then Classical.choose (h.find g hi) else 0) (fun i hi => ?_) (fun i j hi hj e => ?_)
  · simp only [dif_pos hi]; exact (Classical.choose_spec (h.find g hi)).1
  · simp only [dif_pos hi, dif_pos hj] at e
    have a := (Classical.choose_spec (h.find g hi)).2
    have b := (Classical.choose_spec (h.find g hj)).2
    rw [e] at a
    obtain ⟨x, hx⟩ := h.1 i hi
    exact h.2.2.2.2 i j x hi hj hx (by rw [← b, a]; exact hx)
theorem GPI.cardE {L : Nat → Nat → Prop} {S S' : Nat → Int64} {z z' : Nat} (h : GPI L S z) (g : GPI L S' z') : z = z' := Nat.le_antisymm (h.sz g) (g.sz h)
/-- arcs that hold together by other nodes than a and b -/
def PLa (A : Nat → Int64) (bl : Int64) (a b i : Nat) (e f : Nat) : Prop := ∃ v, v < i ∧ v ≠ a ∧ v ≠ b ∧ lb (A v &&& bl) e = true ∧ lb (A v &&& bl) f = true
def PLd (A : Nat → Int64) (bl : Int64) (a b i : Nat) (e f : Nat) : Prop := PLa A bl a b 14 e f ∨ (e = f ∧ e < i ∧ lb ((A a &&& A b) &&& bl) e = true)
def PLr (A : Nat → Int64) (bl : Int64) (a b : Nat) : Nat → Nat → Prop := PLd A bl a b 40
theorem PLa_0 (A : Nat → Int64) (bl : Int64) (a b : Nat) : PLa A bl a b 0 = fun _ _ => False := by
  funext e f; apply propext; exact ⟨fun ⟨v, h, _⟩ => absurd h (Nat.not_lt_zero _), fun h => h.elim⟩
theorem PLa_t {A : Nat → Int64} {bl : Int64} {a b i : Nat} (h1 : i ≠ a) (h2 : i ≠ b) : Ls (PLa A bl a b i) (A i &&& bl) = PLa A bl a b (i + 1) := by
  funext e f; apply propext
  constructor
  · rintro (⟨v, v1, v2⟩ | q)
    · exact ⟨v, by omega, v2⟩
    · exact ⟨i, by omega, h1, h2, q⟩
  · rintro ⟨v, v1, v2, v3, v4⟩
    by_cases q : v = i
    · subst q; exact Or.inr v4
    · exact Or.inl ⟨v, by omega, v2, v3, v4⟩
theorem PLa_f {A : Nat → Int64} {bl : Int64} {a b i : Nat} (h : i = a ∨ i = b) : PLa A bl a b i = PLa A bl a b (i + 1) := by
  funext e f; apply propext
  constructor
  · rintro ⟨v, v1, v2⟩; exact ⟨v, by omega, v2⟩
  · rintro ⟨v, v1, v2, v3, v4⟩
    exact ⟨v, by rcases h with h | h <;> omega, v2, v3, v4⟩
theorem PLd_0 (A : Nat → Int64) (bl : Int64) (a b : Nat) : PLd A bl a b 0 = PLa A bl a b 14 := by
  funext e f; apply propext
  exact ⟨fun h => h.elim id (fun q => absurd q.2.1 (Nat.not_lt_zero _)), Or.inl⟩
theorem PLd_t {A : Nat → Int64} {bl : Int64} {a b i : Nat} (hi : i < 40) (c : lb ((A a &&& A b) &&& bl) i = true) : Ls (PLd A bl a b i) (lsb i) = PLd A bl a b (i + 1) := by
  funext e f; apply propext
  constructor
  · rintro ((h | ⟨h1, h2, h3⟩) | ⟨h1, h2⟩)
    · exact Or.inl h
    · exact Or.inr ⟨h1, by omega, h3⟩
    · rw [l_lsb' (by omega)] at h1 h2
      subst h1; subst h2; exact Or.inr ⟨rfl, by omega, c⟩
  · rintro (h | ⟨h1, h2, h3⟩)
    · exact Or.inl (Or.inl h)
    · by_cases q : e = i
      · subst q; subst h1; exact Or.inr ⟨(l_lsb' (by omega)).mpr rfl, (l_lsb' (by omega)).mpr rfl⟩
      · exact Or.inl (Or.inr ⟨h1, by omega, h3⟩)
theorem PLd_f {A : Nat → Int64} {bl : Int64} {a b i : Nat} (c : lb ((A a &&& A b) &&& bl) i = false) : PLd A bl a b i = PLd A bl a b (i + 1) := by
  funext e f; apply propext
  constructor
  · rintro (h | ⟨h1, h2, h3⟩)
    · exact Or.inl h
    · exact Or.inr ⟨h1, by omega, h3⟩
  · rintro (h | ⟨h1, h2, h3⟩)
    · exact Or.inl h
    · exact Or.inr ⟨h1, by
        have : e ≠ i := fun q => by rw [q, c] at h3; cases h3
        omega, h3⟩
theorem GL_PLa (A : Nat → Int64) (bl : Int64) (a b i : Nat) : GL (PLa A bl a b i) :=
  ⟨fun e f ⟨v, h1, h2, h3, h4, h5⟩ => ⟨v, h1, h2, h3, h5, h4⟩, fun e f ⟨v, h1, h2, h3, h4, h5⟩ => ⟨v, h1, h2, h3, h4, h4⟩⟩
theorem GL_PLd (A : Nat → Int64) (bl : Int64) (a b i : Nat) : GL (PLd A bl a b i) :=
  ⟨fun e f h => h.elim (fun q => Or.inl ((GL_PLa A bl a b 14).1 e f q)) (fun q => Or.inr ⟨q.1.symm, by rw [← q.1]; exact q.2⟩), fun e f h => h.elim (fun q => Or.inl ((GL_PLa A bl a b 14).2 e f q)) (fun q => Or.inr ⟨rfl, q.2⟩)⟩
theorem PLr_bl {A : Nat → Int64} {bl : Int64} {a b e : Nat} (h : PLr A bl a b e e) : lb bl e = true := by
  rcases h with ⟨v, -, -, -, h4, -⟩ | ⟨-, -, h⟩
  · exact (l_and'.mp h4).2
  · exact (l_and'.mp h).2
/-- a pair's pieces are laid down -/
def kpI (S Pi Pi2 : Nat → Int64) (fr i : Nat) : Prop := (∀ j, j < fr → Pi2 j = Pi j) ∧ ∀ k, k < i → Pi2 (fr + k) = S k
theorem kpI_0 (S Pi : Nat → Int64) (fr : Nat) : kpI S Pi Pi fr 0 := ⟨fun _ _ => rfl, fun _ h => absurd h (Nat.not_lt_zero _)⟩
theorem kpI_n {S Pi Pi2 : Nat → Int64} {fr i : Nat} (h : kpI S Pi Pi2 fr i) : kpI S Pi (va_up Pi2 (fr + i) (S i)) fr (i + 1) := by
  refine ⟨fun j hj => by rw [va_up_o _ (by omega)]; exact h.1 j hj, fun k hk => ?_⟩
  by_cases q : k = i
  · subst q; rw [va_up_s]
  · rw [va_up_o _ (by omega)]; exact h.2 k (by omega)
def bef (a b a' b' : Nat) : Prop := a < a' ∨ (a = a' ∧ b < b')
/-- all pairs before (a, b) are through -/
def PCI (A : Nat → Int64) (bl : Int64) (Pi : Nat → Int64) (Bo : Nat → Nat) (pc a b : Nat) (pa pb : Nat → Nat) : Prop :=
  Bo 0 = 0 ∧ Bo pc ≤ 14 * pc ∧ pc ≤ sm (fun i => 13 - i) a + (b - (a + 1)) ∧
  (∀ p, p < pc → (pa p < pb p ∧ pb p < 14 ∧ bef (pa p) (pb p) a b) ∧ Bo p + 2 ≤ Bo (p + 1) ∧ Bo (p + 1) ≤ Bo pc ∧ GPI (PLr A bl (pa p) (pb p)) (fun i => Pi (Bo p + i)) (Bo (p + 1) - Bo p)) ∧
  (∀ p q, p < pc → q < pc → pa p = pa q → pb p = pb q → p = q) ∧
  ∀ x y, x < y → y < 14 → bef x y a b → ¬ A x &&& bl = 0 → ¬ A y &&& bl = 0 → (∃ S z, GPI (PLr A bl x y) S z ∧ 2 ≤ z) → ∃ p, p < pc ∧ pa p = x ∧ pb p = y
theorem PCI_0 {A : Nat → Int64} {bl : Int64} {Pi : Nat → Int64} {Bo : Nat → Nat} (h : Bo 0 = 0) : PCI A bl Pi Bo 0 0 1 (fun _ => 0) (fun _ => 0) := by
  refine ⟨h, by omega, Nat.zero_le _, fun _ h => absurd h (Nat.not_lt_zero _), fun _ _ h => absurd h (Nat.not_lt_zero _), fun x y h1 _ h3 => ?_⟩
  rcases h3 with q | q <;> omega
theorem rk_lt : ∀ a, a < 14 → ∀ b, b < 14 → a < b → sm (fun i => 13 - i) a + (b - (a + 1)) < 91 := by decide +kernel
theorem PCI_s {A : Nat → Int64} {bl : Int64} {Pi : Nat → Int64} {Bo : Nat → Nat} {pc a b : Nat} {pa pb : Nat → Nat} (h : PCI A bl Pi Bo pc a b pa pb) (hab : a < b)
    (hn : A a &&& bl = 0 ∨ A b &&& bl = 0 ∨ ∃ S z, GPI (PLr A bl a b) S z ∧ z < 2) : PCI A bl Pi Bo pc a (b + 1) pa pb := by
  obtain ⟨h0, h1, h2, h3, h4, h5⟩ := h
  refine ⟨h0, h1, by omega, fun p hp => ?_, h4, fun x y x1 x2 x3 x4 x5 x6 => ?_⟩
  · obtain ⟨⟨q1, q2, q3⟩, q4⟩ := h3 p hp
    exact ⟨⟨q1, q2, by rcases q3 with z | z; exact Or.inl z; exact Or.inr ⟨z.1, by omega⟩⟩, q4⟩
  · by_cases e : x = a ∧ y = b
    · obtain ⟨e1, e2⟩ := e
      subst e1; subst e2
      rcases hn with q | q | ⟨S, z, g1, g2⟩
      · exact absurd q x4
      · exact absurd q x5
      · obtain ⟨S', z', g3, g4⟩ := x6
        have := g1.cardE g3; omega
    · refine h5 x y x1 x2 ?_ x4 x5 x6
      rcases x3 with z | z
      · exact Or.inl z
      · refine Or.inr ⟨z.1, ?_⟩
        have : y ≠ b := fun q => e ⟨z.1, q⟩
        omega
theorem PCI_k {A : Nat → Int64} {bl : Int64} {Pi Pi9 : Nat → Int64} {Bo : Nat → Nat} {pc a b : Nat} {pa pb : Nat → Nat} (h : PCI A bl Pi Bo pc a b pa pb) (hab : a < b) (hb : b < 14) {S : Nat → Int64} {z : Nat} (hg : GPI (PLr A bl a b) S z) (h2z : 2 ≤ z) (hz : z ≤ 14) (hk : kpI S Pi Pi9 (Bo pc) z) :
    PCI A bl Pi9 (va_up Bo (pc + 1) (Bo pc + z)) (pc + 1) a (b + 1) (va_up pa pc a) (va_up pb pc b) := by
  obtain ⟨h0, h1, h2, h3, h4, h5⟩ := h
  have hbo : ∀ p, p ≤ pc → va_up Bo (pc + 1) (Bo pc + z) p = Bo p := fun p hp => va_up_o _ (by omega)
  refine ⟨by rw [hbo 0 (by omega)]; exact h0, by rw [va_up_s]; omega, by omega, fun p hp => ?_, fun p q hp hq e1 e2 => ?_, fun x y x1 x2 x3 x4 x5 x6 => ?_⟩
  · by_cases e : p = pc
    · subst e
      rw [va_up_s, va_up_s, va_up_s, hbo p (Nat.le_refl _), Nat.add_sub_cancel_left]
      refine ⟨⟨hab, hb, Or.inr ⟨rfl, by omega⟩⟩, by omega, Nat.le_refl _, ?_⟩
      obtain ⟨g1, g2, g3, g4, g5⟩ := hg
      exact ⟨fun i hi => by simp only [hk.2 i hi]; exact g1 i hi, fun i e hi he => by simp only [hk.2 i hi] at he; exact g2 i e hi he, fun e he => by
        obtain ⟨i, i1, i2⟩ := g3 e he
        exact ⟨i, i1, by simp only [hk.2 i i1]; exact i2⟩, fun i e f hi he => by simp only [hk.2 i hi] at he ⊢; exact g4 i e f hi he, fun i j e hi hj he hf => by simp only [hk.2 i hi] at he; simp only [hk.2 j hj] at hf; exact g5 i j e hi hj he hf⟩
    · obtain ⟨⟨q1, q2, q3⟩, q4, q5, q6⟩ := h3 p (by omega)
      rw [va_up_o _ e, va_up_o _ e, va_up_s, hbo p (by omega), hbo (p + 1) (by omega)]
      refine ⟨⟨q1, q2, by rcases q3 with w | w; exact Or.inl w; exact Or.inr ⟨w.1, by omega⟩⟩, q4, by omega, ?_⟩
      have hl : ∀ i, i < Bo (p + 1) - Bo p → Pi9 (Bo p + i) = Pi (Bo p + i) := fun i hi => hk.1 _ (by omega)
      obtain ⟨g1, g2, g3, g4, g5⟩ := q6
      exact ⟨fun i hi => by simp only [hl i hi]; exact g1 i hi, fun i e hi he => by simp only [hl i hi] at he; exact g2 i e hi he, fun e he => by
        obtain ⟨i, i1, i2⟩ := g3 e he
        exact ⟨i, i1, by simp only [hl i i1]; exact i2⟩, fun i e f hi he => by simp only [hl i hi] at he ⊢; exact g4 i e f hi he, fun i j e hi hj he hf => by simp only [hl i hi] at he; simp only [hl j hj] at hf; exact g5 i j e hi hj he hf⟩
  · by_cases e : p = pc
    · by_cases f : q = pc
      · omega
      · subst e
        rw [va_up_s, va_up_o _ f] at e1 e2
        have := (h3 q (by omega)).1.2.2
        rw [← e1, ← e2] at this
        rcases this with w | w <;> omega
    · by_cases f : q = pc
      · subst f
        rw [va_up_s, va_up_o _ e] at e1 e2
        have := (h3 p (by omega)).1.2.2
        rw [e1, e2] at this
        rcases this with w | w <;> omega
      · rw [va_up_o _ e, va_up_o _ f] at e1 e2
        exact h4 p q (by omega) (by omega) e1 e2
  · by_cases e : x = a ∧ y = b
    · exact ⟨pc, by omega, by rw [va_up_s]; exact e.1.symm, by rw [va_up_s]; exact e.2.symm⟩
    · obtain ⟨p, p1, p2, p3⟩ := h5 x y x1 x2 (by
        rcases x3 with w | w
        · exact Or.inl w
        · refine Or.inr ⟨w.1, ?_⟩
          have : y ≠ b := fun q => e ⟨w.1, q⟩
          omega) x4 x5 x6
      exact ⟨p, by omega, by rw [va_up_o _ (by omega)]; exact p2, by rw [va_up_o _ (by omega)]; exact p3⟩
theorem PCI_n {A : Nat → Int64} {bl : Int64} {Pi : Nat → Int64} {Bo : Nat → Nat} {pc a b : Nat} {pa pb : Nat → Nat} (h : PCI A bl Pi Bo pc a b pa pb) (ha : a < 14) (hb : b = 14) : PCI A bl Pi Bo pc (a + 1) (a + 1 + 1) pa pb := by
  subst hb
  obtain ⟨h0, h1, h2, h3, h4, h5⟩ := h
  refine ⟨h0, h1, ?_, fun p hp => ?_, h4, fun x y x1 x2 x3 x4 x5 x6 => h5 x y x1 x2 ?_ x4 x5 x6⟩
  · simp only [sm]; omega
  · obtain ⟨⟨q1, q2, q3⟩, q4⟩ := h3 p hp
    exact ⟨⟨q1, q2, Or.inl (by rcases q3 with z | z <;> omega)⟩, q4⟩
  · rcases x3 with z | z
    · by_cases e : x = a
      · exact Or.inr ⟨e, x2⟩
      · exact Or.inl (by omega)
    · omega
