/-! ===== 08.graph: the graph, rows that show it ===== -/
/-- arc e lies between a and b -/
def ends (F G : Nat → Nat) (e a b : Nat) : Prop := (F e = a ∧ G e = b) ∨ (G e = a ∧ F e = b)
theorem ends.symm {F G : Nat → Nat} {e a b : Nat} (h : ends F G e a b) : ends F G e b a := h.elim (fun q => Or.inr ⟨q.2, q.1⟩) (fun q => Or.inl ⟨q.2, q.1⟩)
theorem ends.mk (F G : Nat → Nat) (e : Nat) : ends F G e (F e) (G e) := Or.inl ⟨rfl, rfl⟩
def ad (T : Nat → Bool) (F G : Nat → Nat) (a b : Nat) : Prop := ∃ e, e < 41 ∧ T e = true ∧ ends F G e a b
theorem ad.symm {T : Nat → Bool} {F G : Nat → Nat} {a b : Nat} (h : ad T F G a b) : ad T F G b a := by
  obtain ⟨e, h1, h2, h3⟩ := h
  exact ⟨e, h1, h2, h3.symm⟩
/-- rows of neighbours; rows of arcs -/
def NR (T : Nat → Bool) (F G : Nat → Nat) (r : Nat → Int32) : Prop := ∀ a b, a < 14 → (bt (r a) b = true ↔ ad T F G a b)
def AR (T : Nat → Bool) (F G : Nat → Nat) (A : Nat → Int64) : Prop := ∀ a e, a < 14 → (lb (A a) e = true ↔ (e < 41 ∧ T e = true ∧ (F e = a ∨ G e = a)))
def NRi (T : Nat → Bool) (F G : Nat → Nat) (r : Nat → Int32) (i : Nat) : Prop := ∀ a b, a < 14 → (bt (r a) b = true ↔ ∃ e, e < i ∧ T e = true ∧ ends F G e a b)
def ARi (T : Nat → Bool) (F G : Nat → Nat) (A : Nat → Int64) (i : Nat) : Prop := ∀ a e, a < 14 → (lb (A a) e = true ↔ (e < i ∧ T e = true ∧ (F e = a ∨ G e = a)))
theorem b_sb' {k b : Nat} (hk : k < 32) : bt (sb k) b = true ↔ b = k := by
  rcases Nat.lt_or_ge b 32 with h | h
  · rw [b_sb hk h]; simp
  · rw [b_big h]; constructor
    · intro q; cases q
    · intro q; omega
theorem l_lsb' {k b : Nat} (hk : k < 64) : lb (lsb k) b = true ↔ b = k := by
  rcases Nat.lt_or_ge b 64 with h | h
  · rw [l_lsb hk h]; simp
  · rw [l_big h]; constructor
    · intro q; cases q
    · intro q; omega
theorem b_or' {x y : Int32} {i : Nat} : bt (x ||| y) i = true ↔ (bt x i = true ∨ bt y i = true) := by rw [b_or, Bool.or_eq_true]
theorem b_and' {x y : Int32} {i : Nat} : bt (x &&& y) i = true ↔ (bt x i = true ∧ bt y i = true) := by rw [b_and, Bool.and_eq_true]
theorem l_or' {x y : Int64} {i : Nat} : lb (x ||| y) i = true ↔ (lb x i = true ∨ lb y i = true) := by rw [l_or, Bool.or_eq_true]
theorem l_and' {x y : Int64} {i : Nat} : lb (x &&& y) i = true ↔ (lb x i = true ∧ lb y i = true) := by rw [l_and, Bool.and_eq_true]
theorem b_not' {x : Int32} {i : Nat} (hi : i < 32) : bt (x ^^^ (-1)) i = true ↔ bt x i = false := by rw [b_not x hi]; simp
theorem l_not' {x : Int64} {i : Nat} (hi : i < 64) : lb (x ^^^ (-1)) i = true ↔ lb x i = false := by rw [l_not x hi]; simp
theorem va_up_s {α : Type} (f : Nat → α) (k : Nat) (v : α) : va_up f k v k = v := by simp [va_up]
theorem va_up_o {α : Type} {f : Nat → α} {k j : Nat} (v : α) (h : j ≠ k) : va_up f k v j = f j := by simp [va_up, h]
theorem NRi_0 {T : Nat → Bool} {F G : Nat → Nat} {r : Nat → Int32} (h : ∀ j, j < 14 → r j = nI 0) : NRi T F G r 0 := by
  intro a b ha
  rw [h a ha, show nI 0 = 0 from nI_0, b_0]
  constructor
  · intro q; cases q
  · rintro ⟨e, he, -⟩; exact absurd he (Nat.not_lt_zero _)
theorem NRi_f {T : Nat → Bool} {F G : Nat → Nat} {r : Nat → Int32} {i : Nat} (h : NRi T F G r i) (c : T i = false) : NRi T F G r (i + 1) := by
  intro a b ha
  rw [h a b ha]
  constructor
  · rintro ⟨e, h1, h2⟩; exact ⟨e, by omega, h2⟩
  · rintro ⟨e, h1, h2, h3⟩
    by_cases q : e = i
    · subst q; rw [c] at h2; cases h2
    · exact ⟨e, by omega, h2, h3⟩
theorem NRi_t {T : Nat → Bool} {F G : Nat → Nat} {r : Nat → Int32} {i : Nat} (hF : ∀ k, F k < 14) (hG : ∀ k, G k < 14) (h : NRi T F G r i) (c : T i = true) :
    NRi T F G (va_up (va_up r (F i) (r (F i) ||| sb (G i))) (G i) (va_up r (F i) (r (F i) ||| sb (G i)) (G i) ||| sb (F i))) (i + 1) := by
  have h1 : ∀ a b, a < 14 → (bt (va_up r (F i) (r (F i) ||| sb (G i)) a) b = true ↔ (∃ e, e < i ∧ T e = true ∧ ends F G e a b) ∨ (F i = a ∧ G i = b)) := by
    intro a b ha
    by_cases q : a = F i
    · subst q
      rw [va_up_s, b_or', h _ b ha, b_sb' (by have := hG i; omega)]
      constructor
      · rintro (q | q)
        · exact Or.inl q
        · exact Or.inr ⟨rfl, q.symm⟩
      · rintro (q | q)
        · exact Or.inl q
        · exact Or.inr q.2.symm
    · rw [va_up_o _ q, h a b ha]
      constructor
      · exact Or.inl
      · rintro (z | z)
        · exact z
        · exact absurd z.1.symm q
  intro a b ha
  have h2 : bt (va_up (va_up r (F i) (r (F i) ||| sb (G i))) (G i) (va_up r (F i) (r (F i) ||| sb (G i)) (G i) ||| sb (F i)) a) b = true ↔ ((∃ e, e < i ∧ T e = true ∧ ends F G e a b) ∨ (F i = a ∧ G i = b)) ∨ (G i = a ∧ F i = b) := by
    by_cases q : a = G i
    · subst q
      rw [va_up_s, b_or', h1 _ b ha, b_sb' (by have := hF i; omega)]
      constructor
      · rintro (q | q)
        · exact Or.inl q
        · exact Or.inr ⟨rfl, q.symm⟩
      · rintro (q | q)
        · exact Or.inl q
        · exact Or.inr q.2.symm
    · rw [va_up_o _ q, h1 a b ha]
      constructor
      · exact Or.inl
      · rintro (z | z)
        · exact z
        · exact absurd z.1.symm q
  rw [h2]
  constructor
  · rintro ((⟨e, e1, e2, e3⟩ | q) | q)
    · exact ⟨e, by omega, e2, e3⟩
    · exact ⟨i, by omega, c, Or.inl q⟩
    · exact ⟨i, by omega, c, Or.inr q⟩
  · rintro ⟨e, e1, e2, e3⟩
    by_cases q : e = i
    · subst q
      rcases e3 with z | z
      · exact Or.inl (Or.inr z)
      · exact Or.inr z
    · exact Or.inl (Or.inl ⟨e, by omega, e2, e3⟩)
theorem ARi_0 {T : Nat → Bool} {F G : Nat → Nat} {A : Nat → Int64} (h : ∀ j, j < 14 → A j = 0) : ARi T F G A 0 := by
  intro a e ha
  rw [h a ha, l_0]
  constructor
  · intro q; cases q
  · rintro ⟨he, -⟩; exact absurd he (Nat.not_lt_zero _)
theorem ARi_f {T : Nat → Bool} {F G : Nat → Nat} {A : Nat → Int64} {i : Nat} (h : ARi T F G A i) (c : T i = false) : ARi T F G A (i + 1) := by
  intro a e ha
  rw [h a e ha]
  constructor
  · rintro ⟨h1, h2⟩; exact ⟨by omega, h2⟩
  · rintro ⟨h1, h2, h3⟩
    by_cases q : e = i
    · subst q; rw [c] at h2; cases h2
    · exact ⟨by omega, h2, h3⟩
theorem ARi_t {T : Nat → Bool} {F G : Nat → Nat} {A : Nat → Int64} {i : Nat} (hi : i < 41) (h : ARi T F G A i) (c : T i = true) :
    ARi T F G (va_up (va_up A (F i) (A (F i) ||| lsb i)) (G i) (va_up A (F i) (A (F i) ||| lsb i) (G i) ||| lsb i)) (i + 1) := by
  have h1 : ∀ a e, a < 14 → (lb (va_up A (F i) (A (F i) ||| lsb i) a) e = true ↔ (e < i ∧ T e = true ∧ (F e = a ∨ G e = a)) ∨ (e = i ∧ F i = a)) := by
    intro a e ha
    by_cases q : a = F i
    · subst q
      rw [va_up_s, l_or', h _ e ha, l_lsb' (by omega)]
      simp
    · rw [va_up_o _ q, h a e ha]
      constructor
      · exact Or.inl
      · rintro (z | z)
        · exact z
        · exact absurd z.2.symm q
  intro a e ha
  have h2 : lb (va_up (va_up A (F i) (A (F i) ||| lsb i)) (G i) (va_up A (F i) (A (F i) ||| lsb i) (G i) ||| lsb i) a) e = true ↔ ((e < i ∧ T e = true ∧ (F e = a ∨ G e = a)) ∨ (e = i ∧ F i = a)) ∨ (e = i ∧ G i = a) := by
    by_cases q : a = G i
    · subst q
      rw [va_up_s, l_or', h1 _ e ha, l_lsb' (by omega)]
      simp
    · rw [va_up_o _ q, h1 a e ha]
      constructor
      · exact Or.inl
      · rintro (z | z)
        · exact z
        · exact absurd z.2.symm q
  rw [h2]
  constructor
  · rintro ((⟨e1, e2, e3⟩ | ⟨q, q2⟩) | ⟨q, q2⟩)
    · exact ⟨by omega, e2, e3⟩
    · subst q; exact ⟨by omega, c, Or.inl q2⟩
    · subst q; exact ⟨by omega, c, Or.inr q2⟩
  · rintro ⟨e1, e2, e3⟩
    by_cases q : e = i
    · subst q
      rcases e3 with z | z
      · exact Or.inl (Or.inr ⟨rfl, z⟩)
      · exact Or.inr ⟨rfl, z⟩
    · exact Or.inl (Or.inl ⟨by omega, e2, e3⟩)
/-- the arcs at some nodes -/
def AtR (A : Nat → Int64) (so : Int32) (x : Int64) (i : Nat) : Prop := ∀ e, lb x e = true ↔ ∃ a, a < i ∧ bt so a = true ∧ lb (A a) e = true
theorem AtR_0 (A : Nat → Int64) (so : Int32) : AtR A so 0 0 := fun e => ⟨fun h => (by rw [l_0] at h; cases h), fun ⟨a, h, _⟩ => absurd h (Nat.not_lt_zero _)⟩
theorem AtR_t {A : Nat → Int64} {so : Int32} {x : Int64} {i : Nat} (h : AtR A so x i) (c : bt so i = true) : AtR A so (x ||| A i) (i + 1) := by
  intro e
  rw [l_or', h e]
  constructor
  · rintro (⟨a, a1, a2⟩ | q)
    · exact ⟨a, by omega, a2⟩
    · exact ⟨i, by omega, c, q⟩
  · rintro ⟨a, a1, a2, a3⟩
    by_cases q : a = i
    · subst q; exact Or.inr a3
    · exact Or.inl ⟨a, by omega, a2, a3⟩
theorem AtR_f {A : Nat → Int64} {so : Int32} {x : Int64} {i : Nat} (h : AtR A so x i) (c : bt so i = false) : AtR A so x (i + 1) := by
  intro e
  rw [h e]
  constructor
  · rintro ⟨a, a1, a2⟩; exact ⟨a, by omega, a2⟩
  · rintro ⟨a, a1, a2, a3⟩
    by_cases q : a = i
    · subst q; rw [c] at a2; cases a2
    · exact ⟨a, by omega, a2, a3⟩
