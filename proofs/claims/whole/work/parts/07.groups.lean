/-! ===== 07.groups: families of disjoint sets, closed under a relation that grows ===== -/
theorem l_dj {a b : Int64} : a &&& b = 0 ↔ ∀ e, lb a e = true → lb b e = true → False := by
  constructor
  · intro h e h1 h2
    have h3 : lb (a &&& b) e = true := by rw [l_and, h1, h2]; rfl
    rw [h, l_0] at h3; cases h3
  · intro h
    apply l_ext
    intro i _
    rw [l_and, l_0]
    cases h1 : lb a i
    · rfl
    · cases h2 : lb b i
      · rfl
      · exact (h i h1 h2).elim
theorem l_ne0 {a : Int64} (h : ¬ a = 0) : ∃ e, lb a e = true := by
  apply Classical.byContradiction
  intro hn
  apply h
  apply l_ext
  intro i _
  rw [l_0]
  cases h1 : lb a i
  · rfl
  · exact absurd ⟨i, h1⟩ hn
theorem php : ∀ (N z : Nat) (g : Nat → Nat), (∀ i, i < z → g i < N) → (∀ i j, i < z → j < z → g i = g j → i = j) → z ≤ N
  | 0, z, g, h, _ => by
    rcases Nat.eq_zero_or_pos z with q | q
    · omega
    · exact absurd (h 0 q) (Nat.not_lt_zero _)
  | N + 1, z, g, h, hi => by
    by_cases c : ∃ k, k < z ∧ g k = N
    · obtain ⟨k, hk, ek⟩ := c
      have hz : 0 < z := by omega
      -- the last takes k's place
      have := php N (z - 1) (fun i => if i = k then g (z - 1) else g i) (fun i h1 => by
        by_cases e : i = k
        · simp only [if_pos e]
          have h2 := h (z - 1) (by omega)
          have h3 : g (z - 1) ≠ N := fun q => by
            have := hi (z - 1) k (by omega) hk (q.trans ek.symm); omega
          omega
        · simp only [if_neg e]
          have h2 := h i (by omega)
          have h3 : g i ≠ N := fun q => e (hi i k (by omega) hk (q.trans ek.symm))
          omega) (fun i j h1 h2 hij => by
        by_cases e : i = k
        · by_cases f : j = k
          · omega
          · simp only [if_pos e, if_neg f] at hij
            have := hi (z - 1) j (by omega) (by omega) hij; omega
        · by_cases f : j = k
          · simp only [if_neg e, if_pos f] at hij
            have := hi i (z - 1) (by omega) (by omega) hij; omega
          · simp only [if_neg e, if_neg f] at hij
            exact hi i j (by omega) (by omega) hij)
      omega
    · have := php N z g (fun i h1 => by
        have h2 := h i h1
        have h3 : g i ≠ N := fun q => c ⟨i, h1, q⟩
        omega) hi
      omega
/-- a relation as joins make it -/
def GL (L : Nat → Nat → Prop) : Prop := (∀ e f, L e f → L f e) ∧ ∀ e f, L e f → L e e
/-- the first z sets of S are the classes of what L joins -/
def GPI (L : Nat → Nat → Prop) (S : Nat → Int64) (z : Nat) : Prop :=
  (∀ i, i < z → ∃ e, lb (S i) e = true) ∧ (∀ i e, i < z → lb (S i) e = true → e < 41 ∧ L e e) ∧ (∀ e, L e e → ∃ i, i < z ∧ lb (S i) e = true) ∧
  (∀ i e f, i < z → lb (S i) e = true → (lb (S i) f = true ↔ Rc L e f)) ∧ ∀ i j e, i < z → j < z → lb (S i) e = true → lb (S j) e = true → i = j
theorem GPI.le {L : Nat → Nat → Prop} {S : Nat → Int64} {z : Nat} (h : GPI L S z) : z ≤ 41 := by
  obtain ⟨h1, h2, -, -, h5⟩ := h
  refine php 41 z (fun i => if hi : i < z then Classical.choose (h1 i hi) else 0) (fun i hi => ?_) (fun i j hi hj e => ?_)
  · simp only [dif_pos hi]; exact (h2 i _ hi (Classical.choose_spec (h1 i hi))).1
  · simp only [dif_pos hi, dif_pos hj] at e
    exact h5 i j _ hi hj (Classical.choose_spec (h1 i hi)) (by rw [e]; exact Classical.choose_spec (h1 j hj))
def Ls (L : Nat → Nat → Prop) (so : Int64) : Nat → Nat → Prop := fun e f => L e f ∨ (lb so e = true ∧ lb so f = true)
theorem GL_s {L : Nat → Nat → Prop} (h : GL L) (so : Int64) : GL (Ls L so) :=
  ⟨fun e f q => q.elim (fun q => Or.inl (h.1 e f q)) (fun q => Or.inr ⟨q.2, q.1⟩), fun e f q => q.elim (fun q => Or.inl (h.2 e f q)) (fun q => Or.inr ⟨q.1, q.1⟩)⟩
theorem GPI_0 (S : Nat → Int64) : GPI (fun _ _ => False) S 0 :=
  ⟨fun _ h => absurd h (Nat.not_lt_zero _), fun _ _ h => absurd h (Nat.not_lt_zero _), fun _ h => h.elim, fun _ _ _ h => absurd h (Nat.not_lt_zero _), fun _ _ _ h => absurd h (Nat.not_lt_zero _)⟩
/-- within a join: i sets were looked at, q of them are kept -/
def jnI (S : Nat → Int64) (so : Int64) (S' : Nat → Int64) (J : Int64) (q i : Nat) : Prop :=
  q ≤ i ∧ (∀ j, i ≤ j → S' j = S j) ∧ (∃ k : Nat → Nat, (∀ j, j < q → k j < i ∧ S' j = S (k j) ∧ S (k j) &&& so = 0) ∧ (∀ a b, a < q → b < q → k a = k b → a = b) ∧ ∀ i0, i0 < i → S i0 &&& so = 0 → ∃ j, j < q ∧ k j = i0) ∧
  ∀ e, lb J e = true ↔ (lb so e = true ∨ ∃ i0, i0 < i ∧ ¬ S i0 &&& so = 0 ∧ lb (S i0) e = true)
theorem jnI_0 (S : Nat → Int64) (so : Int64) : jnI S so S so 0 0 :=
  ⟨Nat.le_refl 0, fun _ _ => rfl, ⟨fun j => j, fun _ h => absurd h (Nat.not_lt_zero _), fun _ _ h => absurd h (Nat.not_lt_zero _), fun _ h => absurd h (Nat.not_lt_zero _)⟩, fun e => ⟨Or.inl, fun h => h.elim id (fun ⟨_, h, _⟩ => absurd h (Nat.not_lt_zero _))⟩⟩
theorem jnI_j {S : Nat → Int64} {so : Int64} {S' : Nat → Int64} {J : Int64} {q i : Nat} (h : jnI S so S' J q i) (c : ¬ S' i &&& so = 0) : jnI S so S' (J ||| S' i) q (i + 1) := by
  obtain ⟨h1, h2, ⟨k, k1, k2, k3⟩, h4⟩ := h
  rw [h2 i (Nat.le_refl i)] at c ⊢
  refine ⟨by omega, fun j hj => h2 j (by omega), ⟨k, fun j hj => ⟨by have := (k1 j hj).1; omega, (k1 j hj).2⟩, k2, fun i0 hi0 hd => ?_⟩, fun e => ?_⟩
  · by_cases e : i0 = i
    · subst e; exact absurd hd c
    · exact k3 i0 (by omega) hd
  · rw [l_or, Bool.or_eq_true, h4 e]
    constructor
    · rintro ((h | ⟨i0, a1, a2, a3⟩) | h)
      · exact Or.inl h
      · exact Or.inr ⟨i0, by omega, a2, a3⟩
      · exact Or.inr ⟨i, by omega, c, h⟩
    · rintro (h | ⟨i0, a1, a2, a3⟩)
      · exact Or.inl (Or.inl h)
      · by_cases e0 : i0 = i
        · subst e0; exact Or.inr a3
        · exact Or.inl (Or.inr ⟨i0, by omega, a2, a3⟩)
theorem jnI_k {S : Nat → Int64} {so : Int64} {S' : Nat → Int64} {J : Int64} {q i : Nat} (h : jnI S so S' J q i) (c : S' i &&& so = 0) : jnI S so (va_up S' q (S' i)) J (q + 1) (i + 1) := by
  obtain ⟨h1, h2, ⟨k, k1, k2, k3⟩, h4⟩ := h
  rw [h2 i (Nat.le_refl i)] at c ⊢
  refine ⟨by omega, fun j hj => ?_, ⟨va_up k q i, fun j hj => ?_, fun a b ha hb hk => ?_, fun i0 hi0 hd => ?_⟩, fun e => ?_⟩
  · have : j ≠ q := by omega
    simp only [va_up, if_neg this]; exact h2 j (by omega)
  · by_cases e : j = q
    · subst e; simp only [va_up, if_true]; exact ⟨by omega, trivial, c⟩
    · simp only [va_up, if_neg e]
      have := k1 j (by omega)
      exact ⟨by omega, this.2⟩
  · by_cases e : a = q
    · by_cases f : b = q
      · omega
      · simp only [va_up, if_pos e, if_neg f] at hk
        have := (k1 b (by omega)).1; omega
    · by_cases f : b = q
      · simp only [va_up, if_neg e, if_pos f] at hk
        have := (k1 a (by omega)).1; omega
      · simp only [va_up, if_neg e, if_neg f] at hk
        exact k2 a b (by omega) (by omega) hk
  · by_cases e : i0 = i
    · exact ⟨q, by omega, by simp [va_up, e]⟩
    · obtain ⟨j, hj, ej⟩ := k3 i0 (by omega) hd
      have : j ≠ q := by omega
      exact ⟨j, by omega, by simp only [va_up, if_neg this]; exact ej⟩
  · rw [h4 e]
    constructor
    · rintro (h | ⟨i0, a1, a2, a3⟩)
      · exact Or.inl h
      · exact Or.inr ⟨i0, by omega, a2, a3⟩
    · rintro (h | ⟨i0, a1, a2, a3⟩)
      · exact Or.inl h
      · by_cases e0 : i0 = i
        · subst e0; exact absurd c a2
        · exact Or.inr ⟨i0, by omega, a2, a3⟩
/-- a class that has nothing of so stays -/
theorem cls_keep {L : Nat → Nat → Prop} {S : Nat → Int64} {z : Nat} (hG : GPI L S z) {so : Int64} {i0 : Nat} (hi : i0 < z) (hd : S i0 &&& so = 0) {e f : Nat} (he : lb (S i0) e = true) : lb (S i0) f = true ↔ Rc (Ls L so) e f := by
  obtain ⟨h1, h2, h3, h4, h5⟩ := hG
  constructor
  · intro hf
    exact ((h4 i0 e f hi he).mp hf).mono (fun _ _ q => Or.inl q)
  · intro hr
    exact hr (fun x => lb (S i0) x = true) he (fun x y hx q => q.elim (fun q => (h4 i0 x y hi hx).mpr (Rc.one q)) (fun q => (l_dj.mp hd x hx q.1).elim))
theorem jnI_z {L : Nat → Nat → Prop} {S : Nat → Int64} {z : Nat} (hL : GL L) (hG : GPI L S z) {so : Int64} (hso : ∀ e, lb so e = true → e < 41) {S' : Nat → Int64} {J : Int64} {q : Nat} (h : jnI S so S' J q z) (hJ : ¬ J = 0) : GPI (Ls L so) (va_up S' q J) (q + 1) := by
  have hG0 := hG
  obtain ⟨h1, h2, h3, h4, h5⟩ := hG
  obtain ⟨-, -, ⟨k, k1, k2, k3⟩, j4⟩ := h
  have hne : ∀ j, j < q → va_up S' q J j = S (k j) := fun j hj => by
    have : j ≠ q := by omega
    simp only [va_up, if_neg this]; exact (k1 j hj).2.1
  have hq : va_up S' q J q = J := by simp [va_up]
  have hmeet : ∀ {i0 : Nat}, ¬ S i0 &&& so = 0 → ∃ y, lb (S i0) y = true ∧ lb so y = true := by
    intro i0 hn
    obtain ⟨y, hy⟩ := l_ne0 hn
    rw [l_and, Bool.and_eq_true] at hy
    exact ⟨y, hy⟩
  have hto : ∀ x, lb J x = true → ∃ y, lb so y = true ∧ Rc (Ls L so) x y := by
    intro x hx
    rcases (j4 x).mp hx with q1 | ⟨i0, a1, a2, a3⟩
    · exact ⟨x, q1, Rc.rf _ _⟩
    · obtain ⟨y, y1, y2⟩ := hmeet a2
      exact ⟨y, y2, ((h4 i0 x y a1 a3).mp y1).mono (fun _ _ q => Or.inl q)⟩
  have hcl : ∀ x y, lb J x = true → Ls L so x y → lb J y = true := by
    intro x y hx hxy
    rcases hxy with hxy | hxy
    · obtain ⟨i0, a1, a2⟩ := h3 x (hL.2 x y hxy)
      have hn : ¬ S i0 &&& so = 0 := by
        rcases (j4 x).mp hx with q1 | ⟨i1, b1, b2, b3⟩
        · exact fun hd => l_dj.mp hd x a2 q1
        · rw [h5 i0 i1 x a1 b1 a2 b3]; exact b2
      exact (j4 y).mpr (Or.inr ⟨i0, a1, hn, (h4 i0 x y a1 a2).mpr (Rc.one hxy)⟩)
    · exact (j4 y).mpr (Or.inl hxy.2)
  refine ⟨fun i hi => ?_, fun i e hi he => ?_, fun e he => ?_, fun i e f hi he => ?_, fun i j e hi hj he hf => ?_⟩
  · by_cases c : i = q
    · subst c; rw [hq]; exact l_ne0 hJ
    · rw [hne i (by omega)]; exact h1 _ (k1 i (by omega)).1
  · by_cases c : i = q
    · subst c; rw [hq] at he
      rcases (j4 e).mp he with q1 | ⟨i0, a1, a2, a3⟩
      · exact ⟨hso e q1, Or.inr ⟨q1, q1⟩⟩
      · have := h2 i0 e a1 a3; exact ⟨this.1, Or.inl this.2⟩
    · rw [hne i (by omega)] at he
      have := h2 _ e (k1 i (by omega)).1 he; exact ⟨this.1, Or.inl this.2⟩
  · rcases he with he | he
    · obtain ⟨i0, a1, a2⟩ := h3 e he
      by_cases hd : S i0 &&& so = 0
      · obtain ⟨j, hj, ej⟩ := k3 i0 a1 hd
        exact ⟨j, by omega, by rw [hne j hj, ej]; exact a2⟩
      · exact ⟨q, by omega, by rw [hq]; exact (j4 e).mpr (Or.inr ⟨i0, a1, hd, a2⟩)⟩
    · exact ⟨q, by omega, by rw [hq]; exact (j4 e).mpr (Or.inl he.1)⟩
  · by_cases c : i = q
    · subst c; rw [hq] at he ⊢
      constructor
      · intro hf
        obtain ⟨y1, a1, a2⟩ := hto e he
        obtain ⟨y2, b1, b2⟩ := hto f hf
        exact (a2.step (Or.inr ⟨a1, b1⟩)).trans (b2.symm (fun x y => (GL_s hL so).1 x y))
      · intro hr
        exact hr (fun x => lb J x = true) he hcl
    · have hk := k1 i (by omega)
      rw [hne i (by omega)] at he ⊢
      exact cls_keep hG0 hk.1 hk.2.2 he
  · have main : ∀ j, j < q → lb (S (k j)) e = true → lb J e = true → False := by
      intro j hj a b
      have hk := k1 j hj
      rcases (j4 e).mp b with q1 | ⟨i0, a1, a2, a3⟩
      · exact l_dj.mp hk.2.2 e a q1
      · rw [← h5 (k j) i0 e hk.1 a1 a a3] at a2; exact a2 hk.2.2
    by_cases c : i = q
    · by_cases d : j = q
      · omega
      · rw [c, hq] at he; rw [hne j (by omega)] at hf
        exact (main j (by omega) hf he).elim
    · by_cases d : j = q
      · rw [d, hq] at hf; rw [hne i (by omega)] at he
        exact (main i (by omega) he hf).elim
      · rw [hne i (by omega)] at he; rw [hne j (by omega)] at hf
        exact k2 i j (by omega) (by omega) (h5 _ _ e (k1 i (by omega)).1 (k1 j (by omega)).1 he hf)
theorem jnI_e {L : Nat → Nat → Prop} {S : Nat → Int64} {z : Nat} (hG : GPI L S z) {so : Int64} {S' : Nat → Int64} {J : Int64} {q : Nat} (h : jnI S so S' J q z) (hJ : J = 0) : GPI (Ls L so) S' q := by
  have hG0 := hG
  obtain ⟨h1, h2, h3, h4, h5⟩ := hG
  obtain ⟨-, -, ⟨k, k1, k2, k3⟩, j4⟩ := h
  have hs : ∀ e, lb so e = true → False := fun e he => by
    have := (j4 e).mpr (Or.inl he); rw [hJ, l_0] at this; cases this
  have hd : ∀ i0, S i0 &&& so = 0 := fun i0 => l_dj.mpr (fun e _ h => hs e h)
  refine ⟨fun i hi => ?_, fun i e hi he => ?_, fun e he => ?_, fun i e f hi he => ?_, fun i j e hi hj he hf => ?_⟩
  · rw [(k1 i hi).2.1]; exact h1 _ (k1 i hi).1
  · rw [(k1 i hi).2.1] at he
    have := h2 _ e (k1 i hi).1 he; exact ⟨this.1, Or.inl this.2⟩
  · rcases he with he | he
    · obtain ⟨i0, a1, a2⟩ := h3 e he
      obtain ⟨j, hj, ej⟩ := k3 i0 a1 (hd i0)
      exact ⟨j, hj, by rw [(k1 j hj).2.1, ej]; exact a2⟩
    · exact (hs e he.1).elim
  · rw [(k1 i hi).2.1] at he ⊢
    exact cls_keep hG0 (k1 i hi).1 (hd _) he
  · rw [(k1 i hi).2.1] at he; rw [(k1 j hj).2.1] at hf
    exact k2 i j hi hj (h5 _ _ e (k1 i hi).1 (k1 j hj).1 he hf)
