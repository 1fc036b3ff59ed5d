/-! ===== 54.model5: out, least cuts by trying all sets, blocks laid in a row ===== -/
theorem ou_t {ar : Nat} {P : Nat → Bool} {F G : Nat → Nat} {st : Int32} {e : Nat} (h : e = ar ∨ P e = true) (h2 : bt st (F e) ≠ bt st (G e)) : ouB ar P F G st e = true := by
  unfold ouB
  rw [Bool.and_eq_true, bne_iff_ne]
  refine ⟨?_, h2⟩
  rcases h with q | q
  · rw [decide_eq_true q]; rfl
  · rw [q, Bool.or_true]
theorem ou_f1 {ar : Nat} {P : Nat → Bool} {F G : Nat → Nat} {st : Int32} {e : Nat} (h : e ≠ ar) (h2 : P e = false) : ouB ar P F G st e = false := by
  unfold ouB
  rw [decide_eq_false h, h2]; rfl
theorem ou_f2 {ar : Nat} {P : Nat → Bool} {F G : Nat → Nat} {st : Int32} {e : Nat} (h2 : bt st (F e) = bt st (G e)) : ouB ar P F G st e = false := by
  unfold ouB
  rw [h2, bne_self_eq_false, Bool.and_false]
def okS (a b s : Nat) : Prop := bt (nI s) a = true ∧ bt (nI s) b = false
def ouN (ar : Nat) (P : Nat → Bool) (F G : Nat → Nat) (s : Nat) : Nat := cn (ouB ar P F G (nI s)) (ar + 0)
def loI (ar : Nat) (P : Nat → Bool) (F G : Nat → Nat) (a b fw bs s : Nat) : Prop :=
  (fw = 100 ∧ bs = 0 ∧ ∀ x, x < s → ¬ okS a b x) ∨ (bs < s ∧ okS a b bs ∧ fw = ouN ar P F G bs ∧ ∀ x, x < s → okS a b x → (ouN ar P F G bs < ouN ar P F G x ∨ (ouN ar P F G bs = ouN ar P F G x ∧ cn (bt (nI bs)) 16 ≤ cn (bt (nI x)) 16)))
theorem loI_0 {ar : Nat} {P : Nat → Bool} {F G : Nat → Nat} {a b : Nat} : loI ar P F G a b 100 0 0 := Or.inl ⟨rfl, rfl, fun _ h => absurd h (Nat.not_lt_zero _)⟩
theorem loI_f {ar : Nat} {P : Nat → Bool} {F G : Nat → Nat} {a b fw bs s : Nat} (h : loI ar P F G a b fw bs s) (c : ¬ okS a b s) : loI ar P F G a b fw bs (s + 1) := by
  rcases h with ⟨h1, h2, h3⟩ | ⟨h1, h2, h3, h4⟩
  · exact Or.inl ⟨h1, h2, lt_s h3 c⟩
  · exact Or.inr ⟨by omega, h2, h3, lt_s h4 (fun q => absurd q c)⟩
theorem loI_k {ar : Nat} {P : Nat → Bool} {F G : Nat → Nat} {a b fw bs s : Nat} (har : ar ≤ 40) (h : loI ar P F G a b fw bs s) (c1 : ¬ ouN ar P F G s < fw) (c2 : ouN ar P F G s ≠ fw ∨ cn (bt (nI bs)) 16 ≤ cn (bt (nI s)) 16) : loI ar P F G a b fw bs (s + 1) := by
  have ho : ouN ar P F G s ≤ 40 := Nat.le_trans (cn_le _ _) (by omega)
  rcases h with ⟨h1, h2, h3⟩ | ⟨h1, h2, h3, h4⟩
  · omega
  · refine Or.inr ⟨by omega, h2, h3, lt_s h4 (fun _ => ?_)⟩
    rcases c2 with q | q
    · exact Or.inl (by omega)
    · by_cases z : ouN ar P F G bs < ouN ar P F G s
      · exact Or.inl z
      · exact Or.inr ⟨by omega, q⟩
theorem loI_t {ar : Nat} {P : Nat → Bool} {F G : Nat → Nat} {a b fw bs s : Nat} (h : loI ar P F G a b fw bs s) (c : okS a b s) (c1 : ouN ar P F G s < fw ∨ (ouN ar P F G s = fw ∧ cn (bt (nI s)) 16 < cn (bt (nI bs)) 16)) : loI ar P F G a b (ouN ar P F G s) s (s + 1) := by
  refine Or.inr ⟨by omega, c, rfl, fun x hx ho => ?_⟩
  by_cases e : x = s
  · subst e; exact Or.inr ⟨rfl, Nat.le_refl _⟩
  · rcases h with ⟨h1, h2, h3⟩ | ⟨h1, h2, h3, h4⟩
    · exact absurd ho (h3 x (by omega))
    · rcases h4 x (by omega) ho with q | q
      · rcases c1 with z | z
        · exact Or.inl (by omega)
        · exact Or.inl (by omega)
      · rcases c1 with z | z
        · exact Or.inl (by omega)
        · exact Or.inr ⟨by omega, by omega⟩
theorem sb_pow : ∀ n, n < 15 → sb n = nI (2 ^ n) := by decide +kernel
theorem pow_le : ∀ n, n < 15 → 2 ^ n ≤ 16384 := by decide +kernel
/-- a block's arcs in a row -/
def lbI (Q : Nat → Prop) (Ob : Nat → Nat) (bz i : Nat) : Prop := (∀ k, k < bz → Ob k < i ∧ Q (Ob k)) ∧ (∀ k l, k < l → l < bz → Ob k < Ob l) ∧ (∀ f, f < i → Q f → ∃ k, k < bz ∧ Ob k = f) ∧ bz ≤ i
theorem lbI_0 (Q : Nat → Prop) (Ob : Nat → Nat) : lbI Q Ob 0 0 := ⟨fun _ h => absurd h (Nat.not_lt_zero _), fun _ _ _ h => absurd h (Nat.not_lt_zero _), fun _ h => absurd h (Nat.not_lt_zero _), Nat.le_refl _⟩
theorem lbI_f {Q : Nat → Prop} {Ob : Nat → Nat} {bz i : Nat} (h : lbI Q Ob bz i) (c : ¬ Q i) : lbI Q Ob bz (i + 1) :=
  ⟨fun k hk => ⟨by have := (h.1 k hk).1; omega, (h.1 k hk).2⟩, h.2.1, lt_s h.2.2.1 (fun q => absurd q c), by have := h.2.2.2; omega⟩
theorem lbI_t {Q : Nat → Prop} {Ob : Nat → Nat} {bz i : Nat} (h : lbI Q Ob bz i) (c : Q i) : lbI Q (va_up Ob bz i) (bz + 1) (i + 1) := by
  obtain ⟨h1, h2, h3, h4⟩ := h
  refine ⟨fun k hk => ?_, fun k l hkl hl => ?_, fun f hf hq => ?_, by omega⟩
  · by_cases e : k = bz
    · subst e; rw [va_up_s]; exact ⟨by omega, c⟩
    · rw [va_up_o _ e]; have := h1 k (by omega); exact ⟨by omega, this.2⟩
  · by_cases e : l = bz
    · subst e; rw [va_up_s, va_up_o _ (by omega)]; exact (h1 k (by omega)).1
    · rw [va_up_o _ e, va_up_o _ (by omega)]; exact h2 k l hkl (by omega)
  · by_cases e : f = i
    · subst e; exact ⟨bz, by omega, by rw [va_up_s]⟩
    · obtain ⟨k, k1, k2⟩ := h3 f (by omega) hq
      exact ⟨k, by omega, by rw [va_up_o _ (by omega)]; exact k2⟩
/-- the nodes of some arcs of the row -/
def tcI (F G Ob : Nat → Nat) (st x : Int32) (i : Nat) : Prop := ∀ y, bt x y = true ↔ ∃ k, k < i ∧ bt st k = true ∧ (y = F (Ob k) ∨ y = G (Ob k))
theorem tcI_0 (F G Ob : Nat → Nat) (st : Int32) : tcI F G Ob st (nI 0) 0 := fun y => ⟨fun h => (by rw [show nI 0 = 0 from nI_0, b_0] at h; cases h), fun ⟨k, h, _⟩ => absurd h (Nat.not_lt_zero _)⟩
theorem tcI_f {F G Ob : Nat → Nat} {st x : Int32} {i : Nat} (h : tcI F G Ob st x i) (c : bt st i = false) : tcI F G Ob st x (i + 1) := by
  intro y
  rw [h y]
  constructor
  · rintro ⟨k, k1, k2⟩; exact ⟨k, by omega, k2⟩
  · rintro ⟨k, k1, k2, k3⟩
    by_cases e : k = i
    · subst e; rw [c] at k2; cases k2
    · exact ⟨k, by omega, k2, k3⟩
theorem tcI_t {F G Ob : Nat → Nat} {st x : Int32} {i : Nat} (hF : ∀ k, F k < 14) (hG : ∀ k, G k < 14) (h : tcI F G Ob st x i) (c : bt st i = true) : tcI F G Ob st ((x ||| sb (F (Ob i))) ||| sb (G (Ob i))) (i + 1) := by
  intro y
  rw [b_or', b_or', h y, b_sb' (by have := hF (Ob i); omega), b_sb' (by have := hG (Ob i); omega)]
  constructor
  · rintro ((⟨k, k1, k2⟩ | q) | q)
    · exact ⟨k, by omega, k2⟩
    · exact ⟨i, by omega, c, Or.inl q⟩
    · exact ⟨i, by omega, c, Or.inr q⟩
  · rintro ⟨k, k1, k2, k3⟩
    by_cases e : k = i
    · subst e; rcases k3 with q | q
      · exact Or.inl (Or.inr q)
      · exact Or.inr q
    · exact Or.inl (Or.inl ⟨k, by omega, k2, k3⟩)
