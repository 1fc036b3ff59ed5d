/-! ===== 61.pub2: words for nodes, between, mends, way, together, splits of the reference ===== -/
def noQ (ar : Nat) (P : Nat → Bool) (F G : Nat → Nat) (a b x : Nat) : Prop := (nI x &&& (sb a ||| sb b)) = 0 ∧ ¬ Rc (ad (lkT ar 0 P (-1) (-1) (nI x) F G) F G) a b
def noI (Q : Nat → Prop) (fw s : Nat) : Prop := (fw = 100 ∧ ∀ x, x < s → ¬ Q x) ∨ (∃ t, t < s ∧ Q t ∧ fw = cn (bt (nI t)) 16 ∧ ∀ x, x < s → Q x → fw ≤ cn (bt (nI x)) 16)
theorem noI_0 {Q : Nat → Prop} : noI Q 100 0 := Or.inl ⟨rfl, fun _ h => absurd h (Nat.not_lt_zero _)⟩
theorem noI_f {Q : Nat → Prop} {fw s : Nat} (h : noI Q fw s) (c : ¬ Q s) : noI Q fw (s + 1) := by
  rcases h with ⟨h1, h2⟩ | ⟨t, h1, h2, h3, h4⟩
  · exact Or.inl ⟨h1, lt_s h2 c⟩
  · exact Or.inr ⟨t, by omega, h2, h3, lt_s h4 (fun q => absurd q c)⟩
theorem noI_k {Q : Nat → Prop} {fw s : Nat} (h : noI Q fw s) (c : fw ≤ cn (bt (nI s)) 16) : noI Q fw (s + 1) := by
  have h16 := cn_le (bt (nI s)) 16
  rcases h with ⟨h1, h2⟩ | ⟨t, h1, h2, h3, h4⟩
  · omega
  · exact Or.inr ⟨t, by omega, h2, h3, lt_s h4 (fun _ => c)⟩
theorem noI_t {Q : Nat → Prop} {fw s : Nat} (h : noI Q fw s) (c : Q s) (c2 : cn (bt (nI s)) 16 < fw) : noI Q (cn (bt (nI s)) 16) (s + 1) := by
  refine Or.inr ⟨s, by omega, c, rfl, ?_⟩
  rcases h with ⟨h1, h2⟩ | ⟨t, h1, h2, h3, h4⟩
  · exact lt_s (fun x hx q => absurd q (h2 x hx)) (fun _ => Nat.le_refl _)
  · exact lt_s (fun x hx q => Nat.le_trans (Nat.le_of_lt c2) (h4 x hx q)) (fun _ => Nat.le_refl _)
theorem noI_le {Q : Nat → Prop} {fw s : Nat} (h : noI Q fw s) : fw ≤ 100 := by
  rcases h with ⟨h1, h2⟩ | ⟨t, h1, h2, h3, h4⟩
  · omega
  · have := cn_le (bt (nI t)) 16; omega
noncomputable def bmB (ar : Nat) (P : Nat → Bool) (F G : Nat → Nat) (a b k : Nat) : Bool := dc (k ≠ a ∧ k ≠ b ∧ ¬ Rc (ad (lkT ar 0 P (-1) (-1) (sb k) F G) F G) a b)
theorem ndM_lt {ar mo nd : Nat} {P : Nat → Bool} {F G : Nat → Nat} {W : Nat → Int32} (h : nd ≤ 14) : ndM ar mo nd P F G W < 2 ^ 31 := by
  have := sm_le (lkW_le ar mo P F G W) nd
  unfold ndM
  split <;> omega
def neM (ar mo nd : Nat) (P : Nat → Bool) (F G : Nat → Nat) (v : Nat) : Prop := ∃ W, twI ar mo nd P F G W (ar + mo) ∧ v = ndM ar mo nd P F G W
theorem neM_lt {ar mo nd : Nat} {P : Nat → Bool} {F G : Nat → Nat} {v : Nat} (h : nd ≤ 14) (k : neM ar mo nd P F G v) : v < 2 ^ 31 := by
  obtain ⟨W, _, k⟩ := k; rw [k]; exact ndM_lt h
theorem upm_lt {F : Nat → Nat} {i a n : Nat} (h : ∀ k, F k < n) (ha : a < n) : ∀ k, va_up F i a k < n := fun k => by
  by_cases e : k = i
  · rw [e, va_up_s]; exact ha
  · rw [va_up_o _ e]; exact h k
theorem up_M {F G : Nat → Nat} {nd ar a b : Nat} (h : ∀ e, e < ar → F e < nd ∧ G e < nd) (ha : a < nd) (hb : b < nd) : ∀ e, e < ar + 1 → va_up F ar a e < nd ∧ va_up G ar b e < nd := fun e he => by
  by_cases q : e = ar
  · rw [q, va_up_s, va_up_s]; exact ⟨ha, hb⟩
  · rw [va_up_o _ q, va_up_o _ q]; exact h e (by omega)
/-- the first directions, by the reference -/
def tdC (Td : Nat → Nat) (e k : Nat) : Nat := if k < e then Td k else if k = e then 1 else 0
def wyG (ar : Nat) (P : Nat → Bool) (F G : Nat → Nat) (pt : Int32) (Td : Nat → Nat) (e : Nat) : Prop := ctR (dE ar P (tdC Td e) F G) (F e) pt ∧ ctR (dE ar P (tdC Td e) G F) (F e) pt
def wyI (ar : Nat) (P : Nat → Bool) (F G : Nat → Nat) (pt : Int32) (Td : Nat → Nat) (i : Nat) : Prop :=
  (∀ e, e < i → ((P e = true ∧ bt pt (F e) = true) → (Td e = 1 ∧ wyG ar P F G pt Td e) ∨ (Td e = 2 ∧ ¬ wyG ar P F G pt Td e)) ∧ (¬ (P e = true ∧ bt pt (F e) = true) → Td e = 0)) ∧ ∀ e, i ≤ e → e < ar → Td e = 0
theorem dE_c {ar : Nat} {P : Nat → Bool} {Td Te A B : Nat → Nat} (h : ∀ e, e < ar → Td e = Te e) : dE ar P Td A B = dE ar P Te A B := by
  funext a b
  apply propext
  unfold dE
  constructor
  · rintro ⟨e, h1, h2, h3⟩; rw [h e h1] at h3; exact ⟨e, h1, h2, h3⟩
  · rintro ⟨e, h1, h2, h3⟩; rw [← h e h1] at h3; exact ⟨e, h1, h2, h3⟩
theorem wyG_c {ar : Nat} {P : Nat → Bool} {F G : Nat → Nat} {pt : Int32} {Td Te : Nat → Nat} {e : Nat} (h : ∀ k, k < e → Td k = Te k) : wyG ar P F G pt Td e = wyG ar P F G pt Te e := by
  have : tdC Td e = tdC Te e := by
    funext k
    unfold tdC
    by_cases q : k < e
    · rw [if_pos q, if_pos q, h k q]
    · rw [if_neg q, if_neg q]
  unfold wyG
  rw [this]
theorem wy_td {ar : Nat} {P : Nat → Bool} {F G : Nat → Nat} {pt : Int32} {Td : Nat → Nat} {i : Nat} (h : wyI ar P F G pt Td i) : ∀ e, e < ar → va_up Td i 1 e = tdC Td i e := fun e he => by
  unfold tdC
  by_cases q : e = i
  · rw [q, va_up_s, if_neg (Nat.lt_irrefl _), if_pos rfl]
  · rw [va_up_o _ q]
    by_cases z : e < i
    · rw [if_pos z]
    · rw [if_neg z, if_neg q]; exact h.2 e (by omega) he
theorem wyI_0 {ar : Nat} {P : Nat → Bool} {F G : Nat → Nat} {pt : Int32} {Td : Nat → Nat} (h : ∀ e, e < ar → Td e = 0) : wyI ar P F G pt Td 0 := ⟨fun _ h => absurd h (Nat.not_lt_zero _), fun e _ => h e⟩
theorem wyI_f {ar : Nat} {P : Nat → Bool} {F G : Nat → Nat} {pt : Int32} {Td : Nat → Nat} {i : Nat} (hi : i < ar) (h : wyI ar P F G pt Td i) (c : ¬ (P i = true ∧ bt pt (F i) = true)) : wyI ar P F G pt Td (i + 1) :=
  ⟨lt_s h.1 ⟨fun q => absurd q c, fun _ => h.2 i (Nat.le_refl _) hi⟩, fun e h1 h2 => h.2 e (by omega) h2⟩
theorem wyI_n {ar : Nat} {P : Nat → Bool} {F G : Nat → Nat} {pt : Int32} {Td : Nat → Nat} {i v : Nat} (h : wyI ar P F G pt Td i) (c : P i = true ∧ bt pt (F i) = true) (hv : (v = 1 ∧ wyG ar P F G pt Td i) ∨ (v = 2 ∧ ¬ wyG ar P F G pt Td i)) : wyI ar P F G pt (va_up (va_up Td i 1) i v) (i + 1) := by
  have hu : ∀ k, k ≠ i → va_up (va_up Td i 1) i v k = Td k := fun k hk => by rw [va_up_o _ hk, va_up_o _ hk]
  refine ⟨fun e he => ?_, fun e h1 h2 => by rw [hu e (by omega)]; exact h.2 e (by omega) h2⟩
  rw [wyG_c (Te := Td) (fun k hk => hu k (by omega))]
  by_cases q : e = i
  · subst q
    rw [va_up_s]
    exact ⟨fun _ => hv, fun z => absurd c z⟩
  · rw [hu e q]; exact h.1 e (by omega)
theorem wy_g {ar : Nat} {P : Nat → Bool} {F G : Nat → Nat} {pt : Int32} {Td : Nat → Nat} {i : Nat} (h : wyI ar P F G pt Td i) : wyG ar P F G pt Td i ↔ (ctR (dE ar P (va_up Td i 1) F G) (F i) pt ∧ ctR (dE ar P (va_up Td i 1) G F) (F i) pt) := by
  rw [dE_c (Te := tdC Td i) (wy_td h), dE_c (Te := tdC Td i) (wy_td h)]; exact Iff.rfl
/-- the row of a block -/
theorem lb_inj {Q : Nat → Prop} {Ob : Nat → Nat} {bz i k q x : Nat} (h : lbI Q Ob bz i) (hq : q < bz) (hqx : Ob q = x) (hk : k ≤ q) (hkx : Ob k = x) : k = q := by
  by_cases e : k = q
  · exact e
  · have := h.2.1 k q (by omega) hq; omega
theorem lb_cn {Q : Nat → Prop} {Ob : Nat → Nat} {bz i : Nat} (h : lbI Q Ob bz i) : bz = cn (fun f => dc (Q f)) i := by
  have a : bz ≤ cn (fun f => dc (Q f)) i := cn_inj i bz Ob (fun k hk => ⟨(h.1 k hk).1, dc_t.mpr (h.1 k hk).2⟩) (fun k l hk hl e => by
    rcases Nat.lt_trichotomy k l with q | q | q
    · have := h.2.1 k l q hl; omega
    · exact q
    · have := h.2.1 l k q hk; omega)
  have key : ∀ (n : Nat) (Ob : Nat → Nat) (bz : Nat), (∀ k, k < bz → Ob k < n ∧ Q (Ob k)) → (∀ k l, k < l → l < bz → Ob k < Ob l) → (∀ f, f < n → Q f → ∃ k, k < bz ∧ Ob k = f) → cn (fun f => dc (Q f)) n ≤ bz := by
    intro n
    induction n with
    | zero => intro Ob bz _ _ _; exact Nat.zero_le _
    | succ n ih =>
      intro Ob bz h1 h2 h3
      by_cases q : Q n
      · obtain ⟨k, k1, k2⟩ := h3 n (by omega) q
        have hlast : k = bz - 1 := by
          by_cases e : k = bz - 1
          · exact e
          · have := h2 k (bz - 1) (by omega) (by omega)
            have := (h1 (bz - 1) (by omega)).1; omega
        have := ih Ob (bz - 1) (fun j hj => ⟨by have := h2 j k (by omega) k1; omega, (h1 j (by omega)).2⟩) (fun j l hjl hl => h2 j l hjl (by omega)) (fun f hf hQ => by
          obtain ⟨j, j1, j2⟩ := h3 f (by omega) hQ
          refine ⟨j, ?_, j2⟩
          by_cases e : j = bz - 1
          · rw [e, ← hlast, k2] at j2; omega
          · omega)
        simp only [cn, dc_t.mpr q, Bool.toNat_true]; omega
      · have := ih Ob bz (fun j hj => ⟨by
          have := h1 j hj
          by_cases e : Ob j = n
          · rw [e] at this; exact absurd this.2 q
          · omega, (h1 j hj).2⟩) h2 (fun f hf hQ => h3 f (by omega) hQ)
        simp only [cn, dc_f.mpr q, Bool.toNat_false]; omega
  exact Nat.le_antisymm a (key i Ob bz h.1 h.2.1 h.2.2.1)
theorem wim_f {y : Int32} (h : y < 0 ∨ ¬ y ≤ nI 3) : (decide (nI 0 ≤ y) && decide (y ≤ nI 3)) = false := by
  rcases h with h | h
  · rw [decide_eq_false (p := nI 0 ≤ y) (Int32.not_le.mpr h)]; rfl
  · rw [decide_eq_false h, Bool.and_false]
def lwI (Q : Nat → Prop) (Ob : Nat → Nat) (lw : Int32) (i : Nat) : Prop := (lw = -1 ∧ ∀ k, k < i → ¬ Q k) ∨ ∃ k, k < i ∧ Q k ∧ lw = nI (Ob k) ∧ ∀ j, j < k → ¬ Q j
theorem lwI_0 {Q : Nat → Prop} {Ob : Nat → Nat} : lwI Q Ob (-1) 0 := Or.inl ⟨rfl, fun _ h => absurd h (Nat.not_lt_zero _)⟩
theorem lwI_f {Q : Nat → Prop} {Ob : Nat → Nat} {lw : Int32} {i : Nat} (h : lwI Q Ob lw i) (c : ¬ Q i) : lwI Q Ob lw (i + 1) := by
  rcases h with ⟨h1, h2⟩ | ⟨k, h1, h2⟩
  · exact Or.inl ⟨h1, lt_s h2 c⟩
  · exact Or.inr ⟨k, by omega, h2⟩
theorem nI_nm1 {n : Nat} (h : n < 41) : ¬ nI n = -1 := by
  have : ∀ n, n < 41 → ¬ nI n = -1 := by decide +kernel
  exact this n h
theorem lwI_t {Q : Nat → Prop} {Ob : Nat → Nat} {lw : Int32} {i : Nat} (h : lwI Q Ob lw i) (hO : ∀ k, k < i → Ob k < 41) (c : Q i) (c2 : lw = -1) : lwI Q Ob (nI (Ob i)) (i + 1) := by
  rcases h with ⟨h1, h2⟩ | ⟨k, h1, h2, h3, h4⟩
  · exact Or.inr ⟨i, by omega, c, rfl, h2⟩
  · rw [h3] at c2; exact absurd c2 (nI_nm1 (hO k h1))
theorem lwI_k {Q : Nat → Prop} {Ob : Nat → Nat} {lw : Int32} {i : Nat} (h : lwI Q Ob lw i) (c2 : ¬ lw = -1) : lwI Q Ob lw (i + 1) := by
  rcases h with ⟨h1, h2⟩ | ⟨k, h1, h2⟩
  · exact absurd h1 c2
  · exact Or.inr ⟨k, by omega, h2⟩
theorem fillN_s {r : Nat → Nat} {i : Nat} (h : ∀ j, j < i → r j = 0) : ∀ j, j < i + 1 → va_up r i 0 j = 0 := fun j hj => by
  by_cases e : j = i
  · rw [e, va_up_s]
  · rw [va_up_o _ e]; exact h j (by omega)
