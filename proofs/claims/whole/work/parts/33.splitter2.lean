/-! ===== 33.splitter2: crossing, good sets ===== -/
def wiB (st x : Int64) : Bool := decide (x &&& (st ^^^ (-1 : Int64)) = 0)
def woB (st x : Int64) : Bool := decide (x &&& st = 0)
def xwI (st : Int64) (Pi : Nat → Int64) (fr k : Nat) : Nat := cn (fun i => wiB st (Pi (fr + i))) k
def xoI (st : Int64) (Pi : Nat → Int64) (fr k : Nat) : Nat := cn (fun i => !wiB st (Pi (fr + i)) && woB st (Pi (fr + i))) k
def xbI (st : Int64) (Pi : Nat → Int64) (fr k : Nat) : Nat := cn (fun i => !wiB st (Pi (fr + i)) && !woB st (Pi (fr + i))) k
def crB (st : Int64) (Pi : Nat → Int64) (fr k : Nat) : Bool := decide (2 ≤ xbI st Pi fr k + min (xwI st Pi fr k) (xoI st Pi fr k))
theorem min_n {a b : Nat} (ha : a < 2 ^ 31) (hb : b < 2 ^ 31) : (if nI b < nI a then nI b else nI a) = nI (min a b) := by
  by_cases h : b < a
  · rw [if_pos (nI_lt h ha), Nat.min_eq_right (Nat.le_of_lt h)]
  · rw [if_neg (fun q => h ((nI_ltI hb ha).mp q)), Nat.min_eq_left (by omega)]
/-- some pair crosses st -/
def cxB (Pi : Nat → Int64) (Bo : Nat → Nat) (st : Int64) (pc : Nat) : Bool := decide (0 < cn (fun p => crB st Pi (Bo p) (Bo (p + 1) - Bo p)) pc)
theorem cn_none {p : Nat → Bool} {n : Nat} (h : ∀ i, i < n → p i = false) : cn p n = 0 := by
  induction n with
  | zero => rfl
  | succ n ih => simp only [cn]; rw [ih (fun i hi => h i (by omega)), h n (by omega)]; rfl
/-- a piece that makes a split which nothing crosses -/
def okB (Pi : Nat → Int64) (Bo : Nat → Nat) (pc : Nat) (bl x : Int64) : Bool := (decide (1 < cn (lb x) 64) && decide (1 < cn (lb (bl &&& (x ^^^ (-1 : Int64)))) 64)) && !cxB Pi Bo x pc
def lasN (fr bh : Nat) : Nat := if bh - fr = 2 then 1 else bh - fr
/-- the good sets: gc of them at first, those of j pieces more -/
def kgI (Pi : Nat → Int64) (Bo : Nat → Nat) (pc : Nat) (bl : Int64) (fr gc : Nat) (Gd Gd2 : Nat → Int64) (gc2 j : Nat) : Prop :=
  gc ≤ gc2 ∧ gc2 ≤ 14 ∧ (∀ k, k < gc → Gd2 k = Gd k) ∧ (gc2 < 14 ∨ gc + cn (fun i => okB Pi Bo pc bl (Pi (fr + i))) j = 14 → gc2 = gc + cn (fun i => okB Pi Bo pc bl (Pi (fr + i))) j) ∧ gc2 ≤ gc + cn (fun i => okB Pi Bo pc bl (Pi (fr + i))) j ∧
  (∀ k, gc ≤ k → k < gc2 → ∃ i, i < j ∧ okB Pi Bo pc bl (Pi (fr + i)) = true ∧ Gd2 k = Pi (fr + i)) ∧ (gc + cn (fun i => okB Pi Bo pc bl (Pi (fr + i))) j ≤ 14 → ∀ i, i < j → okB Pi Bo pc bl (Pi (fr + i)) = true → ∃ k, gc ≤ k ∧ k < gc2 ∧ Gd2 k = Pi (fr + i))
theorem kgI_0 {Pi : Nat → Int64} {Bo : Nat → Nat} {pc : Nat} {bl : Int64} {fr gc : Nat} {Gd : Nat → Int64} (h : gc ≤ 14) : kgI Pi Bo pc bl fr gc Gd Gd gc 0 :=
  ⟨Nat.le_refl _, h, fun _ _ => rfl, fun _ => rfl, Nat.le_refl _, fun k h1 h2 => by omega, fun _ i h => absurd h (Nat.not_lt_zero _)⟩
theorem kgI_f {Pi : Nat → Int64} {Bo : Nat → Nat} {pc : Nat} {bl : Int64} {fr gc : Nat} {Gd Gd2 : Nat → Int64} {gc2 j : Nat} (h : kgI Pi Bo pc bl fr gc Gd Gd2 gc2 j) (c : okB Pi Bo pc bl (Pi (fr + j)) = false) : kgI Pi Bo pc bl fr gc Gd Gd2 gc2 (j + 1) := by
  obtain ⟨h1, h2, h3, h4, h5, h6, h7⟩ := h
  have e : cn (fun i => okB Pi Bo pc bl (Pi (fr + i))) (j + 1) = cn (fun i => okB Pi Bo pc bl (Pi (fr + i))) j := by simp only [cn, c]; rfl
  unfold kgI
  rw [e]
  refine ⟨h1, h2, h3, h4, h5, fun k k1 k2 => ?_, fun q i hi ho => ?_⟩
  · obtain ⟨i, i1, i2⟩ := h6 k k1 k2; exact ⟨i, by omega, i2⟩
  · by_cases z : i = j
    · subst z; rw [c] at ho; cases ho
    · exact h7 q i (by omega) ho
theorem kgI_t {Pi : Nat → Int64} {Bo : Nat → Nat} {pc : Nat} {bl : Int64} {fr gc : Nat} {Gd Gd2 : Nat → Int64} {gc2 j : Nat} (h : kgI Pi Bo pc bl fr gc Gd Gd2 gc2 j) (c : okB Pi Bo pc bl (Pi (fr + j)) = true) (hg : gc2 < 14) : kgI Pi Bo pc bl fr gc Gd (va_up Gd2 gc2 (Pi (fr + j))) (gc2 + 1) (j + 1) := by
  obtain ⟨h1, h2, h3, h4, h5, h6, h7⟩ := h
  have e : cn (fun i => okB Pi Bo pc bl (Pi (fr + i))) (j + 1) = cn (fun i => okB Pi Bo pc bl (Pi (fr + i))) j + 1 := by simp only [cn, c]; rfl
  have h8 := h4 (Or.inl hg)
  unfold kgI
  rw [e]
  refine ⟨by omega, by omega, fun k hk => by rw [va_up_o _ (by omega)]; exact h3 k hk, fun _ => by omega, by omega, fun k k1 k2 => ?_, fun q i hi ho => ?_⟩
  · by_cases z : k = gc2
    · subst z; exact ⟨j, by omega, c, by rw [va_up_s]⟩
    · obtain ⟨i, i1, i2, i3⟩ := h6 k k1 (by omega)
      exact ⟨i, by omega, i2, by rw [va_up_o _ z]; exact i3⟩
  · by_cases z : i = j
    · subst z; exact ⟨gc2, h1, by omega, by rw [va_up_s]⟩
    · obtain ⟨k, k1, k2, k3⟩ := h7 (by omega) i (by omega) ho
      exact ⟨k, k1, by omega, by rw [va_up_o _ (by omega)]; exact k3⟩
theorem kgI_x {Pi : Nat → Int64} {Bo : Nat → Nat} {pc : Nat} {bl : Int64} {fr gc : Nat} {Gd Gd2 : Nat → Int64} {gc2 j : Nat} (h : kgI Pi Bo pc bl fr gc Gd Gd2 gc2 j) (hg : 14 ≤ gc2) : kgI Pi Bo pc bl fr gc Gd Gd2 gc2 (j + 1) := by
  by_cases c : okB Pi Bo pc bl (Pi (fr + j)) = true
  · obtain ⟨h1, h2, h3, h4, h5, h6, h7⟩ := h
    have e : cn (fun i => okB Pi Bo pc bl (Pi (fr + i))) (j + 1) = cn (fun i => okB Pi Bo pc bl (Pi (fr + i))) j + 1 := by simp only [cn, c]; rfl
    unfold kgI
    rw [e]
    refine ⟨h1, h2, h3, fun q => ?_, by omega, fun k k1 k2 => ?_, fun q => by omega⟩
    · rcases q with q | q
      · omega
      · exfalso; omega
    · obtain ⟨i, i1, i2⟩ := h6 k k1 k2; exact ⟨i, by omega, i2⟩
  · exact kgI_f h (Bool.eq_false_iff.mpr c)
