/-! ===== 20.pieces: counting by truths that need not be decided ===== -/
noncomputable def dc (P : Prop) : Bool := @decide P (Classical.propDecidable P)
theorem dc_t {P : Prop} : dc P = true ↔ P := by unfold dc; exact @decide_eq_true_iff P (Classical.propDecidable P)
theorem dc_f {P : Prop} : dc P = false ↔ ¬ P := by unfold dc; exact @decide_eq_false_iff_not P (Classical.propDecidable P)
theorem dc_c {P Q : Prop} (h : P ↔ Q) : dc P = dc Q := by rw [propext h]
theorem dc_b {P : Prop} {b : Bool} (h : b = true ↔ P) : dc P = b := by
  cases b
  · exact dc_f.mpr (fun q => by have := h.mpr q; cases this)
  · exact dc_t.mpr (h.mp rfl)
theorem cn_t {p : Nat → Bool} {i q : Nat} (h : q = cn p i) (c : p i = true) : q + 1 = cn p (i + 1) := by simp only [cn, c, Bool.toNat_true]; omega
theorem cn_f {p : Nat → Bool} {i q : Nat} (h : q = cn p i) (c : p i = false) : q = cn p (i + 1) := by simp only [cn, c, Bool.toNat_false]; omega
/-- the first node of its piece within w -/
def ldP (r : Nat → Int32) (w : Int32) (a : Nat) : Prop := bt w a = true ∧ ∀ b, b < a → bt w b = true → ¬ Rc (rE r w) b a
noncomputable def lead (r : Nat → Int32) (w : Int32) (a : Nat) : Bool := dc (ldP r w a)
def lfI (r : Nat → Int32) (w lf : Int32) (i : Nat) : Prop := ∀ x, bt lf x = true ↔ (bt w x = true ∧ ∀ b, b < i → bt w b = true → ¬ Rc (rE r w) b x)
theorem lfI_0 (r : Nat → Int32) (w : Int32) : lfI r w w 0 := fun x => ⟨fun h => ⟨h, fun _ h => absurd h (Nat.not_lt_zero _)⟩, fun h => h.1⟩
theorem lfI_l {r : Nat → Int32} {w lf : Int32} {i : Nat} (h : lfI r w lf i) : lead r w i = bt lf i := dc_b (h i)
theorem lfI_t {r : Nat → Int32} {w lf sp : Int32} {i : Nat} (h : lfI r w lf i) (c : bt lf i = true) (hs : SpR r i w sp) : lfI r w (lf &&& (sp ^^^ (-1))) (i + 1) := by
  intro x
  rw [b_and', h x]
  constructor
  · rintro ⟨⟨h1, h2⟩, h3⟩
    refine ⟨h1, fun b hb hw => ?_⟩
    by_cases e : b = i
    · subst e
      intro hr
      have hx : x < 32 := by
        apply Classical.byContradiction
        intro hn
        rw [b_big (by omega)] at h1; cases h1
      rw [b_not' hx] at h3
      rw [(hs x).mpr hr] at h3; cases h3
    · exact h2 b (by omega) hw
  · rintro ⟨h1, h2⟩
    refine ⟨⟨h1, fun b hb hw => h2 b (by omega) hw⟩, ?_⟩
    have hx : x < 32 := by
      apply Classical.byContradiction
      intro hn
      rw [b_big (by omega)] at h1; cases h1
    rw [b_not' hx, Bool.eq_false_iff]
    intro hq
    exact h2 i (by omega) ((h i).mp c).1 ((hs x).mp hq)
theorem lfI_f {r : Nat → Int32} {w lf : Int32} {i : Nat} (h : lfI r w lf i) (c : bt lf i = false) : lfI r w lf (i + 1) := by
  intro x
  rw [h x]
  constructor
  · rintro ⟨h1, h2⟩
    refine ⟨h1, fun b hb hw => ?_⟩
    by_cases e : b = i
    · subst e
      intro hr
      have hn : ¬ (bt w b = true ∧ ∀ b', b' < b → bt w b' = true → ¬ Rc (rE r w) b' b) := fun q => by
        have := (h b).mpr q; rw [c] at this; cases this
      apply hn
      refine ⟨hw, fun b' hb' hw' hr' => ?_⟩
      exact h2 b' hb' hw' (hr'.trans hr)
    · exact h2 b (by omega) hw
  · rintro ⟨h1, h2⟩
    exact ⟨h1, fun b hb hw => h2 b (by omega) hw⟩
/-- arcs that stand alone -/
def LnR (S : Nat → Int64) (x : Int64) (z : Nat) : Prop := ∀ e, lb x e = true ↔ ∃ i, i < z ∧ cn (lb (S i)) 64 = 1 ∧ lb (S i) e = true
theorem LnR_0 (S : Nat → Int64) : LnR S 0 0 := fun e => ⟨fun h => (by rw [l_0] at h; cases h), fun ⟨a, h, _⟩ => absurd h (Nat.not_lt_zero _)⟩
theorem LnR_t {S : Nat → Int64} {x : Int64} {i : Nat} (h : LnR S x i) (c : cn (lb (S i)) 64 = 1) : LnR S (x ||| S i) (i + 1) := by
  intro e
  rw [l_or', h e]
  constructor
  · rintro (⟨a, a1, a2⟩ | q)
    · exact ⟨a, by omega, a2⟩
    · exact ⟨i, by omega, c, q⟩
  · rintro ⟨a, a1, a2, a3⟩
    by_cases q : a = i
    · subst q; exact Or.inr a3
    · exact Or.inl ⟨a, by omega, a2, a3⟩
theorem LnR_f {S : Nat → Int64} {x : Int64} {i : Nat} (h : LnR S x i) (c : cn (lb (S i)) 64 ≠ 1) : LnR S x (i + 1) := by
  intro e
  rw [h e]
  constructor
  · rintro ⟨a, a1, a2⟩; exact ⟨a, by omega, a2⟩
  · rintro ⟨a, a1, a2, a3⟩
    by_cases q : a = i
    · subst q; exact absurd a2 c
    · exact ⟨a, by omega, a2, a3⟩
def FallsR (N : Nat → Int32) (al : Int32) (a k : Nat) : Prop := ∃ pt, SpR N a al pt ∧ k = cn (lead N (pt &&& (sb a ^^^ (-1)))) 14
theorem FallsR.uniq {N : Nat → Int32} {al : Int32} {a k j : Nat} (h : FallsR N al a k) (g : FallsR N al a j) : k = j := by
  obtain ⟨p, h1, h2⟩ := h
  obtain ⟨q, g1, g2⟩ := g
  rw [h2, g2, h1.uniq g1]
theorem FallsR.le {N : Nat → Int32} {al : Int32} {a k : Nat} (h : FallsR N al a k) : k ≤ 14 := by
  obtain ⟨p, h1, h2⟩ := h
  rw [h2]; exact cn_le _ 14
noncomputable def cutB (N : Nat → Int32) (al : Int32) (a : Nat) : Bool := dc (bt al a = true ∧ ∃ k, FallsR N al a k ∧ 1 < k)
noncomputable def btwB (N : Nat → Int32) (al : Int32) (a b x : Nat) : Bool := dc (bt al x = true ∧ x ≠ a ∧ x ≠ b ∧ ¬ Rc (rE N (al &&& (sb x ^^^ (-1)))) a b)
/-- a sum -/
def sm (f : Nat → Nat) : Nat → Nat
  | 0 => 0
  | n + 1 => sm f n + f n
theorem sm_congr {f g : Nat → Nat} : ∀ {n : Nat}, (∀ i, i < n → f i = g i) → sm f n = sm g n
  | 0, _ => rfl
  | n + 1, h => by simp only [sm]; rw [sm_congr (n := n) (fun i hi => h i (by omega)), h n (by omega)]
theorem sm_s {f : Nat → Nat} {i q k : Nat} (h : q = sm f i) (c : f i = k) : q + k = sm f (i + 1) := by simp only [sm]; omega
theorem sm_0 {f : Nat → Nat} {i q : Nat} (h : q = sm f i) (c : f i = 0) : q = sm f (i + 1) := by simp only [sm]; omega
theorem sm_le {f : Nat → Nat} {b : Nat} (h : ∀ i, f i ≤ b) : ∀ n, sm f n ≤ n * b
  | 0 => Nat.zero_le _
  | n + 1 => by
    have h1 := sm_le h n
    have h2 := h n
    have : (n + 1) * b = n * b + b := Nat.succ_mul n b
    simp only [sm]; omega
/-- how many lone arcs there are at a's twins; what they want -/
noncomputable def dgT (Fm : Nat → Int32) (al : Int32) (A : Nat → Int64) (br : Int64) (a : Nat) : Nat := cn (fun e => dc (lb br e = true ∧ ∃ x, x < 14 ∧ Rc (rE Fm al) a x ∧ lb (A x) e = true)) 64
noncomputable def wnt (Fm : Nat → Int32) (al : Int32) (A : Nat → Int64) (br : Int64) (a : Nat) : Nat := if lead Fm al a = true then 2 - dgT Fm al A br a else 0
theorem wnt_le (Fm : Nat → Int32) (al : Int32) (A : Nat → Int64) (br : Int64) (a : Nat) : wnt Fm al A br a ≤ 2 := by unfold wnt; split <;> omega
noncomputable def need (Fm : Nat → Int32) (al : Int32) (A : Nat → Int64) (br : Int64) : Nat := if 1 < cn (lead Fm al) 14 then (sm (wnt Fm al A br) 14 + 1) / 2 else 0
theorem dg_eq {Fm : Nat → Int32} {al tw : Int32} {A : Nat → Int64} {br w : Int64} {a : Nat} (hs : SpR Fm a al tw) (hw : AtR A tw w 14) : cn (lb (w &&& br)) 64 = dgT Fm al A br a := by
  unfold dgT
  apply cn_congr
  intro e _
  refine (dc_b ?_).symm
  rw [l_and', hw e]
  constructor
  · rintro ⟨⟨x, x1, x2, x3⟩, h⟩; exact ⟨h, x, x1, (hs x).mp x2, x3⟩
  · rintro ⟨h, x, x1, x2, x3⟩; exact ⟨⟨x, x1, (hs x).mpr x2, x3⟩, h⟩
theorem mx2 (c : Nat) (hc : c < 2 ^ 30) : (if nI 0 < nI 2 - nI c then nI 2 - nI c else nI 0) = nI (2 - c) := by
  by_cases h : c < 2
  · rw [pk_sub (by omega), if_pos (nI_lt (by omega) (by omega))]
  · have h2 : ¬ nI 0 < nI 2 - nI c := by
      rw [Int32.lt_iff_toInt_lt, pk_sub_toInt (by omega) hc, nI_toInt (by omega)]
      omega
    rw [if_neg h2, show 2 - c = 0 by omega]
