/-! ===== 38.top: words for the public methods of the class ===== -/
def pcd (x y : Int32) (n : Nat) : Int32 := if (vd x n && vd y n) = true then (if x = y then -3 else 0) else -1
theorem pcd_bad {x y : Int32} {n : Nat} (h : (vd x n && vd y n) = false) : pcd x y n = (-1) := by unfold pcd; rw [h]; rfl
theorem pcd_same {a b n : Nat} (hn : n ≤ 14) (ha : a < n) (h : a = b) : pcd (nI a) (nI b) n = (-3) := by
  subst h; unfold pcd; rw [vd_nI (by omega), decide_eq_true ha]; simp
theorem pcd_ok {a b n : Nat} (hn : n ≤ 14) (ha : a < n) (hb : b < n) (h : a ≠ b) : pcd (nI a) (nI b) n = nI 0 := by
  unfold pcd; rw [vd_nI (by omega), vd_nI (by omega), decide_eq_true ha, decide_eq_true hb]
  have h9 : ¬ nI a = nI b := fun q => h ((nI_eq (by omega) (by omega)).mp q)
  simp [h9, nI_0]
theorem vd_tt {x n : Nat} (hn : n ≤ 41) (hx : x < n) : vd (nI x) n = true := by rw [vd_nI (by omega)]; exact decide_eq_true hx
theorem th_tt {e ar : Nat} {pr : Int64} (hn : ar ≤ 41) (he : e < ar) (hl : lb pr e = true) : (vd (nI e) ar && lb pr (nI e).toNatClampNeg) = true := by rw [vd_tt hn he, nI_clamp (by omega), hl]; rfl
theorem tn_bb {e ar : Nat} {pr : Int64} (hn : ar ≤ 40) (he : e < ar) : (vd (nI e) ar && lb (pr ^^^ lsb e) (nI e).toNatClampNeg) = !lb pr e := by
  rw [vd_tt (by omega) he, nI_clamp (by omega), l_xor, l_lsb (by omega) (by omega)]; simp
theorem GOK_0 (F G : Nat → Nat) : GOK (lb 0) F G 0 := ⟨by omega, fun e _ h => (by rw [l_0] at h; cases h)⟩
theorem GOK_up {T : Nat → Bool} {F G : Nat → Nat} {n : Nat} (h : GOK T F G n) (hn : n < 14) : GOK T F G (n + 1) := ⟨by omega, fun e he ht => by have := h.2 e he ht; exact ⟨by omega, by omega, this.2.2⟩⟩
/-- the graph's own rows: arcs that were made lie between two different nodes -/
def GAR (F G : Nat → Nat) (nd ar : Nat) (pr : Int64) : Prop := nd ≤ 14 ∧ ar ≤ 40 ∧ (∀ e, lb pr e = true → e < ar) ∧ (∀ e, e < ar → F e < nd ∧ G e < nd ∧ F e ≠ G e) ∧ (∀ k, F k < 14) ∧ ∀ k, G k < 14
theorem GAR.ok {F G : Nat → Nat} {nd ar : Nat} {pr : Int64} (h : GAR F G nd ar pr) : GOK (lb pr) F G nd := ⟨h.1, fun e _ ht => h.2.2.2.1 e (h.2.2.1 e ht)⟩
theorem GAR_0 {F G : Nat → Nat} (hF : ∀ k, F k < 14) (hG : ∀ k, G k < 14) : GAR F G 0 0 0 := ⟨by omega, by omega, fun e h => (by rw [l_0] at h; cases h), fun e h => absurd h (Nat.not_lt_zero _), hF, hG⟩
theorem GAR_n {F G : Nat → Nat} {nd ar : Nat} {pr : Int64} (h : GAR F G nd ar pr) (hn : nd < 14) : GAR F G (nd + 1) ar pr := ⟨by omega, h.2.1, h.2.2.1, fun e he => by have := h.2.2.2.1 e he; exact ⟨by omega, by omega, this.2.2⟩, h.2.2.2.2⟩
theorem up_lt {F : Nat → Nat} {k v b : Nat} (h : ∀ j, F j < b) (hv : v < b) : ∀ j, va_up F k v j < b := fun j => by
  by_cases e : j = k
  · subst e; rw [va_up_s]; exact hv
  · rw [va_up_o _ e]; exact h j
theorem GAR_a {F G : Nat → Nat} {nd ar a b : Nat} {pr : Int64} (h : GAR F G nd ar pr) (ha : a < nd) (hb : b < nd) (hne : a ≠ b) (hr : ar < 40) : GAR (va_up F ar a) (va_up G ar b) nd (ar + 1) (pr ||| lsb ar) := by
  obtain ⟨h1, h2, h3, h4, h5, h6⟩ := h
  refine ⟨h1, by omega, fun e he => ?_, fun e he => ?_, up_lt h5 (by omega), up_lt h6 (by omega)⟩
  · rcases (or_lsb (by omega)).mp he with q | q
    · have := h3 e q; omega
    · omega
  · by_cases q : e = ar
    · subst q; rw [va_up_s, va_up_s]; exact ⟨ha, hb, hne⟩
    · rw [va_up_o _ q, va_up_o _ q]; exact h4 e (by omega)
theorem GAR_t {F G : Nat → Nat} {nd ar x : Nat} {pr : Int64} (h : GAR F G nd ar pr) (hx : x < ar) : GAR F G nd ar (pr ^^^ lsb x) := by
  obtain ⟨h1, h2, h3, h4⟩ := h
  refine ⟨h1, h2, fun e he => ?_, h4⟩
  rcases Nat.lt_or_ge e 64 with q | q
  · rw [l_xor, l_lsb (by omega) q] at he
    by_cases z : e = x
    · omega
    · simp [z] at he; exact h3 e he
  · rw [l_big q] at he; cases he
theorem GAR_m {F G : Nat → Nat} {nd ar a b : Nat} {pr : Int64} (h : GAR F G nd ar pr) (ha : a < nd) (hb : b < nd) : GAR (va_up F 40 a) (va_up G 40 b) nd ar pr := by
  obtain ⟨h1, h2, h3, h4, h5, h6⟩ := h
  refine ⟨h1, h2, h3, fun e he => ?_, up_lt h5 (by omega), up_lt h6 (by omega)⟩
  rw [va_up_o _ (by omega), va_up_o _ (by omega)]; exact h4 e he
theorem l40 : (1099511627776 : Int64) = lsb 40 := by decide
theorem GOK_m {F G : Nat → Nat} {nd ar a b : Nat} {pr : Int64} (h : GAR F G nd ar pr) (ha : a < nd) (hb : b < nd) (hne : a ≠ b) : GOK (lb (pr ||| (1099511627776 : Int64))) (va_up F 40 a) (va_up G 40 b) nd := by
  refine ⟨h.1, fun e he ht => ?_⟩
  rw [l40] at ht
  rcases (or_lsb (by decide)).mp ht with q | q
  · have h2 := h.2.2.1 e q
    have h3 := h.2.1
    rw [va_up_o _ (by omega), va_up_o _ (by omega)]
    exact h.2.2.2.1 e h2
  · subst q; rw [va_up_s, va_up_s]; exact ⟨ha, hb, hne⟩
