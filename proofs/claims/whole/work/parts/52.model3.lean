/-! ===== 52.model3: the reference's words for bridges, blocks, twins ===== -/
theorem tEn_lk {ar mo nd : Nat} {P : Nat → Bool} {lo ot go : Int32} {F G : Nat → Nat} (h : ∀ e, e < ar + mo → F e < nd ∧ G e < nd) : tEn (lkT ar mo P lo ot go F G) F G nd := fun e _ ht => h e (lk_iff.mp ht).1
theorem RcT_lt {T : Nat → Bool} {F G : Nat → Nat} {nd : Nat} {st x : Int32} (hT : tEn T F G nd) (h : RcT T F G st x) (hs : ∀ y, bt st y = true → y < nd) : ∀ y, bt x y = true → y < nd := by
  intro y hy
  obtain ⟨f, f1, f2⟩ := (h y).mp hy
  exact f2 (fun y => y < nd) (hs f f1) (fun a b _ q => (hT.ad q).2)
theorem sb_lt {n nd : Nat} (hn : n < nd) (h : nd ≤ 14) : ∀ y, bt (sb n) y = true → y < nd := fun y hy => by rw [(b_sb' (by omega)).mp hy]; exact hn
/-- two arcs are of one block, as the reference asks: at node n -/
def abM (ar nd : Nat) (P : Nat → Bool) (F G : Nat → Nat) (e f n : Nat) : Prop := ∃ x y, (x = F e ∨ x = G e) ∧ x ≠ n ∧ (y = F f ∨ y = G f) ∧ y ≠ n ∧ Rc (ad (lkT ar 0 P (nI e) (nI f) (sb n) F G) F G) x y
def abR (ar nd : Nat) (P : Nat → Bool) (F G : Nat → Nat) (e f : Nat) : Prop := e = f ∨ ∀ n, n < nd → abM ar nd P F G e f n
theorem two_b {a b y : Nat} (ha : a < 14) (hb : b < 14) : bt (sb a ||| sb b) y = true ↔ (y = a ∨ y = b) := by rw [b_or', b_sb' (by omega), b_sb' (by omega)]
theorem b_ne0 {x : Int32} : ¬ x = 0 ↔ ∃ i, i < 32 ∧ bt x i = true := by
  constructor
  · intro h
    apply Classical.byContradiction
    intro hn
    apply h
    apply b_ext
    intro i hi
    rw [b_0, Bool.eq_false_iff]
    exact fun q => hn ⟨i, hi, q⟩
  · rintro ⟨i, _, h⟩ e
    rw [e, b_0] at h; cases h
theorem ab_iff {ar nd : Nat} {P : Nat → Bool} {F G : Nat → Nat} {e f n : Nat} {x : Int32} (hF : ∀ k, F k < 14) (hG : ∀ k, G k < 14) (hn : n < 14) (h : RcT (lkT ar 0 P (nI e) (nI f) (sb n) F G) F G ((sb (F e) ||| sb (G e)) &&& (sb n ^^^ (-1))) x) :
    ¬ ((x &&& (sb (F f) ||| sb (G f))) &&& (sb n ^^^ (-1))) = 0 ↔ abM ar nd P F G e f n := by
  have hnot : ∀ y, y < 32 → (bt (sb n ^^^ (-1)) y = true ↔ y ≠ n) := fun y hy => by rw [b_not' hy, Bool.eq_false_iff, ne_eq, b_sb' (by omega)]
  have big : ∀ {z : Int32} {y : Nat}, bt z y = true → y < 32 := fun {z y} hz => by
    rcases Nat.lt_or_ge y 32 with q | q
    · exact q
    · rw [b_big q] at hz; cases hz
  rw [b_ne0]
  constructor
  · rintro ⟨y, hy, h1⟩
    rw [b_and', b_and', two_b (hF f) (hG f), hnot y hy] at h1
    obtain ⟨g, g1, g2⟩ := (h y).mp h1.1.1
    have g3 := big g1
    rw [b_and', two_b (hF e) (hG e), hnot g g3] at g1
    exact ⟨g, y, g1.1, g1.2, h1.1.2, h1.2, g2⟩
  · rintro ⟨g, y, g1, g2, y1, y2, hr⟩
    have g3 : g < 14 := by rcases g1 with q | q <;> (rw [q]; first | exact hF e | exact hG e)
    have y3 : y < 14 := by rcases y1 with q | q <;> (rw [q]; first | exact hF f | exact hG f)
    refine ⟨y, by omega, ?_⟩
    rw [b_and', b_and', two_b (hF f) (hG f), hnot y (by omega)]
    refine ⟨⟨(h y).mpr ⟨g, ?_, hr⟩, y1⟩, y2⟩
    rw [b_and', two_b (hF e) (hG e), hnot g (by omega)]
    exact ⟨g1, g2⟩
/-- the twins' rows -/
def twI (ar mo nd : Nat) (P : Nat → Bool) (F G : Nat → Nat) (W : Nat → Int32) (i : Nat) : Prop :=
  ∀ n, n < nd → ∀ y, bt (W n) y = true ↔ (Rc (ad (lkT ar mo P (-1) (-1) (nI 0) F G) F G) n y ∧ ∀ e, e < i → (e = ar ∨ P e = true) → Rc (ad (lkT ar mo P (nI e) (-1) (nI 0) F G) F G) n y)
def twH (ar mo nd : Nat) (P : Nat → Bool) (F G : Nat → Nat) (W W2 : Nat → Int32) (i j : Nat) : Prop :=
  (∀ n, n < j → ∀ y, bt (W2 n) y = true ↔ (bt (W n) y = true ∧ Rc (ad (lkT ar mo P (nI i) (-1) (nI 0) F G) F G) n y)) ∧ ∀ n, j ≤ n → W2 n = W n
theorem twH_0 {ar mo nd : Nat} {P : Nat → Bool} {F G : Nat → Nat} {W : Nat → Int32} {i : Nat} : twH ar mo nd P F G W W i 0 := ⟨fun _ h => absurd h (Nat.not_lt_zero _), fun _ _ => rfl⟩
theorem twH_n {ar mo nd : Nat} {P : Nat → Bool} {F G : Nat → Nat} {W W2 : Nat → Int32} {i j : Nat} {x : Int32} (hj : j < 14) (h : twH ar mo nd P F G W W2 i j) (hr : RcT (lkT ar mo P (nI i) (-1) (nI 0) F G) F G (sb j) x) : twH ar mo nd P F G W (va_up W2 j (W2 j &&& x)) i (j + 1) := by
  refine ⟨fun n hn y => ?_, fun n hn => by rw [va_up_o _ (by omega)]; exact h.2 n (by omega)⟩
  by_cases e : n = j
  · subst e; rw [va_up_s, b_and', h.2 n (Nat.le_refl _), hr.one (by omega) y]
  · rw [va_up_o _ e]; exact h.1 n (by omega) y
theorem twI_n {ar mo nd : Nat} {P : Nat → Bool} {F G : Nat → Nat} {W W2 : Nat → Int32} {i j : Nat} (h : twI ar mo nd P F G W i) (k : twH ar mo nd P F G W W2 i j) (hj : j = nd) (c : i = ar ∨ P i = true) : twI ar mo nd P F G W2 (i + 1) := by
  subst hj
  intro n hn y
  rw [k.1 n hn y, h n hn y]
  constructor
  · rintro ⟨⟨h1, h2⟩, h3⟩
    refine ⟨h1, fun e he hp => ?_⟩
    by_cases q : e = i
    · subst q; exact h3
    · exact h2 e (by omega) hp
  · rintro ⟨h1, h2⟩
    exact ⟨⟨h1, fun e he hp => h2 e (by omega) hp⟩, h2 i (by omega) c⟩
theorem twI_f {ar mo nd : Nat} {P : Nat → Bool} {F G : Nat → Nat} {W : Nat → Int32} {i : Nat} (h : twI ar mo nd P F G W i) (c1 : i ≠ ar) (c2 : P i = false) : twI ar mo nd P F G W (i + 1) := by
  intro n hn y
  rw [h n hn y]
  constructor
  · rintro ⟨h1, h2⟩
    refine ⟨h1, fun e he hp => ?_⟩
    by_cases q : e = i
    · subst q; rcases hp with z | z
      · exact absurd z c1
      · rw [c2] at z; cases z
    · exact h2 e (by omega) hp
  · rintro ⟨h1, h2⟩
    exact ⟨h1, fun e he hp => h2 e (by omega) hp⟩
def tw0 (T : Nat → Bool) (F G : Nat → Nat) (W : Nat → Int32) (j : Nat) : Prop := ∀ n, n < j → ∀ y, bt (W n) y = true ↔ Rc (ad T F G) n y
theorem tw0_n {T : Nat → Bool} {F G : Nat → Nat} {W : Nat → Int32} {j : Nat} {x : Int32} (hj : j < 14) (h : tw0 T F G W j) (hr : RcT T F G (sb j) x) : tw0 T F G (va_up W j x) (j + 1) := by
  intro n hn y
  by_cases e : n = j
  · subst e; rw [va_up_s, hr.one (by omega) y]
  · rw [va_up_o _ e]; exact h n (by omega) y
theorem twI_0 {ar mo nd : Nat} {P : Nat → Bool} {F G : Nat → Nat} {W : Nat → Int32} {j : Nat} (h : tw0 (lkT ar mo P (-1) (-1) (nI 0) F G) F G W j) (hj : j = nd) : twI ar mo nd P F G W 0 := by
  subst hj
  intro n hn y
  rw [h n hn y]
  exact ⟨fun q => ⟨q, fun e he => absurd he (Nat.not_lt_zero _)⟩, fun q => q.1⟩
/-- the arcs that lead out of a set -/
def ouB (ar : Nat) (P : Nat → Bool) (F G : Nat → Nat) (st : Int32) (e : Nat) : Bool := (decide (e = ar) || P e) && (bt st (F e) != bt st (G e))
/-- what the twins lack -/
def lkW (ar mo : Nat) (P : Nat → Bool) (F G : Nat → Nat) (W : Nat → Int32) (k : Nat) : Nat := if lsn (bt (W k)) 16 = k then 2 - cn (ouB ar P F G (W k)) (ar + mo) else 0
def ndM (ar mo nd : Nat) (P : Nat → Bool) (F G : Nat → Nat) (W : Nat → Int32) : Nat := if cn (fun k => decide (lsn (bt (W k)) 16 = k)) nd < 2 then 0 else (sm (lkW ar mo P F G W) nd + 1) / 2
theorem lkW_le (ar mo : Nat) (P : Nat → Bool) (F G : Nat → Nat) (W : Nat → Int32) (k : Nat) : lkW ar mo P F G W k ≤ 2 := by unfold lkW; split <;> omega
