/-! ===== 79.goods2: the class's good sets and the good splits ===== -/
section GS
variable {Bk : Nat → Prop} {F G : Nat → Nat} {bl : Int64} {Pi : Nat → Int64} {Bo : Nat → Nat} {pc : Nat} {pa pb : Nat → Nat}
/-- the pairs' pieces lie in rows; no pair with a proper union of pieces is left out -/
def PCA (Bk : Nat → Prop) (F G : Nat → Nat) (Pi : Nat → Int64) (Bo : Nat → Nat) (pc : Nat) (pa pb : Nat → Nat) : Prop :=
  (∀ p, p < pc → pa p < pb p ∧ 2 ≤ Bo (p + 1) - Bo p ∧ GPI (PL Bk F G (pa p) (pb p)) (fun i => Pi (Bo p + i)) (Bo (p + 1) - Bo p)) ∧
  (∀ p q, p < pc → q < pc → pa p = pa q → pb p = pb q → p = q) ∧
  ∀ a b U, a < b → clo Bk F G a b U → (∃ e, Bk e ∧ U e) → (∃ e, Bk e ∧ ¬ U e) → ∃ p, p < pc ∧ pa p = a ∧ pb p = b
theorem PCA_of {T : Nat → Bool} {A : Nat → Int64} (hA : AR T F G A) (hB : BkO Bk F G bl) (hT : ∀ e, Bk e → T e = true) (h2 : B2 Bk F G) (h : PCI A bl Pi Bo pc 14 15 pa pb) : PCA Bk F G Pi Bo pc pa pb := by
  obtain ⟨h0, h1, h3, h4, h5, h6⟩ := h
  refine ⟨fun p hp => ?_, h5, fun a b U hab hc hU hN => ?_⟩
  · obtain ⟨⟨q1, q2, q3⟩, q4, q5, q6⟩ := h4 p hp
    rw [PLr_eq hA hB hT (by omega) (by omega) q2] at q6
    exact ⟨q1, by omega, q6⟩
  · have hcm := com_ab h2 hc hU hN
    have ha := (hcm a).mpr (Or.inl rfl)
    have hb := (hcm b).mpr (Or.inr rfl)
    have lt : ∀ v, com Bk F G U v → v < 14 ∧ ¬ A v &&& bl = 0 := fun v hv => by
      obtain ⟨⟨e, e1, e2, e3⟩, _⟩ := hv
      have he := hB.2 e e1
      have v14 : v < 14 := by rcases e3 with q | q <;> omega
      refine ⟨v14, fun q => ?_⟩
      exact l_dj.mp q e ((hA v e v14).mpr ⟨by omega, hT e e1, e3⟩) ((hB.1 e).mpr e1)
    obtain ⟨a1, a2⟩ := lt a ha
    obtain ⟨b1, b2⟩ := lt b hb
    obtain ⟨S, z, hS⟩ := GPI_ex (GL_PL Bk F G a b) (fun e he => by have := (hB.2 e he.1).1; omega)
    refine h6 a b hab b1 (Or.inl a1) a2 b2 ⟨S, z, by rw [PLr_eq hA hB hT (by omega) a1 b1]; exact hS, ?_⟩
    obtain ⟨e, e1, e2⟩ := hU
    obtain ⟨f, f1, f2⟩ := hN
    obtain ⟨i, i1, i2⟩ := hS.2.2.1 e ⟨e1, e1, Or.inr rfl⟩
    obtain ⟨j, j1, j2⟩ := hS.2.2.1 f ⟨f1, f1, Or.inr rfl⟩
    have : i ≠ j := fun q => by
      subst q
      exact f2 (((hS.2.2.2.1 i e f i1 i2).mp j2) U e2 (fun x y hx hxy => hc x y hxy hx))
    omega
theorem cx_iff (h2 : B2 Bk F G) (hP : PCA Bk F G Pi Bo pc pa pb) {st : Int64} : cxB Pi Bo st pc = true ↔ ∃ W, spl Bk F G W ∧ crx Bk (fun e => lb st e = true) W := by
  unfold cxB
  rw [decide_eq_true_eq]
  constructor
  · intro h
    obtain ⟨p, p1, p2⟩ := cn_1 h
    obtain ⟨q1, q2, q3⟩ := hP.1 p p1
    obtain ⟨W, w1, w2⟩ := (cr_iff q3).mp p2
    exact ⟨W, spl_of h2 (by omega) w1 (crx_two w2).1 (crx_two w2).2, w2⟩
  · rintro ⟨W, w1, w2⟩
    obtain ⟨a, b, hab, hc, ha, hb⟩ := spl_ab w1
    obtain ⟨p, p1, p2, p3⟩ := hP.2.2 a b W hab hc (two_1 w1.1) (two_1 w1.2.1)
    obtain ⟨q1, q2, q3⟩ := hP.1 p p1
    rw [p2, p3] at q3
    exact cn_pos p p1 ((cr_iff q3).mpr ⟨W, hc, w2⟩)
theorem lt64 {x : Int64} {e : Nat} (h : lb x e = true) : e < 64 := by
  rcases Nat.lt_or_ge e 64 with z | z
  · exact z
  · rw [l_big z] at h; cases h
theorem two_cn {x : Int64} (h : ∀ e, lb x e = true → Bk e) : 1 < cn (lb x) 64 ↔ two Bk (fun e => lb x e = true) := by
  constructor
  · intro q
    obtain ⟨e, f, h1, _, _, h2, h3⟩ := cn_2 q
    exact ⟨e, f, h1, h e h2, h f h3, h2, h3⟩
  · rintro ⟨e, f, h1, _, _, h2, h3⟩
    exact cn_g2 h1 (lt64 h2) (lt64 h3) h2 h3
theorem ok_iff (hB : BkO Bk F G bl) (h2 : B2 Bk F G) (hP : PCA Bk F G Pi Bo pc pa pb) {p m : Nat} (hp : p < pc) (hm : m < Bo (p + 1) - Bo p) : okB Pi Bo pc bl (Pi (Bo p + m)) = true ↔ gud Bk F G (fun e => lb (Pi (Bo p + m)) e = true) := by
  obtain ⟨q1, q2, q3⟩ := hP.1 p hp
  have hbk : ∀ e, lb (Pi (Bo p + m)) e = true → Bk e := fun e he => (q3.2.1 m e hm he).2.1
  have hn : ∀ e, lb (bl &&& (Pi (Bo p + m) ^^^ (-1 : Int64))) e = true ↔ (Bk e ∧ ¬ lb (Pi (Bo p + m)) e = true) := fun e => by
    rw [l_and', hB.1 e]
    refine and_congr_right (fun he => ?_)
    rw [l_not' (by have := (hB.2 e he).1; omega), Bool.eq_false_iff]
  have hnc : 1 < cn (lb (bl &&& (Pi (Bo p + m) ^^^ (-1 : Int64)))) 64 ↔ two Bk (fun e => ¬ lb (Pi (Bo p + m)) e = true) := by
    rw [two_cn (Bk := Bk) (fun e he => ((hn e).mp he).1)]
    constructor
    · rintro ⟨e, f, h1, h2, h3, h4, h5⟩; exact ⟨e, f, h1, h2, h3, ((hn e).mp h4).2, ((hn f).mp h5).2⟩
    · rintro ⟨e, f, h1, h2, h3, h4, h5⟩; exact ⟨e, f, h1, h2, h3, (hn e).mpr ⟨h2, h4⟩, (hn f).mpr ⟨h3, h5⟩⟩
  unfold okB
  rw [Bool.and_eq_true, Bool.and_eq_true, decide_eq_true_eq, decide_eq_true_eq, two_cn hbk, hnc, Bool.not_eq_true', Bool.eq_false_iff, ne_eq, cx_iff h2 hP]
  constructor
  · rintro ⟨⟨a1, a2⟩, a3⟩
    exact ⟨spl_of h2 (by omega) (pie_clo q3 hm) a1 a2, fun W hW hc => a3 ⟨W, hW, hc⟩⟩
  · rintro ⟨⟨a1, a2, _⟩, a3⟩
    exact ⟨⟨a1, a2⟩, fun ⟨W, hW, hc⟩ => a3 W hW hc⟩
def eqo (Bk U W : Nat → Prop) : Prop := eqB Bk U W ∨ eqB Bk U (fun e => ¬ W e)
theorem las_le {fr bh m : Nat} (h : m < lasN fr bh) (h2 : 2 ≤ bh - fr) : m < bh - fr := by
  unfold lasN at h
  split at h <;> omega
theorem gud_cov (hB : BkO Bk F G bl) (h2 : B2 Bk F G) (hP : PCA Bk F G Pi Bo pc pa pb) {U : Nat → Prop} (hU : gud Bk F G U) : ∃ p m, p < pc ∧ m < lasN (Bo p) (Bo (p + 1)) ∧ okB Pi Bo pc bl (Pi (Bo p + m)) = true ∧ eqo Bk (fun e => lb (Pi (Bo p + m)) e = true) U := by
  obtain ⟨a, b, hab, hc, _, _⟩ := spl_ab hU.1
  obtain ⟨p, p1, p2, p3⟩ := hP.2.2 a b U hab hc (two_1 hU.1.1) (two_1 hU.1.2.1)
  obtain ⟨q1, q2, q3⟩ := hP.1 p p1
  rw [p2, p3] at q3
  -- one side is a piece
  have h1 : ∃ m, m < Bo (p + 1) - Bo p ∧ eqo Bk (fun e => lb (Pi (Bo p + m)) e = true) U := by
    rcases gud_one h2 (by omega) hc hU with ⟨e, e1, e2, e3⟩ | ⟨e, e1, e2, e3⟩
    · obtain ⟨m, m1, m2⟩ := q3.2.2.1 e ⟨e1, e1, Or.inr rfl⟩
      exact ⟨m, m1, Or.inl (fun f hf => (q3.2.2.2.1 m e f m1 m2).trans (e3 f hf))⟩
    · obtain ⟨m, m1, m2⟩ := q3.2.2.1 e ⟨e1, e1, Or.inr rfl⟩
      exact ⟨m, m1, Or.inr (fun f hf => (q3.2.2.2.1 m e f m1 m2).trans (e3 f hf))⟩
  have gd : ∀ m, m < Bo (p + 1) - Bo p → eqo Bk (fun e => lb (Pi (Bo p + m)) e = true) U → okB Pi Bo pc bl (Pi (Bo p + m)) = true := fun m hm he => (ok_iff hB h2 hP p1 hm).mpr (by
    rcases he with q | q
    · exact gud_c q.symm hU
    · exact gud_c q.symm (gud_n hU))
  obtain ⟨m, m1, m2⟩ := h1
  by_cases c : m < lasN (Bo p) (Bo (p + 1))
  · exact ⟨p, m, p1, c, gd m m1 m2, m2⟩
  · have hk : Bo (p + 1) - Bo p = 2 ∧ m = 1 ∧ lasN (Bo p) (Bo (p + 1)) = 1 := by
      unfold lasN at c ⊢
      split at c
      · rename_i z; rw [if_pos z]; exact ⟨z, by omega, rfl⟩
      · omega
    obtain ⟨k1, k2, k3⟩ := hk
    subst k2
    have e0 : eqo Bk (fun e => lb (Pi (Bo p + 0)) e = true) U := by
      have hx : ∀ e, Bk e → (lb (Pi (Bo p + 0)) e = true ↔ ¬ lb (Pi (Bo p + 1)) e = true) := fun e he => by
        constructor
        · intro q z
          have := q3.2.2.2.2 0 1 e (by omega) (by omega) q z
          omega
        · intro q
          obtain ⟨i, i1, i2⟩ := q3.2.2.1 e ⟨he, he, Or.inr rfl⟩
          have i01 : i = 0 ∨ i = 1 := by omega
          rcases i01 with z | z
          · rw [z] at i2; exact i2
          · rw [z] at i2; exact absurd i2 q
      rcases m2 with z | z
      · exact Or.inr (fun e he => (hx e he).trans (not_congr (z e he)))
      · exact Or.inl (fun e he => (hx e he).trans ((not_congr (z e he)).trans ⟨fun q => Classical.byContradiction q, fun q w => w q⟩))
    exact ⟨p, 0, p1, by omega, gd 0 (by omega) e0, e0⟩
theorem eqo_com {U W : Nat → Prop} (h : eqo Bk U W) {v : Nat} : com Bk F G U v ↔ com Bk F G W v := by
  have hn : ∀ X : Nat → Prop, com Bk F G (fun e => ¬ X e) v ↔ com Bk F G X v := fun X => ⟨fun q => ⟨tV_c nn_B q.2, q.1⟩, fun q => ⟨q.2, tV_c nn_B.symm q.1⟩⟩
  rcases h with q | q
  · exact ⟨com_c q, com_c q.symm⟩
  · rw [← hn W]; exact ⟨com_c q, com_c q.symm⟩
theorem gud_inj (hB : BkO Bk F G bl) (h2 : B2 Bk F G) (hP : PCA Bk F G Pi Bo pc pa pb) {p m q n : Nat} (hp : p < pc) (hm : m < lasN (Bo p) (Bo (p + 1))) (ho : okB Pi Bo pc bl (Pi (Bo p + m)) = true) (hq : q < pc) (hn : n < lasN (Bo q) (Bo (q + 1))) (hr : okB Pi Bo pc bl (Pi (Bo q + n)) = true) (he : eqo Bk (fun e => lb (Pi (Bo p + m)) e = true) (fun e => lb (Pi (Bo q + n)) e = true)) : p = q ∧ m = n := by
  obtain ⟨p1, p2, p3⟩ := hP.1 p hp
  obtain ⟨q1, q2, q3⟩ := hP.1 q hq
  have hm' := las_le hm p2
  have hn' := las_le hn q2
  have g1 := (ok_iff hB h2 hP hp hm').mp ho
  have g2 := (ok_iff hB h2 hP hq hn').mp hr
  have c1 := com_ab h2 (pie_clo p3 hm') (two_1 g1.1.1) (two_1 g1.1.2.1)
  have c2 := com_ab h2 (pie_clo q3 hn') (two_1 g2.1.1) (two_1 g2.1.2.1)
  have cc : ∀ v, (v = pa p ∨ v = pb p) ↔ (v = pa q ∨ v = pb q) := fun v => by
    rw [← c1 v, ← c2 v]; exact eqo_com he
  have x1 := (cc (pa p)).mp (Or.inl rfl)
  have x2 := (cc (pb p)).mp (Or.inr rfl)
  have hpq : p = q := hP.2.1 p q hp hq (by omega) (by omega)
  subst hpq
  refine ⟨rfl, Classical.byContradiction (fun hmn => ?_)⟩
  rcases he with z | z
  · obtain ⟨e, he⟩ := p3.1 m hm'
    exact hmn (p3.2.2.2.2 m n e hm' hn' he ((z e ((p3.2.1 m e hm' he).2.1)).mp he))
  · -- then there are two pieces only
    have : Bo (p + 1) - Bo p ≠ 2 := fun w => by
      unfold lasN at hm hn
      rw [if_pos w] at hm hn; omega
    have : ∃ l, l < Bo (p + 1) - Bo p ∧ l ≠ m ∧ l ≠ n := by
      by_cases a0 : 0 ≠ m ∧ 0 ≠ n
      · exact ⟨0, by omega, a0⟩
      · by_cases a1 : 1 ≠ m ∧ 1 ≠ n
        · exact ⟨1, by omega, a1⟩
        · exact ⟨2, by omega, by omega⟩
    obtain ⟨l, l1, l2, l3⟩ := this
    obtain ⟨e, he⟩ := p3.1 l l1
    have hb := (p3.2.1 l e l1 he).2.1
    have nm : ¬ lb (Pi (Bo p + m)) e = true := fun w => l2 (p3.2.2.2.2 l m e l1 hm' he w)
    have nn : ¬ lb (Pi (Bo p + n)) e = true := fun w => l3 (p3.2.2.2.2 l n e l1 hn' he w)
    exact nm ((z e hb).mpr nn)
end GS
/-- sums of counts, as places in a row -/
theorem sm_en (q : Nat → Nat → Bool) (l : Nat → Nat) : ∀ n, ∃ e1 e2 : Nat → Nat, (∀ i, i < sm (fun p => cn (q p) (l p)) n → e1 i < n ∧ e2 i < l (e1 i) ∧ q (e1 i) (e2 i) = true) ∧ ∀ i j, i < sm (fun p => cn (q p) (l p)) n → j < sm (fun p => cn (q p) (l p)) n → e1 i = e1 j → e2 i = e2 j → i = j
  | 0 => ⟨fun _ => 0, fun _ => 0, fun _ h => absurd h (Nat.not_lt_zero _), fun _ _ h => absurd h (Nat.not_lt_zero _)⟩
  | n + 1 => by
    obtain ⟨e1, e2, h1, h2⟩ := sm_en q l n
    have key : ∀ k, ∃ e : Nat → Nat, (∀ i, i < cn (q n) k → e i < k ∧ q n (e i) = true) ∧ ∀ i j, i < cn (q n) k → j < cn (q n) k → e i = e j → i = j := by
      intro k
      induction k with
      | zero => exact ⟨fun _ => 0, fun _ h => absurd h (Nat.not_lt_zero _), fun _ _ h => absurd h (Nat.not_lt_zero _)⟩
      | succ k ih =>
        obtain ⟨e, a1, a2⟩ := ih
        cases c : q n k
        · have : cn (q n) (k + 1) = cn (q n) k := by simp only [cn, c]; rfl
          rw [this]
          exact ⟨e, fun i hi => ⟨by have := (a1 i hi).1; omega, (a1 i hi).2⟩, a2⟩
        · have : cn (q n) (k + 1) = cn (q n) k + 1 := by simp only [cn, c]; rfl
          rw [this]
          refine ⟨va_up e (cn (q n) k) k, fun i hi => ?_, fun i j hi hj hij => ?_⟩
          · by_cases z : i = cn (q n) k
            · rw [z, va_up_s]; exact ⟨by omega, c⟩
            · rw [va_up_o _ z]; have := a1 i (by omega); exact ⟨by omega, this.2⟩
          · by_cases z : i = cn (q n) k
            · by_cases w : j = cn (q n) k
              · omega
              · rw [z, va_up_s, va_up_o _ w] at hij; have := (a1 j (by omega)).1; omega
            · by_cases w : j = cn (q n) k
              · rw [w, va_up_s, va_up_o _ z] at hij; have := (a1 i (by omega)).1; omega
              · rw [va_up_o _ z, va_up_o _ w] at hij; exact a2 i j (by omega) (by omega) hij
    obtain ⟨e, a1, a2⟩ := key (l n)
    have hs : sm (fun p => cn (q p) (l p)) (n + 1) = sm (fun p => cn (q p) (l p)) n + cn (q n) (l n) := rfl
    rw [hs]
    refine ⟨fun i => if i < sm (fun p => cn (q p) (l p)) n then e1 i else n, fun i => if i < sm (fun p => cn (q p) (l p)) n then e2 i else e (i - sm (fun p => cn (q p) (l p)) n), fun i hi => ?_, fun i j hi hj x1 x2 => ?_⟩
    · by_cases z : i < sm (fun p => cn (q p) (l p)) n
      · simp only [if_pos z]; have := h1 i z; exact ⟨by omega, this.2⟩
      · simp only [if_neg z]; have := a1 (i - sm (fun p => cn (q p) (l p)) n) (by omega); exact ⟨by omega, this⟩
    · by_cases z : i < sm (fun p => cn (q p) (l p)) n
      · by_cases w : j < sm (fun p => cn (q p) (l p)) n
        · simp only [if_pos z, if_pos w] at x1 x2; exact h2 i j z w x1 x2
        · simp only [if_pos z, if_neg w] at x1; have := (h1 i z).1; omega
      · by_cases w : j < sm (fun p => cn (q p) (l p)) n
        · simp only [if_neg z, if_pos w] at x1; have := (h1 j w).1; omega
        · simp only [if_neg z, if_neg w] at x2; have := a2 _ _ (by omega) (by omega) x2; omega
theorem max_ex {P : Nat → Prop} {f : Nat → Nat} : ∀ (N : Nat), (∀ j, P j → f j ≤ N) → (∃ j, P j) → ∃ j, P j ∧ ∀ i, P i → f i ≤ f j
  | 0, h, ⟨j, hj⟩ => ⟨j, hj, fun i hi => by have := h i hi; omega⟩
  | N + 1, h, hx => by
    by_cases q : ∃ j, P j ∧ f j = N + 1
    · obtain ⟨j, j1, j2⟩ := q
      exact ⟨j, j1, fun i hi => by have := h i hi; omega⟩
    · exact max_ex N (fun j hj => by
        have := h j hj
        have : f j ≠ N + 1 := fun z => q ⟨j, hj, z⟩
        omega) hx
/-- sets of two or more that never cross: no more of them than elements -/
theorem lam {D : Nat → Bool} {z n : Nat} {Y : Nat → Nat → Prop} (h2 : ∀ k, k < z → D k = true → ∃ i j, i < j ∧ j < n ∧ Y k i ∧ Y k j)
    (hl : ∀ j k, j < z → k < z → D j = true → D k = true → (∀ i, i < n → Y j i → Y k i) ∨ (∀ i, i < n → Y k i → Y j i) ∨ (∀ i, i < n → Y j i → ¬ Y k i))
    (hd : ∀ j k, j < z → k < z → D j = true → D k = true → (∀ i, i < n → (Y j i ↔ Y k i)) → j = k) : cn D z ≤ n := by
  have key : ∀ k, k < z → D k = true → ∃ e, e < n ∧ Y k e ∧ (∃ i, i < e ∧ Y k i) ∧ ∀ j, j < z → D j = true → j ≠ k → (∀ i, i < n → Y j i → Y k i) → Y j e → ∀ i, i < n → Y j i → e ≤ i := by
    intro k hk hD
    -- the least element of the set
    have hmin : ∃ m0, m0 < n ∧ Y k m0 ∧ ∀ i, i < n → Y k i → m0 ≤ i := by
      obtain ⟨i, j, hij, hj, yi, yj⟩ := h2 k hk hD
      obtain ⟨m, m1, m2⟩ := max_ex (P := fun i => i < n ∧ Y k i) (f := fun i => n - i) n (fun j _ => Nat.sub_le _ _) ⟨j, hj, yj⟩
      exact ⟨m, m1.1, m1.2, fun i hi yi => by have := m2 i ⟨hi, yi⟩; have := m1.1; omega⟩
    obtain ⟨m0, m1, m2, m3⟩ := hmin
    -- an element that no lesser set has together with the least
    have hex : ∃ e, e < n ∧ Y k e ∧ m0 < e ∧ ∀ j, j < z → D j = true → j ≠ k → (∀ i, i < n → Y j i → Y k i) → Y j m0 → ¬ Y j e := by
      by_cases c : ∃ j, (j < z ∧ D j = true ∧ j ≠ k ∧ (∀ i, i < n → Y j i → Y k i) ∧ Y j m0)
      · obtain ⟨j, ⟨j1, j2, j3, j4, j5⟩, jm⟩ := max_ex (P := fun j => j < z ∧ D j = true ∧ j ≠ k ∧ (∀ i, i < n → Y j i → Y k i) ∧ Y j m0) (f := fun j => cn (fun i => dc (Y j i)) n) n (fun j _ => cn_le _ _) c
        have : ∃ e, e < n ∧ Y k e ∧ ¬ Y j e := by
          apply Classical.byContradiction
          intro q
          exact j3 (hd j k j1 hk j2 hD (fun i hi => ⟨j4 i hi, fun w => Classical.byContradiction (fun v => q ⟨i, hi, w, v⟩)⟩))
        obtain ⟨e, e1, e2, e3⟩ := this
        refine ⟨e, e1, e2, ?_, fun j' a1 a2 a3 a4 a5 a6 => ?_⟩
        · have := m3 e e1 e2
          have : m0 ≠ e := fun q => e3 (by rw [← q]; exact j5)
          omega
        · rcases hl j j' j1 a1 j2 a2 with w | w | w
          · have hlt := cn_lt (p := fun i => dc (Y j i)) (q := fun i => dc (Y j' i)) (n := n) (fun i hi hy => dc_t.mpr (w i hi (dc_t.mp hy))) e e1 (dc_f.mpr e3) (dc_t.mpr a6)
            have hle : cn (fun i => dc (Y j' i)) n ≤ cn (fun i => dc (Y j i)) n := jm j' ⟨a1, a2, a3, a4, a5⟩
            omega
          · exact e3 (w e e1 a6)
          · exact w m0 m1 j5 a5
      · obtain ⟨i, j, hij, hj, yi, yj⟩ := h2 k hk hD
        have := m3 i (by omega) yi
        exact ⟨j, hj, yj, by omega, fun j' a1 a2 a3 a4 a5 _ => c ⟨j', a1, a2, a3, a4, a5⟩⟩
    -- the least such
    obtain ⟨e, ⟨⟨e1, e2, e3, e4⟩, em⟩⟩ := max_ex (P := fun e => e < n ∧ Y k e ∧ m0 < e ∧ ∀ j, j < z → D j = true → j ≠ k → (∀ i, i < n → Y j i → Y k i) → Y j m0 → ¬ Y j e) (f := fun i => n - i) n (fun j _ => Nat.sub_le _ _) hex
    refine ⟨e, e1, e2, ⟨m0, e3, m2⟩, fun j a1 a2 a3 a4 a5 i hi yi => ?_⟩
    apply Classical.byContradiction
    intro hlt
    have hie : i < e := by omega
    have nj0 : ¬ Y j m0 := fun q => e4 j a1 a2 a3 a4 q a5
    have hni : ¬ (i < n ∧ Y k i ∧ m0 < i ∧ ∀ j, j < z → D j = true → j ≠ k → (∀ i, i < n → Y j i → Y k i) → Y j m0 → ¬ Y j i) := fun q => by
      have : n - i ≤ n - e := em i q
      omega
    apply hni
    have him := m3 i hi (a4 i hi yi)
    have him0 : m0 ≠ i := fun q => nj0 (by rw [q]; exact yi)
    refine ⟨hi, a4 i hi yi, by omega, fun j' b1 b2 b3 b4 b5 b6 => ?_⟩
    rcases hl j j' a1 b1 a2 b2 with w | w | w
    · exact e4 j' b1 b2 b3 b4 b5 (w e e1 a5)
    · exact nj0 (w m0 m1 b5)
    · exact w i hi yi b6
  have := cn_map (p := D) (fun k => if h : k < z ∧ D k = true then Classical.choose (key k h.1 h.2) else 0) n z (fun _ => true) (fun k hk hD => by
    simp only [dif_pos (show k < z ∧ D k = true from ⟨hk, hD⟩)]
    exact ⟨(Classical.choose_spec (key k hk hD)).1, trivial⟩) (fun j k hj hk dj dk hjk => by
    simp only [dif_pos (show k < z ∧ D k = true from ⟨hk, dk⟩), dif_pos (show j < z ∧ D j = true from ⟨hj, dj⟩)] at hjk
    obtain ⟨a1, a2, ⟨i, i1, i2⟩, a4⟩ := Classical.choose_spec (key j hj dj)
    obtain ⟨b1, b2, ⟨l, l1, l2⟩, b4⟩ := Classical.choose_spec (key k hk dk)
    rw [← hjk] at b1 b2 l1 b4
    apply Classical.byContradiction
    intro hne
    rcases hl j k hj hk dj dk with w | w | w
    · have := b4 j hj dj hne w a2 i (by omega) i2; omega
    · have := a4 k hk dk (fun q => hne q.symm) w b2 l (by omega) l2; omega
    · exact w _ a1 a2 b2)
  exact Nat.le_trans this (cn_le _ _)
