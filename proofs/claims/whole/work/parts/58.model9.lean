/-! ===== 58.model9: the reference's worn set ===== -/
theorem cn_del {p : Nat → Bool} : ∀ {n : Nat} (k : Nat), k < n → p k = true → cn (fun i => p i && decide (i ≠ k)) n + 1 = cn p n
  | 0, k, hk, _ => absurd hk (Nat.not_lt_zero _)
  | n + 1, k, hk, h => by
    by_cases e : k = n
    · subst e
      have : cn (fun i => p i && decide (i ≠ k)) k = cn p k := cn_congr (fun i hi => by rw [decide_eq_true (show i ≠ k by omega), Bool.and_true])
      simp only [cn, h, this]; simp
    · have := cn_del (n := n) k (by omega) h
      simp only [cn]
      rw [decide_eq_true (show n ≠ k by omega), Bool.and_true]; omega
theorem b_del {x : Int32} {k : Nat} (hk : k < 32) (y : Nat) : bt (x &&& (sb k ^^^ (-1))) y = (bt x y && decide (y ≠ k)) := by
  rw [b_and]
  rcases Nat.lt_or_ge y 32 with q | q
  · rw [b_not _ q, b_sb hk q]
    by_cases e : y = k <;> simp [e]
  · rw [b_big q]; simp
theorem one_of {p : Nat → Bool} {n y z : Nat} (hc : cn p n ≤ 1) (hy : y < n) (hz : z < n) (py : p y = true) (pz : p z = true) : y = z := by
  apply Classical.byContradiction
  intro hn
  have h1 := cn_del y hy py
  have h2 := cn_pos (p := fun i => p i && decide (i ≠ y)) z hz (by simp only [pz, Bool.true_and, decide_eq_true_eq]; exact fun q => hn q.symm)
  omega
theorem ls_of {x : Int32} (h14 : ∀ y, bt x y = true → y < 14) (hc : 0 < cn (bt x) 16) : lsn (bt x) 16 < 14 ∧ bt x (lsn (bt x) 16) = true := by
  obtain ⟨a1, a2, a3⟩ := lsn_spec (bt x) 16
  have h : lsn (bt x) 16 < 16 := by
    apply Classical.byContradiction
    intro hn
    rw [cn_none (fun i hi => a2 i (by omega))] at hc
    omega
  exact ⟨h14 _ (a3 h), a3 h⟩
theorem two_of {x : Int32} {a b : Nat} (h14 : ∀ y, bt x y = true → y < 14) (hc : cn (bt x) 16 = 2) (ha : a = lsn (bt x) 16) (hb : b = lsn (bt (x &&& (sb a ^^^ (-1)))) 16) : a < 14 ∧ b < 14 ∧ a ≠ b ∧ ∀ y, bt x y = true ↔ (y = a ∨ y = b) := by
  have h1 := ls_of h14 (by omega)
  rw [← ha] at h1
  have hd := b_del (x := x) (k := a) (by omega)
  have h2 : cn (bt (x &&& (sb a ^^^ (-1)))) 16 = 1 := by
    rw [cn_congr (q := fun i => bt x i && decide (i ≠ a)) (fun i _ => hd i)]
    have := cn_del (p := bt x) (n := 16) a (by omega) h1.2
    omega
  have h3 := ls_of (x := x &&& (sb a ^^^ (-1))) (fun y hy => h14 y (b_and'.mp hy).1) (by omega)
  rw [← hb] at h3
  have h4 := h3.2
  rw [hd b, Bool.and_eq_true, decide_eq_true_eq] at h4
  refine ⟨h1.1, h3.1, fun q => h4.2 q.symm, fun y => ⟨fun hy => ?_, fun q => ?_⟩⟩
  · by_cases e : y = a
    · exact Or.inl e
    · right
      have hy14 := h14 y hy
      exact one_of (p := bt (x &&& (sb a ^^^ (-1)))) (n := 16) (by omega) (by omega) (by omega) (by rw [hd y, hy, decide_eq_true e]; rfl) h3.2
  · rcases q with q | q
    · rw [q]; exact h1.2
    · rw [q]; exact h4.1
def wmI (S0 : WSt) (nd : Nat) (lf : Int32) (R : Nat → Int32) (m : Nat) : Prop :=
  Rs S0 (wS lf R) ∧ (∀ a, bt lf a = true → a < nd) ∧ (∀ a b, bt lf a = true → bt (R a) b = true → bt lf b = true ∧ bt (R b) a = true ∧ a ≠ b) ∧ ∀ v, m ≤ v → v < nd → ¬ (bt lf v = true ∧ cn (bt (R v)) 16 ≤ 2)
theorem wm_thn {nd : Nat} {lf : Int32} {R : Nat → Int32} {v : Nat} (hnd : nd ≤ 14) (h2 : ∀ a, bt lf a = true → a < nd) (h3 : ∀ a b, bt lf a = true → bt (R a) b = true → bt lf b = true ∧ bt (R b) a = true ∧ a ≠ b) : thn (wS lf R) v ↔ (bt lf v = true ∧ cn (bt (R v)) 16 ≤ 2) := by
  rw [thn_iff]
  constructor
  · rintro ⟨q1, q2⟩
    refine ⟨q1, ?_⟩
    rw [cn_congr (q := bt (R v)) (fun i _ => by
      rw [b_and]
      cases hx : bt (R v) i
      · rfl
      · rw [(h3 v i q1 hx).1]; rfl), cn_skip (m := 16) (l := 32) (by omega) (fun b hb _ => by
      rw [Bool.eq_false_iff]; intro hx
      have := h2 b (h3 v b q1 hx).1; omega)] at q2
    exact q2
  · rintro ⟨q1, q2⟩
    refine ⟨q1, ?_⟩
    rw [cn_congr (q := bt (R v)) (fun i _ => by
      rw [b_and]
      cases hx : bt (R v) i
      · rfl
      · rw [(h3 v i q1 hx).1]; rfl), cn_skip (m := 16) (l := 32) (by omega) (fun b hb _ => by
      rw [Bool.eq_false_iff]; intro hx
      have := h2 b (h3 v b q1 hx).1; omega)]
    exact q2
theorem wm_f {S0 : WSt} {nd : Nat} {lf : Int32} {R : Nat → Int32} {m : Nat} (h : wmI S0 nd lf R m) (hm : 1 ≤ m) (c : bt lf (m - 1) = false ∨ 2 < cn (bt (R (m - 1))) 16) : wmI S0 nd lf R (m - 1) := by
  refine ⟨h.1, h.2.1, h.2.2.1, fun v h1 h2 h3 => ?_⟩
  by_cases e : v = m - 1
  · subst e
    rcases c with c | c
    · rw [c] at h3; cases h3.1
    · omega
  · exact h.2.2.2 v (by omega) h2 h3
theorem wm_e {S0 : WSt} {nd : Nat} {lf : Int32} {R : Nat → Int32} {m : Nat} (hnd : nd ≤ 14) (h : wmI S0 nd lf R m) (hm : m = 0) : WR S0 lf :=
  ⟨wS lf R, h.1, fun v hv => by
    have q := (wm_thn hnd h.2.1 h.2.2.1).mp hv
    exact h.2.2.2 v (by omega) (h.2.1 v q.1) q, fun _ => rfl⟩
theorem wm_0 {T : Nat → Bool} {F G : Nat → Nat} {nd : Nat} {N : Nat → Int32} (hnd : nd ≤ 14) (hN : NR T F G N) (hT : ∀ e, e < 41 → T e = true → F e < nd ∧ G e < nd ∧ F e ≠ G e) (hal : ∀ a, bt (sb nd - nI 1) a = decide (a < nd)) : wmI (wS (sb nd - nI 1) N) nd (sb nd - nI 1) N nd := by
  refine ⟨Rs.rf _, fun a ha => ?_, fun a b ha hb => ?_, fun v h1 h2 => by omega⟩
  · rw [hal a] at ha; exact of_decide_eq_true ha
  · rw [hal a] at ha
    have ha := of_decide_eq_true ha
    obtain ⟨e, e1, e2, e3⟩ := (hN a b (by omega)).mp hb
    have q := hT e e1 e2
    rcases e3 with ⟨z1, z2⟩ | ⟨z1, z2⟩
    · subst z1; subst z2
      exact ⟨by rw [hal]; exact decide_eq_true q.2.1, (hN _ _ (by omega)).mpr ⟨e, e1, e2, Or.inr ⟨rfl, rfl⟩⟩, q.2.2⟩
    · subst z1; subst z2
      exact ⟨by rw [hal]; exact decide_eq_true q.1, (hN _ _ (by omega)).mpr ⟨e, e1, e2, Or.inl ⟨rfl, rfl⟩⟩, fun z => q.2.2 z.symm⟩
/-- the rows when a node goes -/
def dlI (R : Nat → Int32) (v : Nat) (R1 : Nat → Int32) (i : Nat) : Prop := ∀ j, R1 j = if j < i then R j &&& (sb v ^^^ (-1)) else R j
theorem dlI_0 (R : Nat → Int32) (v : Nat) : dlI R v R 0 := fun j => by rw [if_neg (Nat.not_lt_zero _)]
theorem dlI_n {R R1 : Nat → Int32} {v i : Nat} (h : dlI R v R1 i) : dlI R v (va_up R1 i (R1 i &&& (sb v ^^^ (-1)))) (i + 1) := by
  intro j
  by_cases e : j = i
  · subst e; rw [va_up_s, if_pos (Nat.lt_succ_self _), h j, if_neg (Nat.lt_irrefl _)]
  · rw [va_up_o _ e, h j]
    by_cases q : j < i
    · rw [if_pos q, if_pos (by omega)]
    · rw [if_neg q, if_neg (by omega)]
theorem wm_same {nd : Nat} {lf : Int32} {R R1 : Nat → Int32} {v : Nat} (hnd : nd ≤ 14) (h3 : ∀ a b, bt lf a = true → bt (R a) b = true → bt lf b = true ∧ bt (R b) a = true ∧ a ≠ b) (hv : v < nd) (hb : bt lf v = true) (h : dlI R v R1 nd) : R1 v = R v := by
  rw [h v, if_pos hv]
  apply b_ext
  intro i _
  rw [b_del (by omega)]
  cases hx : bt (R v) i
  · rfl
  · rw [decide_eq_true (p := i ≠ v) (fun q => (h3 v i hb hx).2.2 q.symm)]; rfl
theorem wm_ab {nd : Nat} {lf : Int32} {R R1 : Nat → Int32} {v : Nat} (hnd : nd ≤ 14) (h2 : ∀ a, bt lf a = true → a < nd) (h3 : ∀ a b, bt lf a = true → bt (R a) b = true → bt lf b = true ∧ bt (R b) a = true ∧ a ≠ b) (hv : v < nd) (hb : bt lf v = true) (h : dlI R v R1 nd) (c : cn (bt (R1 v)) 16 = 2) :
    lsn (bt (R v)) 16 < 14 ∧ lsn (bt (R v &&& (sb (lsn (bt (R v)) 16) ^^^ (-1)))) 16 < 14 ∧ lsn (bt (R v)) 16 ≠ lsn (bt (R v &&& (sb (lsn (bt (R v)) 16) ^^^ (-1)))) 16 ∧ ∀ y, bt (R v) y = true ↔ (y = lsn (bt (R v)) 16 ∨ y = lsn (bt (R v &&& (sb (lsn (bt (R v)) 16) ^^^ (-1)))) 16) :=
  two_of (fun y hy => Nat.lt_of_lt_of_le (h2 y (h3 v y hb hy).1) hnd) (by rw [← wm_same hnd h3 hv hb h]; exact c) rfl rfl
theorem wm_t {S0 : WSt} {nd : Nat} {lf : Int32} {R R1 R2 : Nat → Int32} {m v a b : Nat} (hnd : nd ≤ 14) (h : wmI S0 nd lf R m) (hv : v < nd) (hb : bt lf v = true) (hc : cn (bt (R v)) 16 ≤ 2) (h1 : dlI R v R1 nd) (ha : a = lsn (bt (R v)) 16) (hbb : b = lsn (bt (R v &&& (sb a ^^^ (-1)))) 16)
    (h2 : (¬ cn (bt (R1 v)) 16 = 2 ∧ R2 = R1) ∨ (cn (bt (R1 v)) 16 = 2 ∧ R2 = va_up (va_up R1 a (R1 a ||| sb b)) b ((va_up R1 a (R1 a ||| sb b)) b ||| sb a))) : wmI S0 nd (lf &&& (sb v ^^^ (-1))) R2 nd := by
  obtain ⟨g1, g2, g3, _⟩ := h
  have hsm := wm_same hnd g3 hv hb h1
  have hdl : ∀ k, k < nd → ∀ y, bt (R1 k) y = (bt (R k) y && decide (y ≠ v)) := fun k hk y => by rw [h1 k, if_pos hk, b_del (by omega)]
  have key : ∀ k, bt lf k = true → ∀ y, bt (R2 k) y = true ↔ (y ≠ v ∧ (bt (R k) y = true ∨ (k ≠ y ∧ bt (R v) k = true ∧ bt (R v) y = true))) := by
    intro k hk y
    have hk14 := g2 k hk
    rcases h2 with ⟨q1, q2⟩ | ⟨q1, q2⟩
    · rw [q2, hdl k hk14 y, Bool.and_eq_true, decide_eq_true_eq]
      constructor
      · rintro ⟨z1, z2⟩; exact ⟨z2, Or.inl z1⟩
      · rintro ⟨z1, z2 | ⟨z2, z3, z4⟩⟩
        · exact ⟨z2, z1⟩
        · rw [hsm] at q1
          have z5 := g2 y (g3 v y hb z4).1
          exact absurd (one_of (p := bt (R v)) (n := 16) (by omega) (by omega) (by omega) z3 z4) z2
    · obtain ⟨a1, b1, n1, e1⟩ := wm_ab hnd g2 g3 hv hb h1 q1
      rw [← ha, ← hbb] at n1 e1
      rw [← ha] at a1 b1
      rw [← hbb] at b1
      have hav : a ≠ v := fun z => (g3 v a hb ((e1 a).mpr (Or.inl rfl))).2.2 z.symm
      have hbv : b ≠ v := fun z => (g3 v b hb ((e1 b).mpr (Or.inr rfl))).2.2 z.symm
      rw [q2, e1 k, e1 y]
      by_cases kb : k = b
      · rw [kb] at hk14
        rw [kb, va_up_s, va_up_o _ (fun z => n1 z.symm), b_or', hdl b hk14 y, Bool.and_eq_true, decide_eq_true_eq, b_sb' (by omega)]
        constructor
        · rintro (⟨z1, z2⟩ | z)
          · exact ⟨z2, Or.inl z1⟩
          · rw [z]; exact ⟨hav, Or.inr ⟨fun w => n1 w.symm, Or.inr rfl, Or.inl rfl⟩⟩
        · rintro ⟨z1, z2 | ⟨z2, _, z4 | z4⟩⟩
          · exact Or.inl ⟨z2, z1⟩
          · exact Or.inr z4
          · exact absurd z4.symm z2
      · rw [va_up_o _ kb]
        by_cases ka : k = a
        · rw [ka] at hk14
          rw [ka, va_up_s, b_or', hdl a hk14 y, Bool.and_eq_true, decide_eq_true_eq, b_sb' (by omega)]
          constructor
          · rintro (⟨z1, z2⟩ | z)
            · exact ⟨z2, Or.inl z1⟩
            · rw [z]; exact ⟨hbv, Or.inr ⟨n1, Or.inl rfl, Or.inr rfl⟩⟩
          · rintro ⟨z1, z2 | ⟨z2, _, z4 | z4⟩⟩
            · exact Or.inl ⟨z2, z1⟩
            · exact absurd z4.symm z2
            · exact Or.inr z4
        · rw [va_up_o _ ka, hdl k hk14 y, Bool.and_eq_true, decide_eq_true_eq]
          constructor
          · rintro ⟨z1, z2⟩; exact ⟨z2, Or.inl z1⟩
          · rintro ⟨z1, z2 | ⟨z2, z3 | z3, _⟩⟩
            · exact ⟨z2, z1⟩
            · exact absurd z3 ka
            · exact absurd z3 kb
  have hl : ∀ k, bt (lf &&& (sb v ^^^ (-1))) k = true ↔ (bt lf k = true ∧ k ≠ v) := fun k => by rw [b_del (by omega), Bool.and_eq_true, decide_eq_true_eq]
  have hw : wS (lf &&& (sb v ^^^ (-1))) R2 = rmv v (wS lf R) := by
    unfold wS rmv
    refine Prod.ext ?_ ?_
    · funext k; exact b_del (by omega) k
    · funext x y
      rw [Bool.eq_iff_iff]
      simp only [Bool.and_eq_true, Bool.or_eq_true, decide_eq_true_eq]
      rw [hl x, hl y]
      constructor
      · rintro ⟨⟨z1, z2⟩, ⟨z3, z4⟩, z5⟩
        rcases ((key x z1 y).mp z5).2 with w | ⟨w1, w2, w3⟩
        · exact ⟨⟨z2, z4⟩, Or.inl ⟨z1, z3, w⟩⟩
        · exact ⟨⟨z2, z4⟩, Or.inr ⟨w1, ⟨hb, z1, w2⟩, hb, z3, w3⟩⟩
      · rintro ⟨⟨z2, z4⟩, ⟨z1, z3, w⟩ | ⟨w1, ⟨_, z1, w2⟩, _, z3, w3⟩⟩
        · exact ⟨⟨z1, z2⟩, ⟨z3, z4⟩, (key x z1 y).mpr ⟨z4, Or.inl w⟩⟩
        · exact ⟨⟨z1, z2⟩, ⟨z3, z4⟩, (key x z1 y).mpr ⟨z4, Or.inr ⟨w1, w2, w3⟩⟩⟩
  refine ⟨?_, fun k hk => g2 k ((hl k).mp hk).1, fun x y hx hy => ?_, fun v h1 h2 => by omega⟩
  · rw [hw]; exact g1.step ((wm_thn hnd g2 g3).mpr ⟨hb, hc⟩)
  · have hx := (hl x).mp hx
    have hy := (key x hx.1 y).mp hy
    rcases hy with ⟨z1, z2 | ⟨z2, z3, z4⟩⟩
    · have := g3 x y hx.1 z2
      exact ⟨(hl y).mpr ⟨this.1, z1⟩, (key y this.1 x).mpr ⟨hx.2, Or.inl this.2.1⟩, this.2.2⟩
    · have := (g3 v y hb z4).1
      exact ⟨(hl y).mpr ⟨this, z1⟩, (key y this x).mpr ⟨hx.2, Or.inr ⟨fun w => z2 w.symm, z4, z3⟩⟩, z2⟩
theorem wm_d {lf : Int32} {v nd m n : Nat} (hnd : nd ≤ 14) (hv : v < nd) (hb : bt lf v = true) (h : 16 * cn (bt lf) 14 + m < n + 1) : 16 * cn (bt (lf &&& (sb v ^^^ (-1)))) 14 + nd < n := by
  have : cn (bt (lf &&& (sb v ^^^ (-1)))) 14 < cn (bt lf) 14 := cn_lt (fun i _ hi => (b_and'.mp hi).1) v (by omega) (by rw [b_del (by omega)]; simp) hb
  omega
theorem m1_lt : ∀ m, m < 15 → ((nI m - nI 1 < 0) ↔ m = 0) := by decide +kernel
theorem nI_m1 (x : Int32) : x + (-1) = x - nI 1 := by rw [Int32.sub_eq_add_neg]; rfl
theorem b_all : ∀ nd, nd < 15 → ∀ a, a < 32 → bt (sb nd - nI 1) a = decide (a < nd) := by decide +kernel
theorem b_all' {nd : Nat} (h : nd < 15) (a : Nat) : bt (sb nd - nI 1) a = decide (a < nd) := by
  rcases Nat.lt_or_ge a 32 with q | q
  · exact b_all nd h a q
  · rw [b_big q, decide_eq_false (by omega)]
