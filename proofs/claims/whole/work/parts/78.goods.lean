/-! ===== 78.goods: what the class keeps are the good splits ===== -/
theorem cn_1 {p : Nat → Bool} {n : Nat} (h : 0 < cn p n) : ∃ i, i < n ∧ p i = true := by
  apply Classical.byContradiction
  intro q
  rw [cn_none (fun i hi => Bool.eq_false_iff.mpr (fun z => q ⟨i, hi, z⟩))] at h
  omega
theorem cn_2 {p : Nat → Bool} {n : Nat} (h : 1 < cn p n) : ∃ i j, i ≠ j ∧ i < n ∧ j < n ∧ p i = true ∧ p j = true := by
  obtain ⟨i, i1, i2⟩ := cn_1 (p := p) (n := n) (by omega)
  have h1 := cn_del i i1 i2
  obtain ⟨j, j1, j2⟩ := cn_1 (p := fun k => p k && decide (k ≠ i)) (n := n) (by omega)
  have j2 := (Bool.and_eq_true _ _).mp j2
  exact ⟨i, j, fun q => (of_decide_eq_true j2.2) q.symm, i1, j1, i2, j2.1⟩
theorem cn_g2 {p : Nat → Bool} {n i j : Nat} (hij : i ≠ j) (hi : i < n) (hj : j < n) (pi : p i = true) (pj : p j = true) : 1 < cn p n := by
  have h1 := cn_del i hi pi
  have h2 := cn_pos (p := fun k => p k && decide (k ≠ i)) j hj (by simp only [pj, Bool.true_and, decide_eq_true_eq]; exact fun q => hij q.symm)
  omega
/-- any set below 64 is some bits -/
theorem lset_of (p : Nat → Prop) : ∀ n, n ≤ 63 → ∃ x : Int64, ∀ y, lb x y = true ↔ (y < n ∧ p y)
  | 0, _ => ⟨0, fun y => by rw [l_0]; exact ⟨fun h => (by cases h), fun h => absurd h.1 (Nat.not_lt_zero _)⟩⟩
  | n + 1, h => by
    obtain ⟨x, hx⟩ := lset_of p n (by omega)
    by_cases q : p n
    · refine ⟨x ||| lsb n, fun y => ?_⟩
      rw [l_or', hx y, l_lsb' (by omega)]
      constructor
      · rintro (⟨a, b⟩ | a)
        · exact ⟨by omega, b⟩
        · subst a; exact ⟨by omega, q⟩
      · rintro ⟨a, b⟩
        by_cases e : y = n
        · exact Or.inr e
        · exact Or.inl ⟨by omega, b⟩
    · refine ⟨x, fun y => ?_⟩
      rw [hx y]
      constructor
      · rintro ⟨a, b⟩; exact ⟨by omega, b⟩
      · rintro ⟨a, b⟩
        by_cases e : y = n
        · subst e; exact absurd b q
        · exact ⟨by omega, b⟩
/-- every relation has its classes -/
theorem GPI_ex {L : Nat → Nat → Prop} (hL : GL L) (h41 : ∀ e, L e e → e < 41) : ∃ S z, GPI L S z := by
  have hcl : ∀ e f, L e e → Rc L e f → L f f := fun e f he hr => hr (fun f => L f f) he (fun x y _ hxy => hL.2 y x (hL.1 x y hxy))
  have key : ∀ n, ∃ (S : Nat → Int64) (z : Nat), (∀ i, i < z → ∃ e, L e e ∧ ∀ f, lb (S i) f = true ↔ Rc L e f) ∧ (∀ e, e < n → L e e → ∃ i, i < z ∧ lb (S i) e = true) ∧ ∀ i j e, i < z → j < z → lb (S i) e = true → lb (S j) e = true → i = j := by
    intro n
    induction n with
    | zero => exact ⟨fun _ => 0, 0, fun _ h => absurd h (Nat.not_lt_zero _), fun _ h => absurd h (Nat.not_lt_zero _), fun _ _ _ h => absurd h (Nat.not_lt_zero _)⟩
    | succ n ih =>
      obtain ⟨S, z, h1, h2, h3⟩ := ih
      by_cases q : L n n ∧ ¬ ∃ i, i < z ∧ lb (S i) n = true
      · obtain ⟨x, hx⟩ := lset_of (fun f => Rc L n f) 41 (by omega)
        have hx' : ∀ f, lb x f = true ↔ Rc L n f := fun f => (hx f).trans ⟨fun q => q.2, fun r => ⟨h41 f (hcl n f q.1 r), r⟩⟩
        have nx : ∀ i e, i < z → lb (S i) e = true → lb x e = true → False := fun i e hi he hxe => by
          obtain ⟨e0, _, g2⟩ := h1 i hi
          exact q.2 ⟨i, hi, (g2 n).mpr (((g2 e).mp he).trans (((hx' e).mp hxe).symm hL.1))⟩
        refine ⟨va_up S z x, z + 1, fun i hi => ?_, fun e he hee => ?_, fun i j e hi hj hie hje => ?_⟩
        · by_cases c : i = z
          · subst c; rw [va_up_s]; exact ⟨n, q.1, hx'⟩
          · rw [va_up_o _ c]; exact h1 i (by omega)
        · by_cases c : e = n
          · subst c; exact ⟨z, by omega, by rw [va_up_s]; exact (hx' e).mpr (Rc.rf _ _)⟩
          · obtain ⟨i, i1, i2⟩ := h2 e (by omega) hee
            exact ⟨i, by omega, by rw [va_up_o _ (by omega)]; exact i2⟩
        · by_cases c : i = z
          · by_cases d : j = z
            · omega
            · rw [va_up_o _ d] at hje; rw [c, va_up_s] at hie; exact (nx j e (by omega) hje hie).elim
          · rw [va_up_o _ c] at hie
            by_cases d : j = z
            · rw [d, va_up_s] at hje; exact (nx i e (by omega) hie hje).elim
            · rw [va_up_o _ d] at hje; exact h3 i j e (by omega) (by omega) hie hje
      · refine ⟨S, z, h1, fun e he hee => ?_, h3⟩
        by_cases c : e = n
        · subst c; exact Classical.byContradiction (fun r => q ⟨hee, r⟩)
        · exact h2 e (by omega) hee
  obtain ⟨S, z, h1, h2, h3⟩ := key 41
  refine ⟨S, z, fun i hi => ?_, fun i e hi he => ?_, fun e he => h2 e (h41 e he) he, fun i e f hi he => ?_, h3⟩
  · obtain ⟨e, _, g⟩ := h1 i hi; exact ⟨e, (g e).mpr (Rc.rf _ _)⟩
  · obtain ⟨e0, g1, g⟩ := h1 i hi
    have := hcl e0 e g1 ((g e).mp he)
    exact ⟨h41 e this, this⟩
  · obtain ⟨e0, g1, g⟩ := h1 i hi
    rw [g f]
    exact ⟨fun r => (((g e).mp he).symm hL.1).trans r, fun r => ((g e).mp he).trans r⟩
/-- the block of the class: its arcs, their ends -/
def BkO (Bk : Nat → Prop) (F G : Nat → Nat) (bl : Int64) : Prop := (∀ e, lb bl e = true ↔ Bk e) ∧ (∀ e, Bk e → e < 40 ∧ F e < 14 ∧ G e < 14 ∧ F e ≠ G e)
theorem PLr_eq {T : Nat → Bool} {Bk : Nat → Prop} {F G : Nat → Nat} {A : Nat → Int64} {bl : Int64} {a b : Nat} (hA : AR T F G A) (hB : BkO Bk F G bl) (hT : ∀ e, Bk e → T e = true) (hab : a ≠ b) (ha : a < 14) (hb : b < 14) : PLr A bl a b = PL Bk F G a b := by
  have hAv : ∀ v e, v < 14 → (lb (A v &&& bl) e = true ↔ (Bk e ∧ (F e = v ∨ G e = v))) := fun v e hv => by
    rw [l_and', hA v e hv, hB.1 e]
    exact ⟨fun q => ⟨q.2, q.1.2.2⟩, fun q => ⟨⟨by have := (hB.2 e q.1).1; omega, hT e q.1, q.2⟩, q.1⟩⟩
  funext e f
  apply propext
  constructor
  · rintro (⟨v, v1, v2, v3, v4, v5⟩ | ⟨q1, q2, q3⟩)
    · have h1 := (hAv v e v1).mp v4
      have h2 := (hAv v f v1).mp v5
      exact ⟨h1.1, h2.1, Or.inl ⟨v, v2, v3, h1.2, h2.2⟩⟩
    · have := (hB.1 e).mp (l_and'.mp q3).2
      exact ⟨this, by rw [← q1]; exact this, Or.inr q1⟩
  · rintro ⟨h1, h2, h3⟩
    have key : ∀ v, v ≠ a → v ≠ b → (F e = v ∨ G e = v) → (F f = v ∨ G f = v) → PLr A bl a b e f := fun v v1 v2 v3 v4 => by
      have hv : v < 14 := by
        have := hB.2 e h1
        rcases v3 with q | q <;> omega
      exact Or.inl ⟨v, hv, v1, v2, (hAv v e hv).mpr ⟨h1, v3⟩, (hAv v f hv).mpr ⟨h2, v4⟩⟩
    rcases h3 with ⟨v, v1, v2, v3, v4⟩ | q
    · exact key v v1 v2 v3 v4
    · subst q
      have he := hB.2 e h1
      by_cases c1 : F e ≠ a ∧ F e ≠ b
      · exact key (F e) c1.1 c1.2 (Or.inl rfl) (Or.inl rfl)
      · by_cases c2 : G e ≠ a ∧ G e ≠ b
        · exact key (G e) c2.1 c2.2 (Or.inr rfl) (Or.inr rfl)
        · refine Or.inr ⟨rfl, he.1, ?_⟩
          rw [l_and', l_and', hA a e ha, hA b e hb, hB.1 e]
          have e41 : e < 41 := by omega
          refine ⟨⟨⟨e41, hT e h1, ?_⟩, ⟨e41, hT e h1, ?_⟩⟩, h1⟩ <;> omega
theorem GL_PL (Bk : Nat → Prop) (F G : Nat → Nat) (a b : Nat) : GL (PL Bk F G a b) := ⟨fun _ _ h => PL_symm h, fun _ _ h => ⟨h.1, h.1, Or.inr rfl⟩⟩
section CR
variable {Bk : Nat → Prop} {F G : Nat → Nat} {bl : Int64} {a b : Nat} {Pi : Nat → Int64} {fr k : Nat} {st : Int64}
theorem wi_iff {x : Int64} : wiB st x = true ↔ ∀ e, lb x e = true → lb st e = true := by
  unfold wiB
  rw [decide_eq_true_eq, l_dj]
  constructor
  · intro h e he
    apply Classical.byContradiction
    intro q
    have he64 : e < 64 := by
      rcases Nat.lt_or_ge e 64 with z | z
      · exact z
      · rw [l_big z] at he; cases he
    exact h e he ((l_not' he64).mpr (Bool.eq_false_iff.mpr q))
  · intro h e he hn
    have he64 : e < 64 := by
      rcases Nat.lt_or_ge e 64 with z | z
      · exact z
      · rw [l_big z] at he; cases he
    have := (l_not' he64).mp hn
    rw [h e he] at this; cases this
theorem wo_iff {x : Int64} : woB st x = true ↔ ∀ e, lb x e = true → ¬ lb st e = true := by
  unfold woB
  rw [decide_eq_true_eq, l_dj]
theorem pie_clo (h : GPI (PL Bk F G a b) (fun i => Pi (fr + i)) k) {i : Nat} (hi : i < k) : clo Bk F G a b (fun e => lb (Pi (fr + i)) e = true) := fun e f hef he => (h.2.2.2.1 i e f hi he).mpr (Rc.one hef)
/-- a pair's pieces cross a set -/
theorem cr_iff (h : GPI (PL Bk F G a b) (fun i => Pi (fr + i)) k) : crB st Pi fr k = true ↔ ∃ W, clo Bk F G a b W ∧ crx Bk (fun e => lb st e = true) W := by
  have hbk : ∀ i e, i < k → lb (Pi (fr + i)) e = true → Bk e := fun i e hi he => (h.2.1 i e hi he).2.1
  have hne : ∀ i, i < k → ∃ e, lb (Pi (fr + i)) e = true := h.1
  have dj : ∀ i j e, i < k → j < k → i ≠ j → lb (Pi (fr + i)) e = true → ¬ lb (Pi (fr + j)) e = true := fun i j e hi hj hij he q => hij (h.2.2.2.2 i j e hi hj he q)
  -- a broken piece has arcs in and out
  have brk : ∀ i, i < k → (!wiB st (Pi (fr + i)) && !woB st (Pi (fr + i))) = true → (∃ e, lb (Pi (fr + i)) e = true ∧ lb st e = true) ∧ ∃ e, lb (Pi (fr + i)) e = true ∧ ¬ lb st e = true := fun i hi q => by
    have q := (Bool.and_eq_true _ _).mp q
    have q1 : ¬ wiB st (Pi (fr + i)) = true := by simpa using q.1
    have q2 : ¬ woB st (Pi (fr + i)) = true := by simpa using q.2
    rw [wi_iff] at q1
    rw [wo_iff] at q2
    refine ⟨Classical.byContradiction (fun z => q2 (fun e he hs => z ⟨e, he, hs⟩)), Classical.byContradiction (fun z => q1 (fun e he => Classical.byContradiction (fun hs => z ⟨e, he, hs⟩)))⟩
  have out : ∀ i, i < k → (!wiB st (Pi (fr + i)) && woB st (Pi (fr + i))) = true → ∃ e, lb (Pi (fr + i)) e = true ∧ ¬ lb st e = true := fun i hi q => by
    obtain ⟨e, he⟩ := hne i hi
    exact ⟨e, he, wo_iff.mp ((Bool.and_eq_true _ _).mp q).2 e he⟩
  have inn : ∀ i, i < k → wiB st (Pi (fr + i)) = true → ∃ e, lb (Pi (fr + i)) e = true ∧ lb st e = true := fun i hi q => by
    obtain ⟨e, he⟩ := hne i hi
    exact ⟨e, he, wi_iff.mp q e he⟩
  unfold crB
  rw [decide_eq_true_eq]
  constructor
  · intro h2
    by_cases c1 : 1 < xbI st Pi fr k
    · obtain ⟨i, j, hij, hi, hj, bi, bj⟩ := cn_2 c1
      obtain ⟨⟨e1, a1, a2⟩, ⟨e2, a3, a4⟩⟩ := brk i hi bi
      obtain ⟨⟨e3, b1, b2⟩, ⟨e4, b3, b4⟩⟩ := brk j hj bj
      exact ⟨_, pie_clo h hi, ⟨e1, hbk i e1 hi a1, a2, a1⟩, ⟨e3, hbk j e3 hj b1, b2, dj j i e3 hj hi (fun q => hij q.symm) b1⟩, ⟨e2, hbk i e2 hi a3, a4, a3⟩, ⟨e4, hbk j e4 hj b3, b4, dj j i e4 hj hi (fun q => hij q.symm) b3⟩⟩
    · by_cases c2 : 0 < xbI st Pi fr k
      · obtain ⟨i, hi, bi⟩ := cn_1 c2
        obtain ⟨j, hj, bj⟩ := cn_1 (p := fun i => wiB st (Pi (fr + i))) (n := k) (by unfold xwI at h2; omega)
        obtain ⟨l, hl, bl⟩ := cn_1 (p := fun i => !wiB st (Pi (fr + i)) && woB st (Pi (fr + i))) (n := k) (by unfold xoI at h2; omega)
        obtain ⟨⟨e1, a1, a2⟩, ⟨e2, a3, a4⟩⟩ := brk i hi bi
        obtain ⟨e3, b1, b2⟩ := inn j hj bj
        obtain ⟨e4, b3, b4⟩ := out l hl bl
        have ij : j ≠ i := fun q => a4 (wi_iff.mp bj e2 (by rw [q]; exact a3))
        have il : l ≠ i := fun q => wo_iff.mp ((Bool.and_eq_true _ _).mp bl).2 e1 (by rw [q]; exact a1) a2
        exact ⟨_, pie_clo h hi, ⟨e1, hbk i e1 hi a1, a2, a1⟩, ⟨e3, hbk j e3 hj b1, b2, dj j i e3 hj hi ij b1⟩, ⟨e2, hbk i e2 hi a3, a4, a3⟩, ⟨e4, hbk l e4 hl b3, b4, dj l i e4 hl hi il b3⟩⟩
      · obtain ⟨i, i', hii, hi, hi', bi, bi'⟩ := cn_2 (p := fun i => wiB st (Pi (fr + i))) (n := k) (by unfold xwI at h2; omega)
        obtain ⟨j, j', hjj, hj, hj', bj, bj'⟩ := cn_2 (p := fun i => !wiB st (Pi (fr + i)) && woB st (Pi (fr + i))) (n := k) (by unfold xoI at h2; omega)
        obtain ⟨e1, a1, a2⟩ := inn i hi bi
        obtain ⟨e2, a3, a4⟩ := inn i' hi' bi'
        obtain ⟨e3, b1, b2⟩ := out j hj bj
        obtain ⟨e4, b3, b4⟩ := out j' hj' bj'
        have hio : ∀ x y, wiB st (Pi (fr + x)) = true → (!wiB st (Pi (fr + y)) && woB st (Pi (fr + y))) = true → x ≠ y := fun x y hx hy q => by
          rw [q] at hx
          rw [hx] at hy; cases hy
        refine ⟨fun e => lb (Pi (fr + i)) e = true ∨ lb (Pi (fr + j)) e = true, fun e f hef he => he.imp (pie_clo h hi e f hef) (pie_clo h hj e f hef), ⟨e1, hbk i e1 hi a1, a2, Or.inl a1⟩, ⟨e2, hbk i' e2 hi' a3, a4, ?_⟩, ⟨e3, hbk j e3 hj b1, b2, Or.inr b1⟩, ⟨e4, hbk j' e4 hj' b3, b4, ?_⟩⟩
        · rintro (q | q)
          · exact dj i i' e2 hi hi' hii q a3
          · exact dj i' j e2 hi' hj (hio i' j bi' bj) a3 q
        · rintro (q | q)
          · exact dj i j' e4 hi hj' (hio i j' bi bj') q b3
          · exact dj j j' e4 hj hj' hjj q b3
  · rintro ⟨W, hW, ⟨e1, a1, a2, a3⟩, ⟨e2, b1, b2, b3⟩, ⟨e3, c1, c2, c3⟩, ⟨e4, d1, d2, d3⟩⟩
    obtain ⟨i1, p1, q1⟩ := h.2.2.1 e1 ⟨a1, a1, Or.inr rfl⟩
    obtain ⟨i2, p2, q2⟩ := h.2.2.1 e2 ⟨b1, b1, Or.inr rfl⟩
    obtain ⟨i3, p3, q3⟩ := h.2.2.1 e3 ⟨c1, c1, Or.inr rfl⟩
    obtain ⟨i4, p4, q4⟩ := h.2.2.1 e4 ⟨d1, d1, Or.inr rfl⟩
    have hcl : ∀ i e f, i < k → lb (Pi (fr + i)) e = true → lb (Pi (fr + i)) f = true → W e → W f := fun i e f hi he hf hw => ((h.2.2.2.1 i e f hi he).mp hf) W hw (fun x y hx hxy => hW x y hxy hx)
    have n12 : i1 ≠ i2 := fun z => by subst z; exact b3 (hcl i1 e1 e2 p1 q1 q2 a3)
    have n14 : i1 ≠ i4 := fun z => by subst z; exact d3 (hcl i1 e1 e4 p1 q1 q4 a3)
    have n32 : i3 ≠ i2 := fun z => by subst z; exact b3 (hcl i3 e3 e2 p3 q3 q2 c3)
    have n34 : i3 ≠ i4 := fun z => by subst z; exact d3 (hcl i3 e3 e4 p3 q3 q4 c3)
    have hin : ∀ i e, lb (Pi (fr + i)) e = true → lb st e = true → wiB st (Pi (fr + i)) = true ∨ (!wiB st (Pi (fr + i)) && !woB st (Pi (fr + i))) = true := fun i e he hs => by
      cases c : wiB st (Pi (fr + i))
      · right
        have : ¬ woB st (Pi (fr + i)) = true := fun z => wo_iff.mp z e he hs
        simpa using this
      · left; rfl
    have hou : ∀ i e, lb (Pi (fr + i)) e = true → ¬ lb st e = true → (!wiB st (Pi (fr + i)) && woB st (Pi (fr + i))) = true ∨ (!wiB st (Pi (fr + i)) && !woB st (Pi (fr + i))) = true := fun i e he hs => by
      have : ¬ wiB st (Pi (fr + i)) = true := fun z => hs (wi_iff.mp z e he)
      have := Bool.eq_false_iff.mpr this
      rw [this]
      cases c : woB st (Pi (fr + i))
      · right; rfl
      · left; rfl
    have bb : ∀ i j, i ≠ j → i < k → j < k → (!wiB st (Pi (fr + i)) && !woB st (Pi (fr + i))) = true → (!wiB st (Pi (fr + j)) && !woB st (Pi (fr + j))) = true → 2 ≤ xbI st Pi fr k + min (xwI st Pi fr k) (xoI st Pi fr k) := fun i j hij hi hj bi bj => by
      have := cn_g2 (p := fun i => !wiB st (Pi (fr + i)) && !woB st (Pi (fr + i))) (n := k) hij hi hj bi bj
      unfold xbI; omega
    have bio : ∀ i j l, i < k → j < k → l < k → (!wiB st (Pi (fr + i)) && !woB st (Pi (fr + i))) = true → wiB st (Pi (fr + j)) = true → (!wiB st (Pi (fr + l)) && woB st (Pi (fr + l))) = true → 2 ≤ xbI st Pi fr k + min (xwI st Pi fr k) (xoI st Pi fr k) := fun i j l hi hj hl bi bj bl => by
      have h1 := cn_pos (p := fun i => !wiB st (Pi (fr + i)) && !woB st (Pi (fr + i))) (n := k) i hi bi
      have h2 := cn_pos (p := fun i => wiB st (Pi (fr + i))) (n := k) j hj bj
      have h3 := cn_pos (p := fun i => !wiB st (Pi (fr + i)) && woB st (Pi (fr + i))) (n := k) l hl bl
      unfold xbI xwI xoI; omega
    rcases hin i1 e1 q1 a2 with r1 | r1 <;> rcases hin i2 e2 q2 b2 with r2 | r2 <;> rcases hou i3 e3 q3 c2 with r3 | r3 <;> rcases hou i4 e4 q4 d2 with r4 | r4
    · have h2 := cn_g2 (p := fun i => wiB st (Pi (fr + i))) (n := k) n12 p1 p2 r1 r2
      have h3 := cn_g2 (p := fun i => !wiB st (Pi (fr + i)) && woB st (Pi (fr + i))) (n := k) n34 p3 p4 r3 r4
      unfold xwI xoI; omega
    · exact bio i4 i1 i3 p4 p1 p3 r4 r1 r3
    · exact bio i3 i1 i4 p3 p1 p4 r3 r1 r4
    · exact bb i3 i4 n34 p3 p4 r3 r4
    · exact bio i2 i1 i3 p2 p1 p3 r2 r1 r3
    · exact bio i2 i1 i3 p2 p1 p3 r2 r1 r3
    · exact bb i3 i2 n32 p3 p2 r3 r2
    · exact bb i3 i4 n34 p3 p4 r3 r4
    · exact bio i1 i2 i3 p1 p2 p3 r1 r2 r3
    · exact bb i1 i4 n14 p1 p4 r1 r4
    · exact bio i1 i2 i4 p1 p2 p4 r1 r2 r4
    · exact bb i1 i4 n14 p1 p4 r1 r4
    · exact bb i1 i2 n12 p1 p2 r1 r2
    · exact bb i1 i2 n12 p1 p2 r1 r2
    · exact bb i1 i2 n12 p1 p2 r1 r2
    · exact bb i1 i2 n12 p1 p2 r1 r2
end CR
