/-! ===== 50.model: the reference: looking, reaching ===== -/
/-- the arcs that the reference looks at -/
def lkT (ar mo : Nat) (P : Nat → Bool) (lo ot go : Int32) (F G : Nat → Nat) (e : Nat) : Bool :=
  decide (e < ar + mo) && ((decide (e = ar) || P e) && ((!bt go (F e) && !bt go (G e)) && (decide (¬ nI e = lo) && decide (¬ nI e = ot))))
theorem lk_t {ar mo : Nat} {P : Nat → Bool} {lo ot go : Int32} {F G : Nat → Nat} {e : Nat} (h1 : e < ar + mo) (h2 : e = ar ∨ P e = true) (h3 : bt go (F e) = false) (h4 : bt go (G e) = false) (h5 : ¬ nI e = lo) (h6 : ¬ nI e = ot) : lkT ar mo P lo ot go F G e = true := by
  unfold lkT
  rw [decide_eq_true h1, h3, h4, decide_eq_true h5, decide_eq_true h6]
  rcases h2 with q | q
  · rw [decide_eq_true q]; rfl
  · rw [q]; simp
theorem lk_f {ar mo : Nat} {P : Nat → Bool} {lo ot go : Int32} {F G : Nat → Nat} {e : Nat} (h : (¬ e = ar ∧ P e = false) ∨ bt go (F e) = true ∨ bt go (G e) = true ∨ nI e = lo ∨ nI e = ot) : lkT ar mo P lo ot go F G e = false := by
  unfold lkT
  rcases h with ⟨q1, q2⟩ | q | q | q | q
  · rw [decide_eq_false q1, q2]; simp
  · rw [q]; simp
  · rw [q]; simp
  · rw [decide_eq_false (p := ¬ nI e = lo) (fun z => z q)]; simp
  · rw [decide_eq_false (p := ¬ nI e = ot) (fun z => z q)]; simp
theorem lk_iff {ar mo : Nat} {P : Nat → Bool} {lo ot go : Int32} {F G : Nat → Nat} {e : Nat} : lkT ar mo P lo ot go F G e = true ↔ (e < ar + mo ∧ (e = ar ∨ P e = true) ∧ bt go (F e) = false ∧ bt go (G e) = false ∧ ¬ nI e = lo ∧ ¬ nI e = ot) := by
  constructor
  · intro h
    unfold lkT at h
    simp only [Bool.and_eq_true, Bool.or_eq_true, decide_eq_true_eq, Bool.not_eq_true'] at h
    exact ⟨h.1, h.2.1, h.2.2.1.1, h.2.2.1.2, h.2.2.2.1, h.2.2.2.2⟩
  · rintro ⟨h1, h2, h3, h4, h5, h6⟩
    exact lk_t h1 h2 h3 h4 h5 h6
theorem NR_lk {ar mo : Nat} {P : Nat → Bool} {lo ot go : Int32} {F G : Nat → Nat} {r : Nat → Int32} (hm : ar + mo ≤ 41) (h : NRi (lkT ar mo P lo ot go F G) F G r (ar + mo)) : NR (lkT ar mo P lo ot go F G) F G r := by
  intro a b ha
  rw [h a b ha]
  constructor
  · rintro ⟨e, h1, h2⟩; exact ⟨e, by omega, h2⟩
  · rintro ⟨e, h1, h2, h3⟩; exact ⟨e, (lk_iff.mp h2).1, h2, h3⟩
/-- x is what can be reached from st -/
def RcT (T : Nat → Bool) (F G : Nat → Nat) (st x : Int32) : Prop := ∀ y, bt x y = true ↔ ∃ f, bt st f = true ∧ Rc (ad T F G) f y
theorem RcT.one {T : Nat → Bool} {F G : Nat → Nat} {f : Nat} {x : Int32} (hf : f < 32) (h : RcT T F G (sb f) x) (y : Nat) : bt x y = true ↔ Rc (ad T F G) f y := by
  rw [h y]
  constructor
  · rintro ⟨g, h1, h2⟩; rw [(b_sb' hf).mp h1] at h2; exact h2
  · intro q; exact ⟨f, (b_sb' hf).mpr rfl, q⟩
def tEn (T : Nat → Bool) (F G : Nat → Nat) (nd : Nat) : Prop := ∀ e, e < 41 → T e = true → F e < nd ∧ G e < nd
theorem tEn.ad {T : Nat → Bool} {F G : Nat → Nat} {nd a b : Nat} (h : tEn T F G nd) (q : ad T F G a b) : a < nd ∧ b < nd := by
  obtain ⟨e, h1, h2, h3⟩ := q
  have := h e h1 h2
  rcases h3 with ⟨p, q⟩ | ⟨p, q⟩
  · subst p; subst q; exact this
  · subst p; subst q; exact ⟨this.2, this.1⟩
def rcO (T : Nat → Bool) (F G : Nat → Nat) (st sn : Int32) (gb : Bool) : Prop :=
  (∀ y, bt st y = true → bt sn y = true) ∧ (∀ y, bt sn y = true → ∃ f, bt st f = true ∧ Rc (ad T F G) f y) ∧ (gb = false → ∀ a b, bt sn a = true → ad T F G a b → bt sn b = true)
def rcJ (N : Nat → Int32) (sn nx : Int32) (i : Nat) : Prop := ∀ y, bt nx y = true ↔ (bt sn y = true ∨ ∃ a, a < i ∧ bt sn a = true ∧ bt (N a) y = true)
theorem rcO_0 {T : Nat → Bool} {F G : Nat → Nat} {st : Int32} : rcO T F G st st true := ⟨fun _ h => h, fun y h => ⟨y, h, Rc.rf _ _⟩, fun h => by cases h⟩
theorem rcJ_0 (N : Nat → Int32) (sn : Int32) : rcJ N sn sn 0 := fun y => ⟨Or.inl, fun h => h.elim id (fun ⟨a, h, _⟩ => absurd h (Nat.not_lt_zero _))⟩
theorem rcJ_t {N : Nat → Int32} {sn nx : Int32} {i : Nat} (h : rcJ N sn nx i) (c : bt sn i = true) : rcJ N sn (nx ||| N i) (i + 1) := by
  intro y
  rw [b_or', h y]
  constructor
  · rintro ((q | ⟨a, a1, a2⟩) | q)
    · exact Or.inl q
    · exact Or.inr ⟨a, by omega, a2⟩
    · exact Or.inr ⟨i, by omega, c, q⟩
  · rintro (q | ⟨a, a1, a2, a3⟩)
    · exact Or.inl (Or.inl q)
    · by_cases e : a = i
      · subst e; exact Or.inr a3
      · exact Or.inl (Or.inr ⟨a, by omega, a2, a3⟩)
theorem rcJ_f {N : Nat → Int32} {sn nx : Int32} {i : Nat} (h : rcJ N sn nx i) (c : bt sn i = false) : rcJ N sn nx (i + 1) := by
  intro y
  rw [h y]
  constructor
  · rintro (q | ⟨a, a1, a2⟩)
    · exact Or.inl q
    · exact Or.inr ⟨a, by omega, a2⟩
  · rintro (q | ⟨a, a1, a2, a3⟩)
    · exact Or.inl q
    · by_cases e : a = i
      · subst e; rw [c] at a2; cases a2
      · exact Or.inr ⟨a, by omega, a2, a3⟩
theorem rcO_n {T : Nat → Bool} {F G : Nat → Nat} {nd : Nat} {N : Nat → Int32} {st sn nx : Int32} {gb g2 : Bool} {i : Nat} (hnd : nd ≤ 14) (hN : NR T F G N) (hT : tEn T F G nd) (h : rcO T F G st sn gb) (j : rcJ N sn nx i) (hi : i = nd) (hg : g2 = false → nx = sn) : rcO T F G st nx g2 := by
  obtain ⟨h1, h2, h3⟩ := h
  refine ⟨fun y hy => (j y).mpr (Or.inl (h1 y hy)), fun y hy => ?_, fun q a b ha hab => ?_⟩
  · rcases (j y).mp hy with q | ⟨a, a1, a2, a3⟩
    · exact h2 y q
    · obtain ⟨f, f1, f2⟩ := h2 a a2
      exact ⟨f, f1, f2.step ((hN a y (by omega)).mp a3)⟩
  · have e := hg q
    subst e
    have hn := hT.ad hab
    exact (j b).mpr (Or.inr ⟨a, by omega, ha, (hN a b (by omega)).mpr hab⟩)
theorem rcO_e {T : Nat → Bool} {F G : Nat → Nat} {st sn : Int32} {gb : Bool} (h : rcO T F G st sn gb) (c : gb = false) : RcT T F G st sn := by
  obtain ⟨h1, h2, h3⟩ := h
  exact fun y => ⟨h2 y, fun ⟨f, f1, f2⟩ => f2 (fun y => bt sn y = true) (h1 f f1) (fun a b ha hab => h3 c a b ha hab)⟩
theorem rc_d1 {sn nx : Int32} {gb : Bool} {n : Nat} (h : 2 * (32 - cn (bt sn) 32) + gb.toNat < n + 1) (hg : gb = true) (e : nx = sn) : 2 * (32 - cn (bt nx) 32) + false.toNat < n := by
  subst e; rw [hg] at h; simp at h ⊢; omega
theorem rc_d2 {N : Nat → Int32} {sn nx : Int32} {gb : Bool} {n i : Nat} (h : 2 * (32 - cn (bt sn) 32) + gb.toNat < n + 1) (hg : gb = true) (j : rcJ N sn nx i) (e : ¬ nx = sn) : 2 * (32 - cn (bt nx) 32) + true.toNat < n := by
  have hex : ∃ k, k < 32 ∧ bt nx k = true ∧ bt sn k = false := by
    apply Classical.byContradiction
    intro hn
    apply e
    apply b_ext
    intro k hk
    cases h6 : bt sn k
    · cases h7 : bt nx k
      · rfl
      · exact absurd ⟨k, hk, h7, h6⟩ hn
    · exact (j k).mpr (Or.inl h6)
  obtain ⟨k, k0, k1, k2⟩ := hex
  have a := cn_lt (p := bt sn) (q := bt nx) (n := 32) (fun i _ hi => (j i).mpr (Or.inl hi)) k k0 k2 k1
  have b := cn_le (bt nx) 32
  rw [hg] at h
  simp at h ⊢
  omega
/-- counting the pieces of a set, by the reference -/
def ldM (T : Nat → Bool) (F G : Nat → Nat) (st : Int32) (a : Nat) : Prop := bt st a = true ∧ ∀ b, b < a → bt st b = true → ¬ Rc (ad T F G) b a
noncomputable def ldB (T : Nat → Bool) (F G : Nat → Nat) (st : Int32) (a : Nat) : Bool := dc (ldM T F G st a)
def prI (T : Nat → Bool) (F G : Nat → Nat) (st rs : Int32) (m : Nat) : Prop := ∀ x, bt rs x = true ↔ (bt st x = true ∧ ∀ b, b < m → bt st b = true → ¬ Rc (ad T F G) b x)
theorem prI_0 {T : Nat → Bool} {F G : Nat → Nat} {st : Int32} : prI T F G st st 0 := fun x => ⟨fun h => ⟨h, fun _ h => absurd h (Nat.not_lt_zero _)⟩, fun h => h.1⟩
theorem cn_skip {p : Nat → Bool} {m : Nat} : ∀ {l : Nat}, m ≤ l → (∀ b, m ≤ b → b < l → p b = false) → cn p l = cn p m
  | 0, h, _ => by rw [Nat.le_zero.mp h]
  | l + 1, h, hb => by
    by_cases e : m = l + 1
    · subst e; rfl
    · simp only [cn]
      rw [cn_skip (l := l) (by omega) (fun b h1 h2 => hb b h1 (by omega)), hb l (by omega) (by omega)]; rfl
theorem pr_l {T : Nat → Bool} {F G : Nat → Nat} {st rs : Int32} {m : Nat} (h : prI T F G st rs m) (h14 : ∀ y, bt st y = true → y < 14) (c : ¬ rs = 0) : lsn (bt rs) 16 < 16 ∧ m ≤ lsn (bt rs) 16 ∧ bt rs (lsn (bt rs) 16) = true := by
  obtain ⟨a1, a2, a3⟩ := lsn_spec (bt rs) 16
  have hlt : lsn (bt rs) 16 < 16 := by
    apply Classical.byContradiction
    intro hn
    apply c
    apply b_ext
    intro i hi
    rw [b_0, Bool.eq_false_iff]
    intro q
    have := h14 i ((h i).mp q).1
    rw [a2 i (by omega)] at q; cases q
  have hb := a3 hlt
  refine ⟨hlt, ?_, hb⟩
  apply Classical.byContradiction
  intro hn
  have q := (h _).mp hb
  exact q.2 _ (by omega) q.1 (Rc.rf _ _)
theorem pr_nl {T : Nat → Bool} {F G : Nat → Nat} {st rs : Int32} {m b : Nat} (h : prI T F G st rs m) (hm : m ≤ b) (hb : bt rs b = false) : ldB T F G st b = false := by
  refine dc_f.mpr (fun q => ?_)
  have := (h b).mpr ⟨q.1, fun b' h1 h2 => q.2 b' (by omega) h2⟩
  rw [hb] at this; cases this
theorem pr_n {T : Nat → Bool} {F G : Nat → Nat} {st rs x : Int32} {m q : Nat} (h : prI T F G st rs m) (h14 : ∀ y, bt st y = true → y < 14) (c : ¬ rs = 0) (hr : RcT T F G (sb (lsn (bt rs) 16)) x) (hq : q = cn (ldB T F G st) m) :
    prI T F G st (rs &&& (x ^^^ (-1))) (lsn (bt rs) 16 + 1) ∧ q + 1 = cn (ldB T F G st) (lsn (bt rs) 16 + 1) := by
  obtain ⟨l1, l2, l3⟩ := pr_l h h14 c
  have l4 := (lsn_spec (bt rs) 16).2.1
  refine ⟨fun y => ?_, ?_⟩
  · rw [b_and', h y]
    constructor
    · rintro ⟨⟨h1, h2⟩, h3⟩
      have hy := h14 y h1
      rw [b_not' (by omega), Bool.eq_false_iff, ne_eq, hr.one (by omega) y] at h3
      refine ⟨h1, fun b hb hs hrc => ?_⟩
      by_cases e1 : b < m
      · exact h2 b e1 hs hrc
      · by_cases e2 : b = lsn (bt rs) 16
        · exact h3 (by rw [← e2]; exact hrc)
        · have hbr := l4 b (by omega)
          have : ∃ b', b' < m ∧ bt st b' = true ∧ Rc (ad T F G) b' b := by
            apply Classical.byContradiction
            intro hn
            have z := (h b).mpr ⟨hs, fun b' z1 z2 z3 => hn ⟨b', z1, z2, z3⟩⟩
            rw [hbr] at z; cases z
          obtain ⟨b', z1, z2, z3⟩ := this
          exact h2 b' z1 z2 (z3.trans hrc)
    · rintro ⟨h1, h2⟩
      have hy := h14 y h1
      refine ⟨⟨h1, fun b hb => h2 b (by omega)⟩, ?_⟩
      rw [b_not' (by omega), Bool.eq_false_iff, ne_eq, hr.one (by omega) y]
      exact h2 _ (by omega) ((h _).mp l3).1
  · have hl : ldB T F G st (lsn (bt rs) 16) = true := by
      refine dc_t.mpr ⟨((h _).mp l3).1, fun b hb hs hrc => ?_⟩
      by_cases e1 : b < m
      · exact ((h _).mp l3).2 b e1 hs hrc
      · have hbr := l4 b hb
        have z : ¬ (bt st b = true ∧ ∀ b', b' < m → bt st b' = true → ¬ Rc (ad T F G) b' b) := fun z => by
          have := (h b).mpr z; rw [hbr] at this; cases this
        apply z
        exact ⟨hs, fun b' z1 z2 z3 => ((h _).mp l3).2 b' z1 z2 (z3.trans hrc)⟩
    rw [hq]
    simp only [cn, hl, Bool.toNat_true]
    rw [cn_skip l2 (fun b h1 h2 => pr_nl h h1 (l4 b h2))]
theorem pr_e {T : Nat → Bool} {F G : Nat → Nat} {st rs : Int32} {m q : Nat} (h : prI T F G st rs m) (hm : m ≤ 16) (c : rs = 0) (hq : q = cn (ldB T F G st) m) : q = cn (ldB T F G st) 16 := by
  rw [hq, cn_skip hm (fun b h1 _ => pr_nl h h1 (by rw [c, b_0]))]
