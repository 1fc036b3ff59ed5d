/-! ===== 09.blocks: the graph without some nodes; which arcs the class joins ===== -/
def gX (T : Nat → Bool) (F G : Nat → Nat) (X : Nat → Prop) (a b : Nat) : Prop := ad T F G a b ∧ ¬ X a ∧ ¬ X b
theorem gX.symm {T : Nat → Bool} {F G : Nat → Nat} {X : Nat → Prop} (a b : Nat) (h : gX T F G X a b) : gX T F G X b a := ⟨h.1.symm, h.2.2, h.2.1⟩
/-- n nodes; the arcs that are there lie between two of them -/
def GOK (T : Nat → Bool) (F G : Nat → Nat) (n : Nat) : Prop := n ≤ 14 ∧ ∀ e, e < 41 → T e = true → F e < n ∧ G e < n ∧ F e ≠ G e
theorem GOK.ends {T : Nat → Bool} {F G : Nat → Nat} {n e a b : Nat} (h : GOK T F G n) (he : e < 41) (ht : T e = true) (hx : ends F G e a b) : a < n ∧ b < n ∧ a ≠ b := by
  obtain ⟨h1, h2, h3⟩ := h.2 e he ht
  rcases hx with ⟨p, q⟩ | ⟨p, q⟩
  · subst p; subst q; exact ⟨h1, h2, h3⟩
  · subst p; subst q; exact ⟨h2, h1, fun z => h3 z.symm⟩
theorem GOK.ad {T : Nat → Bool} {F G : Nat → Nat} {n a b : Nat} (h : GOK T F G n) (hx : ad T F G a b) : a < n ∧ b < n ∧ a ≠ b := by
  obtain ⟨e, h1, h2, h3⟩ := hx
  exact h.ends h1 h2 h3
/-- w is the nodes but those of X -/
def WX (n : Nat) (X : Nat → Prop) (w : Int32) : Prop := ∀ b, bt w b = true ↔ (b < n ∧ ¬ X b)
theorem rE_gX {T : Nat → Bool} {F G : Nat → Nat} {n : Nat} {N : Nat → Int32} {X : Nat → Prop} {w : Int32} (hG : GOK T F G n) (hN : NR T F G N) (hw : WX n X w) {x y : Nat} (hx : ¬ X x) : Rc (rE N w) x y ↔ Rc (gX T F G X) x y := by
  constructor
  · intro h
    exact (h (fun y => ¬ X y ∧ Rc (gX T F G X) x y) ⟨hx, Rc.rf _ _⟩ (fun a b ha he => by
      have hb := (hw b).mp he.2.2
      exact ⟨hb.2, ha.2.step ⟨(hN a b he.1).mp he.2.1, ha.1, hb.2⟩⟩)).2
  · intro h
    exact h (fun y => Rc (rE N w) x y) (Rc.rf _ _) (fun a b ha he => by
      have hab := hG.ad he.1
      have h14 := hG.1
      exact ha.step ⟨by omega, (hN a b (by omega)).mpr he.1, (hw b).mpr ⟨hab.2.1, he.2.2⟩⟩)
theorem rE_lt {n : Nat} {N : Nat → Int32} {X : Nat → Prop} {w : Int32} (hn : n ≤ 14) (hw : WX n X w) : ∀ a b, rE N w a b → b < 14 := fun a b h => by
  have := ((hw b).mp h.2.2).1; omega
theorem WX_one {n u : Nat} {al : Int32} (hn : n ≤ 14) (ha : WX n (fun _ => False) al) (hu : u < 14) : WX n (fun x => x = u) (al &&& (sb u ^^^ (-1))) := by
  intro b
  rw [b_and', ha b]
  constructor
  · rintro ⟨⟨h1, -⟩, h2⟩
    refine ⟨h1, fun e => ?_⟩
    rw [b_not' (by omega), Bool.eq_false_iff, ne_eq, b_sb' (by omega)] at h2
    exact h2 e
  · rintro ⟨h1, h2⟩
    refine ⟨⟨h1, fun h => h⟩, ?_⟩
    rw [b_not' (by omega), Bool.eq_false_iff, ne_eq, b_sb' (by omega)]
    exact h2
/-- two arcs of one node whose other ends hold together without it -/
def BL (T : Nat → Bool) (F G : Nat → Nat) (e f : Nat) : Prop := e < 41 ∧ f < 41 ∧ T e = true ∧ T f = true ∧ ∃ u x y, ends F G e u x ∧ ends F G f u y ∧ Rc (gX T F G (fun z => z = u)) x y
theorem GL_BL (T : Nat → Bool) (F G : Nat → Nat) : GL (BL T F G) := by
  refine ⟨?_, ?_⟩
  · rintro e f ⟨h1, h2, h3, h4, u, x, y, h5, h6, h7⟩
    exact ⟨h2, h1, h4, h3, u, y, x, h6, h5, h7.symm gX.symm⟩
  · rintro e f ⟨h1, h2, h3, h4, u, x, y, h5, h6, h7⟩
    exact ⟨h1, h1, h3, h3, u, x, x, h5, h5, Rc.rf _ _⟩
def cov1 (T : Nat → Bool) (F G : Nat → Nat) (L : Nat → Nat → Prop) (u x : Nat) : Prop := ∀ e f y, e < 41 → f < 41 → T e = true → T f = true → ends F G e u x → ends F G f u y → Rc (gX T F G (fun z => z = u)) x y → L e f
def fbO (T : Nat → Bool) (F G : Nat → Nat) (L : Nat → Nat → Prop) (u : Nat) : Prop := GL L ∧ (∀ e f, L e f → BL T F G e f) ∧ ∀ v x, v < u → cov1 T F G L v x
def fbJ (T : Nat → Bool) (F G : Nat → Nat) (N : Nat → Int32) (L : Nat → Nat → Prop) (u : Nat) (lf : Int32) (j : Nat) : Prop :=
  fbO T F G L u ∧ (∀ x, bt lf x = true → bt (N u) x = true ∧ j ≤ x) ∧ ∀ x, bt (N u) x = true → bt lf x = true ∨ cov1 T F G L u x
theorem fbO_0 (T : Nat → Bool) (F G : Nat → Nat) : fbO T F G (fun _ _ => False) 0 := ⟨⟨fun _ _ h => h, fun _ _ h => h⟩, fun _ _ h => h.elim, fun _ _ h => absurd h (Nat.not_lt_zero _)⟩
theorem fbJ_0 {T : Nat → Bool} {F G : Nat → Nat} {N : Nat → Int32} {L : Nat → Nat → Prop} {u : Nat} (h : fbO T F G L u) : fbJ T F G N L u (N u) 0 := ⟨h, fun _ h => ⟨h, Nat.zero_le _⟩, fun _ h => Or.inl h⟩
theorem fbJ_f {T : Nat → Bool} {F G : Nat → Nat} {N : Nat → Int32} {L : Nat → Nat → Prop} {u : Nat} {lf : Int32} {j : Nat} (h : fbJ T F G N L u lf j) (c : bt lf j = false) : fbJ T F G N L u lf (j + 1) := by
  refine ⟨h.1, fun x hx => ⟨(h.2.1 x hx).1, ?_⟩, h.2.2⟩
  have := (h.2.1 x hx).2
  have hne : x ≠ j := fun e => by rw [e, c] at hx; cases hx
  omega
/-- what a piece joins -/
theorem fb_so {T : Nat → Bool} {F G : Nat → Nat} {n : Nat} {N : Nat → Int32} {A : Nat → Int64} {al pc : Int32} {w : Int64} {u j : Nat} (hG : GOK T F G n) (hN : NR T F G N) (hA : AR T F G A) (hal : WX n (fun _ => False) al) (hu : u < 14) (hj : bt (N u) j = true)
    (hp : SpR N j (al &&& (sb u ^^^ (-1))) pc) (hw : AtR A pc w 14) (e : Nat) : lb (A u &&& w) e = true ↔ ∃ x, e < 41 ∧ T e = true ∧ ends F G e u x ∧ Rc (gX T F G (fun z => z = u)) j x := by
  have hju : ¬ j = u := fun q => (hG.ad ((hN u j hu).mp hj)).2.2 q.symm
  have hbit : ∀ x, bt pc x = true ↔ Rc (gX T F G (fun z => z = u)) j x := fun x => (hp x).trans (rE_gX hG hN (WX_one hG.1 hal hu) hju)
  have hne : ∀ x, Rc (gX T F G (fun z => z = u)) j x → x ≠ u := fun x h => h (fun x => x ≠ u) hju (fun a b _ q => q.2.2)
  rw [l_and', hA u e hu, hw e]
  constructor
  · rintro ⟨⟨h1, h2, h3⟩, a, a1, a2, a3⟩
    have a4 := ((hA a e a1).mp a3).2.2
    have hr := (hbit a).mp a2
    have hau := hne a hr
    refine ⟨a, h1, h2, ?_, hr⟩
    rcases h3 with h3 | h3 <;> rcases a4 with a4 | a4
    · exact absurd (a4.symm.trans h3) hau
    · exact Or.inl ⟨h3, a4⟩
    · exact Or.inr ⟨h3, a4⟩
    · exact absurd (a4.symm.trans h3) hau
  · rintro ⟨x, h1, h2, h3, h4⟩
    have hx := hG.ends h1 h2 h3
    have h14 := hG.1
    refine ⟨⟨h1, h2, ?_⟩, x, by omega, (hbit x).mpr h4, (hA x e (by omega)).mpr ⟨h1, h2, ?_⟩⟩
    · rcases h3 with q | q
      · exact Or.inl q.1
      · exact Or.inr q.1
    · rcases h3 with q | q
      · exact Or.inr q.2
      · exact Or.inl q.2
theorem fbJ_t {T : Nat → Bool} {F G : Nat → Nat} {n : Nat} {N : Nat → Int32} {A : Nat → Int64} {al pc : Int32} {w : Int64} {L : Nat → Nat → Prop} {u : Nat} {lf : Int32} {j : Nat} (hG : GOK T F G n) (hN : NR T F G N) (hA : AR T F G A) (hal : WX n (fun _ => False) al) (hu : u < 14)
    (h : fbJ T F G N L u lf j) (c : bt lf j = true) (hp : SpR N j (al &&& (sb u ^^^ (-1))) pc) (hw : AtR A pc w 14) : fbJ T F G N (Ls L (A u &&& w)) u (lf &&& (pc ^^^ (-1))) (j + 1) := by
  obtain ⟨⟨g1, g2, g3⟩, h2, h3⟩ := h
  have hj := (h2 j c).1
  have hju : ¬ j = u := fun q => (hG.ad ((hN u j hu).mp hj)).2.2 q.symm
  have so := fb_so hG hN hA hal hu hj hp hw
  have hbit : ∀ x, bt pc x = true ↔ Rc (gX T F G (fun z => z = u)) j x := fun x => (hp x).trans (rE_gX hG hN (WX_one hG.1 hal hu) hju)
  refine ⟨⟨GL_s g1 _, fun e f hef => ?_, fun v x hv e f y a1 a2 a3 a4 a5 a6 a7 => Or.inl (g3 v x hv e f y a1 a2 a3 a4 a5 a6 a7)⟩, fun x hx => ?_, fun x hx => ?_⟩
  · rcases hef with q | ⟨q1, q2⟩
    · exact g2 e f q
    · obtain ⟨x, x1, x2, x3, x4⟩ := (so e).mp q1
      obtain ⟨y, y1, y2, y3, y4⟩ := (so f).mp q2
      exact ⟨x1, y1, x2, y2, u, x, y, x3, y3, (x4.symm gX.symm).trans y4⟩
  · rw [b_and'] at hx
    have h4 := h2 x hx.1
    refine ⟨h4.1, ?_⟩
    have hx14 := (hG.ad ((hN u x hu).mp h4.1)).2.1
    have h14 := hG.1
    have : x ≠ j := fun q => by
      subst q
      have := (b_not' (by omega)).mp hx.2
      rw [(hbit x).mpr (Rc.rf _ _)] at this; cases this
    omega
  · have hxn := hG.ad ((hN u x hu).mp hx)
    have h14 := hG.1
    rcases h3 x hx with q | q
    · by_cases hpx : bt pc x = true
      · right
        intro e f y a1 a2 a3 a4 a5 a6 a7
        have hr := (hbit x).mp hpx
        exact Or.inr ⟨(so e).mpr ⟨x, a1, a3, a5, hr⟩, (so f).mpr ⟨y, a2, a4, a6, hr.trans a7⟩⟩
      · left
        rw [b_and', b_not' (by omega)]
        exact ⟨q, Bool.eq_false_iff.mpr hpx⟩
    · right
      intro e f y a1 a2 a3 a4 a5 a6 a7
      exact Or.inl (q e f y a1 a2 a3 a4 a5 a6 a7)
theorem fbO_n {T : Nat → Bool} {F G : Nat → Nat} {n : Nat} {N : Nat → Int32} {L : Nat → Nat → Prop} {u : Nat} {lf : Int32} {j : Nat} (hG : GOK T F G n) (hN : NR T F G N) (hu : u < 14) (h : fbJ T F G N L u lf j) (hj : 14 ≤ j) : fbO T F G L (u + 1) := by
  obtain ⟨⟨g1, g2, g3⟩, h2, h3⟩ := h
  refine ⟨g1, g2, fun v x hv => ?_⟩
  by_cases q : v = u
  · subst q
    intro e f y a1 a2 a3 a4 a5 a6 a7
    have hx : bt (N v) x = true := (hN v x hu).mpr ⟨e, a1, a3, a5⟩
    have hxn := hG.ends a1 a3 a5
    have h14 := hG.1
    rcases h3 x hx with z | z
    · have := (h2 x z).2; omega
    · exact z e f y a1 a2 a3 a4 a5 a6 a7
  · exact g3 v x (by omega)
theorem fbO_end {T : Nat → Bool} {F G : Nat → Nat} {n : Nat} {L : Nat → Nat → Prop} {u : Nat} (hG : GOK T F G n) (h : fbO T F G L u) (hu : 14 ≤ u) : L = BL T F G := by
  funext e f
  apply propext
  constructor
  · exact h.2.1 e f
  · rintro ⟨h1, h2, h3, h4, v, x, y, h5, h6, h7⟩
    have := hG.ends h1 h3 h5
    have h14 := hG.1
    exact h.2.2 v x (by omega) e f y h1 h2 h3 h4 h5 h6 h7
