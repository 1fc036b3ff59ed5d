/-! ===== 71.bridges: bridges, twins, blocks: what the class shows is what the reference asks ===== -/
theorem cn_map {p : Nat → Bool} (g : Nat → Nat) (z : Nat) : ∀ (N : Nat) (q : Nat → Bool), (∀ i, i < N → p i = true → g i < z ∧ q (g i) = true) → (∀ i j, i < N → j < N → p i = true → p j = true → g i = g j → i = j) → cn p N ≤ cn q z
  | 0, _, _, _ => Nat.zero_le _
  | N + 1, q, h1, h2 => by
    cases hp : p N
    · have := cn_map g z N q (fun i hi => h1 i (by omega)) (fun i j hi hj => h2 i j (by omega) (by omega))
      simp only [cn, hp, Bool.toNat_false]; omega
    · have hN := h1 N (by omega) hp
      have hd := cn_del (p := q) (n := z) (g N) hN.1 hN.2
      have := cn_map g z N (fun i => q i && decide (i ≠ g N)) (fun i hi hpi => by
        have := h1 i (by omega) hpi
        refine ⟨this.1, ?_⟩
        simp only [this.2, Bool.true_and, decide_eq_true_eq]
        intro e
        have := h2 i N (by omega) (by omega) hpi hp e
        omega) (fun i j hi hj => h2 i j (by omega) (by omega))
      simp only [cn, hp, Bool.toNat_true]; omega
/-- e is a bridge -/
def brG (T : Nat → Bool) (F G : Nat → Nat) (e : Nat) : Prop := e < 41 ∧ T e = true ∧ ¬ Rc (gL T F G e) (F e) (G e)
theorem ends_self (F G : Nat → Nat) (e : Nat) : ends F G e (F e) (G e) := Or.inl ⟨rfl, rfl⟩
theorem gL_ends {T : Nat → Bool} {F G : Nat → Nat} {e x u v : Nat} (h : ends F G e u v) (k : Rc (gL T F G x) u v) : Rc (gL T F G x) (F e) (G e) := by
  rcases h with ⟨p, q⟩ | ⟨p, q⟩
  · rw [p, q]; exact k
  · rw [p, q]; exact k.symm gL.symm
theorem gL_back {T : Nat → Bool} {F G : Nat → Nat} {e x u v : Nat} (h : ends F G e u v) (k : Rc (gL T F G x) (F e) (G e)) : Rc (gL T F G x) u v := by
  rcases h with ⟨p, q⟩ | ⟨p, q⟩
  · rw [← p, ← q]; exact k
  · rw [← p, ← q]; exact k.symm gL.symm
theorem br_BL {T : Nat → Bool} {F G : Nat → Nat} {n e : Nat} (hG : GOK T F G n) (he : e < 41) (hT : T e = true) : (∀ f, BL T F G e f → f = e) ↔ ¬ Rc (gL T F G e) (F e) (G e) := by
  constructor
  · intro h k
    have key := k (fun v => v ≠ G e ∧ Rc (gX T F G (fun z => z = G e)) (F e) v) ⟨(hG.2 e he hT).2.2, Rc.rf _ _⟩ (fun v w hv hs => by
      obtain ⟨f, f1, f2, f3, f4⟩ := hs
      by_cases q : w = G e
      · exfalso
        apply f3
        refine h f ⟨he, f1, hT, f2, G e, F e, v, Or.inr ⟨rfl, rfl⟩, ?_, hv.2⟩
        rw [q] at f4; exact f4.symm
      · exact ⟨q, hv.2.step ⟨⟨f, f1, f2, f4⟩, hv.1, q⟩⟩)
    exact key.1 rfl
  · intro h f hB
    apply Classical.byContradiction
    intro hne
    apply h
    obtain ⟨_, hf, _, hTf, u, x, y, h1, h2, h3⟩ := hB
    have hxy : Rc (gL T F G e) x y := h3.mono (fun a b hab => by
      obtain ⟨⟨g, g1, g2, g3⟩, a1, b1⟩ := hab
      refine ⟨g, g1, g2, fun q => ?_, g3⟩
      subst q
      rcases h1 with ⟨p, q⟩ | ⟨p, q⟩ <;> rcases g3 with ⟨r, s⟩ | ⟨r, s⟩
      · exact a1 (r.symm.trans p)
      · exact b1 (s.symm.trans p)
      · exact b1 (s.symm.trans p)
      · exact a1 (r.symm.trans p))
    exact gL_ends (h1.symm) (hxy.step ⟨f, hf, hTf, hne, h2.symm⟩)
theorem cn_one {p : Nat → Bool} {n e : Nat} (he : e < n) (pe : p e = true) : cn p n = 1 ↔ ∀ f, f < n → p f = true → f = e := by
  constructor
  · intro h f hf pf
    exact one_of (by omega) hf he pf pe
  · intro h
    have h1 := cn_del e he pe
    rw [cn_none (p := fun i => p i && decide (i ≠ e)) (fun i hi => by
      cases hp : p i
      · rfl
      · rw [h i hi hp]; simp)] at h1
    omega
theorem br_iff {T : Nat → Bool} {F G : Nat → Nat} {n : Nat} {N Fm : Nat → Int32} {A S : Nat → Int64} {z : Nat} {al : Int32} {br : Int64} (h : SKI T F G n N Fm A S z al br) (e : Nat) : lb br e = true ↔ brG T F G e := by
  obtain ⟨hG, -, -, -, hP, hL, -⟩ := h
  rw [hL e]
  constructor
  · rintro ⟨i, i1, i2, i3⟩
    have h1 := hP.2.1 i e i1 i3
    have hT := h1.2.2.2.1
    refine ⟨h1.1, hT, (br_BL hG h1.1 hT).mp (fun f hf => ?_)⟩
    have := (hP.2.2.2.1 i e f i1 i3).mpr (Rc.one hf)
    exact (cn_one (n := 64) (by omega) i3).mp i2 f (by have := hf.2.1; omega) this
  · rintro ⟨h1, hT, h3⟩
    have hB := (br_BL hG h1 hT).mpr h3
    obtain ⟨i, i1, i2⟩ := hP.2.2.1 e ⟨h1, h1, hT, hT, F e, G e, G e, ends_self F G e, ends_self F G e, Rc.rf _ _⟩
    refine ⟨i, i1, (cn_one (n := 64) (by omega) i2).mpr (fun f _ hf => ?_), i2⟩
    have := (hP.2.2.2.1 i e f i1 i2).mp hf
    exact this (fun f => f = e) rfl (fun a b ha hab => by rw [ha] at hab; exact hB b hab)
/-- twins: no loss of one arc parts them -/
def twA (T : Nat → Bool) (F G : Nat → Nat) (x y : Nat) : Prop := Rc (ad T F G) x y ∧ ∀ e, e < 41 → T e = true → Rc (gL T F G e) x y
theorem twA_symm {T : Nat → Bool} {F G : Nat → Nat} {x y : Nat} (h : twA T F G x y) : twA T F G y x := ⟨h.1.symm ad_symm, fun e h1 h2 => (h.2 e h1 h2).symm gL.symm⟩
theorem twA_trans {T : Nat → Bool} {F G : Nat → Nat} {x y z : Nat} (h : twA T F G x y) (k : twA T F G y z) : twA T F G x z := ⟨h.1.trans k.1, fun e h1 h2 => (h.2 e h1 h2).trans (k.2 e h1 h2)⟩
theorem twA_rf (T : Nat → Bool) (F G : Nat → Nat) (x : Nat) : twA T F G x x := ⟨Rc.rf _ _, fun _ _ _ => Rc.rf _ _⟩
theorem tw_nb {T : Nat → Bool} {F G : Nat → Nat} {B : Nat → Bool} (hB : ∀ e, B e = true ↔ brG T F G e) {x y : Nat} : Rc (ad (fun e => T e && !B e) F G) x y ↔ twA T F G x y := by
  constructor
  · intro h
    refine ⟨h.mono (fun a b hab => ?_), fun e he hT => ?_⟩
    · obtain ⟨f, f1, f2, f3⟩ := hab
      exact ⟨f, f1, ((Bool.and_eq_true _ _).mp f2).1, f3⟩
    · refine h (fun v => Rc (gL T F G e) x v) (Rc.rf _ _) (fun a b ha hab => ?_)
      obtain ⟨f, f1, f2, f3⟩ := hab
      have f2 := (Bool.and_eq_true _ _).mp f2
      by_cases q : f = e
      · subst q
        have hn : ¬ brG T F G f := fun z => by have := (hB f).mpr z; rw [this] at f2; cases f2.2
        have : Rc (gL T F G f) (F f) (G f) := Classical.byContradiction (fun z => hn ⟨f1, f2.1, z⟩)
        exact ha.trans (gL_back f3 this)
      · exact ha.step ⟨f, f1, f2.1, q, f3⟩
  · rintro ⟨h1, h2⟩
    have key : Rc (ad (fun e => T e && !B e) F G) x y ∨ ∃ e u v, brG T F G e ∧ ends F G e u v ∧ Rc (ad (fun e => T e && !B e) F G) x u ∧ Rc (gL T F G e) v y := by
      refine h1 (fun w => Rc (ad (fun e => T e && !B e) F G) x w ∨ ∃ e u v, brG T F G e ∧ ends F G e u v ∧ Rc (ad (fun e => T e && !B e) F G) x u ∧ Rc (gL T F G e) v w) (Or.inl (Rc.rf _ _)) (fun w w' hw hs => ?_)
      obtain ⟨f, f1, f2, f3⟩ := hs
      rcases hw with hw | ⟨e, u, v, e1, e2, e3, e4⟩
      · by_cases q : brG T F G f
        · exact Or.inr ⟨f, w, w', q, f3, hw, Rc.rf _ _⟩
        · left
          refine hw.step ⟨f, f1, ?_, f3⟩
          show (T f && !B f) = true
          rw [f2, Bool.true_and, Bool.not_eq_true', Bool.eq_false_iff]
          exact fun z => q ((hB f).mp z)
      · by_cases q : f = e
        · subst q
          have : (w = u ∧ w' = v) ∨ (w = v ∧ w' = u) := by
            rcases e2 with ⟨p, q⟩ | ⟨p, q⟩ <;> rcases f3 with ⟨r, s⟩ | ⟨r, s⟩
            · exact Or.inl ⟨r.symm.trans p, s.symm.trans q⟩
            · exact Or.inr ⟨r.symm.trans q, s.symm.trans p⟩
            · exact Or.inr ⟨r.symm.trans q, s.symm.trans p⟩
            · exact Or.inl ⟨r.symm.trans p, s.symm.trans q⟩
          rcases this with ⟨_, z⟩ | ⟨_, z⟩
          · right; rw [z]; exact ⟨f, u, v, e1, e2, e3, Rc.rf _ _⟩
          · left; rw [z]; exact e3
        · right
          exact ⟨e, u, v, e1, e2, e3, e4.step ⟨f, f1, f2, q, f3⟩⟩
    rcases key with q | ⟨e, u, v, e1, e2, e3, e4⟩
    · exact q
    · exfalso
      apply e1.2.2
      have a1 : Rc (gL T F G e) x u := e3.mono (fun a b hab => by
        obtain ⟨f, f1, f2, f3⟩ := hab
        have f2 := (Bool.and_eq_true _ _).mp f2
        refine ⟨f, f1, f2.1, fun z => ?_, f3⟩
        subst z
        have := (hB f).mpr e1
        rw [this] at f2; cases f2.2)
      have a2 := h2 e e1.1 e1.2.1
      exact gL_ends e2 ((a1.symm gL.symm).trans (a2.trans (e4.symm gL.symm)))
/-- blocks: what holds together about an arc when a node is gone -/
theorem bl_con {T : Nat → Bool} {F G : Nat → Nat} {e f : Nat} {n0 : Nat} (hG : GOK T F G n0) (h : Rc (BL T F G) e f) (he : e < 41) (hT : T e = true) (n : Nat) : ∀ a a', ends F G e a a' → a ≠ n → ∀ b b', ends F G f b b' → b ≠ n → Rc (gX T F G (fun z => z = n)) a b := by
  have self : ∀ g, g < 41 → T g = true → ∀ a a', ends F G g a a' → a ≠ n → ∀ b b', ends F G g b b' → b ≠ n → Rc (gX T F G (fun z => z = n)) a b := by
    intro g g1 g2 a a' ha na b b' hb nb
    have : a = b ∨ (a' = b) := by
      rcases ha with ⟨p, q⟩ | ⟨p, q⟩ <;> rcases hb with ⟨r, s⟩ | ⟨r, s⟩
      · exact Or.inl (p.symm.trans r)
      · exact Or.inr (q.symm.trans r)
      · exact Or.inr (q.symm.trans r)
      · exact Or.inl (p.symm.trans r)
    rcases this with z | z
    · rw [z]; exact Rc.rf _ _
    · rw [z] at ha; exact Rc.one ⟨⟨g, g1, g2, ha⟩, na, nb⟩
  refine (h (fun f => f < 41 ∧ T f = true ∧ ∀ a a', ends F G e a a' → a ≠ n → ∀ b b', ends F G f b b' → b ≠ n → Rc (gX T F G (fun z => z = n)) a b) ⟨he, hT, self e he hT⟩ (fun g k hg hgk => ?_)).2.2
  obtain ⟨g1, k1, g2, k2, u, x, y, h1, h2, h3⟩ := hgk
  refine ⟨k1, k2, fun a a' ha na b b' hb nb => ?_⟩
  have hux := hG.ends g1 g2 h1
  have huy := hG.ends k1 k2 h2
  by_cases q : n = u
  · subst q
    have e1 : Rc (gX T F G (fun z => z = n)) a x := hg.2.2 a a' ha na x n h1.symm (fun z => hux.2.2 z.symm)
    have e2 : Rc (gX T F G (fun z => z = n)) y b := self k k1 k2 y n h2.symm (fun z => huy.2.2 z.symm) b b' hb nb
    exact e1.trans (h3.trans e2)
  · have e1 : Rc (gX T F G (fun z => z = n)) a u := hg.2.2 a a' ha na u x h1 (fun z => q z.symm)
    have e2 : Rc (gX T F G (fun z => z = n)) u b := self k k1 k2 u y h2 (fun z => q z.symm) b b' hb nb
    exact e1.trans e2
/-- two arcs of one block, as the reference asks, over the class's graph -/
def abG (T : Nat → Bool) (F G : Nat → Nat) (nd e f : Nat) : Prop := e = f ∨ ∀ n, n < nd → ∃ x y, (x = F e ∨ x = G e) ∧ x ≠ n ∧ (y = F f ∨ y = G f) ∧ y ≠ n ∧ Rc (gB T F G e f n) x y
theorem ex_ends {F G : Nat → Nat} {e x : Nat} (h : x = F e ∨ x = G e) : ∃ x', ends F G e x x' := by
  rcases h with q | q
  · exact ⟨G e, Or.inl ⟨q.symm, rfl⟩⟩
  · exact ⟨F e, Or.inr ⟨q.symm, rfl⟩⟩
theorem of_ends {F G : Nat → Nat} {e x y : Nat} (h : ends F G e x y) : x = F e ∨ x = G e := by
  rcases h with ⟨p, _⟩ | ⟨p, _⟩
  · exact Or.inl p.symm
  · exact Or.inr p.symm
theorem gB_gX {T : Nat → Bool} {F G : Nat → Nat} {e f n x y : Nat} (h : Rc (gB T F G e f n) x y) : Rc (gX T F G (fun z => z = n)) x y := h.mono (fun a b ⟨g, g1, g2, _, _, g5, g6, g7⟩ => ⟨⟨g, g1, g2, g5⟩, g6, g7⟩)
theorem bl_ab {T : Nat → Bool} {F G : Nat → Nat} {nd e f : Nat} (hG : GOK T F G nd) (he : e < 41) (hT : T e = true) (hf : f < 41) (hTf : T f = true) : Rc (BL T F G) e f ↔ abG T F G nd e f := by
  constructor
  · intro h
    by_cases q : e = f
    · exact Or.inl q
    · refine Or.inr (fun n _ => ?_)
      apply Classical.byContradiction
      intro hn
      have h1 := hG.2 e he hT
      have h2 := hG.2 f hf hTf
      have ex : ∃ x x', ends F G e x x' ∧ x ≠ n := by
        by_cases z : F e = n
        · exact ⟨G e, F e, Or.inr ⟨rfl, rfl⟩, fun w => h1.2.2 (z.trans w.symm)⟩
        · exact ⟨F e, G e, Or.inl ⟨rfl, rfl⟩, z⟩
      have ey : ∃ y y', ends F G f y y' ∧ y ≠ n := by
        by_cases z : F f = n
        · exact ⟨G f, F f, Or.inr ⟨rfl, rfl⟩, fun w => h2.2.2 (z.trans w.symm)⟩
        · exact ⟨F f, G f, Or.inl ⟨rfl, rfl⟩, z⟩
      obtain ⟨x, x', x1, x2⟩ := ex
      obtain ⟨y, y', y1, y2⟩ := ey
      have hc := bl_con hG h he hT n x x' x1 x2 y y' y1 y2
      have key := hc (fun v => v ≠ n ∧ ∃ a, (a = F e ∨ a = G e) ∧ a ≠ n ∧ Rc (gB T F G e f n) a v) ⟨x2, x, of_ends x1, x2, Rc.rf _ _⟩ (fun v w hv hs => by
        obtain ⟨⟨g, g1, g2, g3⟩, g4, g5⟩ := hs
        obtain ⟨v1, a, a1, a2, a3⟩ := hv
        refine ⟨g5, ?_⟩
        by_cases ge : g = e
        · subst ge; exact ⟨w, of_ends g3.symm, g5, Rc.rf _ _⟩
        · by_cases gf : g = f
          · subst gf; exact absurd ⟨a, v, a1, a2, of_ends g3, g4, a3⟩ hn
          · exact ⟨a, a1, a2, a3.step ⟨g, g1, g2, ge, gf, g3, g4, g5⟩⟩)
      obtain ⟨_, a, a1, a2, a3⟩ := key
      exact hn ⟨a, y, a1, a2, of_ends y1, y2, a3⟩
  · rintro (q | h)
    · rw [q]; exact Rc.rf _ _
    · apply Classical.byContradiction
      intro hnb
      have hself : ∀ g, g < 41 → T g = true → ∀ k, k < 41 → T k = true → ∀ n c w, ends F G g n c → ends F G k n w → Rc (gX T F G (fun z => z = n)) c w → Rc (BL T F G) e g → Rc (BL T F G) e k := fun g g1 g2 k k1 k2 n c w hg hk hc heg => heg.step ⟨g1, k1, g2, k2, n, c, w, hg, hk, hc⟩
      have hall : ∀ g, Rc (BL T F G) e g → g < 41 ∧ T g = true := fun g hg => hg (fun g => g < 41 ∧ T g = true) ⟨he, hT⟩ (fun a b _ hab => ⟨hab.2.1, hab.2.2.2.1⟩)
      have hfe := hG.2 f hf hTf
      have p14 : F f < nd := hfe.1
      by_cases hp : ∃ g c, Rc (BL T F G) e g ∧ ends F G g (F f) c
      · obtain ⟨g, c, hg, hgc⟩ := hp
        obtain ⟨x, y, x1, x2, y1, y2, hr⟩ := h (F f) p14
        have hy : y = G f := y1.resolve_left y2
        subst hy
        obtain ⟨x', hx'⟩ := ex_ends x1
        have gg := hall g hg
        have hcn := hG.ends gg.1 gg.2 hgc
        have c1 := bl_con hG hg he hT (F f) x x' hx' x2 c (F f) hgc.symm (fun z => hcn.2.2 z.symm)
        exact hnb (hself g gg.1 gg.2 f hf hTf (F f) c (G f) hgc (ends_self F G f) ((c1.symm gX.symm).trans (gB_gX hr)) hg)
      · -- walk from f's first end outside the block
        let VC : Nat → Prop := fun v => ∃ g c, Rc (BL T F G) e g ∧ ends F G g v c
        have hD : ∃ n w k, VC n ∧ ¬ VC w ∧ Rc (gX T F G VC) (F f) w ∧ k < 41 ∧ T k = true ∧ ends F G k n w := by
          apply Classical.byContradiction
          intro hn
          obtain ⟨x, y, x1, x2, y1, y2, hr⟩ := h (F f) p14
          obtain ⟨x', hx'⟩ := ex_ends x1
          have hy : y = G f := y1.resolve_left y2
          subst hy
          have r1 : Rc (ad T F G) (F f) x := (Rc.one ⟨f, hf, hTf, ends_self F G f⟩).trans ((hr.mono (fun a b ⟨g, g1, g2, _, _, g5, _⟩ => ⟨g, g1, g2, g5⟩)).symm ad_symm)
          have key := r1 (fun v => ¬ VC v ∧ Rc (gX T F G VC) (F f) v) ⟨hp, Rc.rf _ _⟩ (fun v w hv hs => by
            obtain ⟨k, k1, k2, k3⟩ := hs
            by_cases z : VC w
            · exact absurd ⟨w, v, k, z, hv.1, hv.2, k1, k2, k3.symm⟩ hn
            · exact ⟨z, hv.2.step ⟨⟨k, k1, k2, k3⟩, hv.1, z⟩⟩)
          exact key.1 ⟨e, x', Rc.rf _ _, hx'⟩
        obtain ⟨n, w, k, ⟨g, c, hg, hgc⟩, hw, hfw, k1, k2, hk⟩ := hD
        have gg := hall g hg
        have hcn := hG.ends gg.1 gg.2 hgc
        have hnw := hG.ends k1 k2 hk
        obtain ⟨x, y, x1, x2, y1, y2, hr⟩ := h n hnw.1
        obtain ⟨x', hx'⟩ := ex_ends x1
        have hVn : VC n := ⟨g, c, hg, hgc⟩
        have hfn : F f ≠ n := fun z => hp (by rw [z]; exact hVn)
        have f1 : Rc (gX T F G (fun z => z = n)) (F f) w := hfw.mono (fun a b ⟨h1, h2, h3⟩ => ⟨h1, fun z => h2 (by rw [z]; exact hVn), fun z => h3 (by rw [z]; exact hVn)⟩)
        have f2 : Rc (gX T F G (fun z => z = n)) y (F f) := by
          rcases y1 with z | z
          · rw [z]; exact Rc.rf _ _
          · exact Rc.one ⟨⟨f, hf, hTf, Or.inr ⟨z.symm, rfl⟩⟩, y2, hfn⟩
        have c1 := bl_con hG hg he hT n x x' hx' x2 c n hgc.symm (fun z => hcn.2.2 z.symm)
        have c2 : Rc (gX T F G (fun z => z = n)) c w := (c1.symm gX.symm).trans ((gB_gX hr).trans (f2.trans f1))
        exact hw ⟨k, n, hself g gg.1 gg.2 k k1 k2 n c w hgc hk c2 hg, hk.symm⟩
