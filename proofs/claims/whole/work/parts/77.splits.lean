/-! ===== 77.splits: splits of a block; good ones; pieces of pairs ===== -/
/-- v is a node of an arc of the block in U -/
def tV (Bk : Nat → Prop) (F G : Nat → Nat) (U : Nat → Prop) (v : Nat) : Prop := ∃ e, Bk e ∧ U e ∧ (F e = v ∨ G e = v)
def com (Bk : Nat → Prop) (F G : Nat → Nat) (U : Nat → Prop) (v : Nat) : Prop := tV Bk F G U v ∧ tV Bk F G (fun e => ¬ U e) v
/-- no set of a block's arcs meets the rest in fewer than two nodes -/
def B2 (Bk : Nat → Prop) (F G : Nat → Nat) : Prop := ∀ U : Nat → Prop, (∃ e, Bk e ∧ U e) → (∃ e, Bk e ∧ ¬ U e) → ∃ a b, a ≠ b ∧ com Bk F G U a ∧ com Bk F G U b
theorem ends_l {F G : Nat → Nat} {e a b : Nat} (h : ends F G e a b) : F e = a ∨ G e = a := h.imp (fun q => q.1) (fun q => q.1)
theorem bl_A {T : Nat → Bool} {F G : Nat → Nat} {n0 : Nat} (hG : GOK T F G n0) {e0 : Nat} (hall : ∀ g, Rc (BL T F G) e0 g → g < 41 ∧ T g = true) {h w v1 w' g k c d : Nat} (hh : h < 41) (hTh : T h = true) (hw : ends F G h w v1) (hg : Rc (BL T F G) e0 g) (hgw : ends F G g w c) (hk : Rc (BL T F G) e0 k) (hkw : ends F G k w' d) (hne : w' ≠ w) (hr : Rc (gX T F G (fun z => z = w)) v1 w') : Rc (BL T F G) e0 h := by
  have g1 := hall g hg
  have h1 := hG.ends g1.1 g1.2 hgw
  have hgk : Rc (BL T F G) g k := (hg.symm (GL_BL T F G).1).trans hk
  have h2 := bl_con hG hgk g1.1 g1.2 w c w hgw.symm (fun q => h1.2.2 q.symm) w' d hkw hne
  exact hg.step ⟨g1.1, hh, g1.2, hTh, w, c, v1, hgw, hw, h2.trans (hr.symm gX.symm)⟩
theorem bl_B2 {T : Nat → Bool} {F G : Nat → Nat} {n0 : Nat} (hG : GOK T F G n0) {e0 : Nat} (h0 : e0 < 41) (hT0 : T e0 = true) : B2 (fun f => Rc (BL T F G) e0 f) F G := by
  intro U hU hN
  obtain ⟨e, e1, e2⟩ := hU
  obtain ⟨f, f1, f2⟩ := hN
  have hall : ∀ g, Rc (BL T F G) e0 g → g < 41 ∧ T g = true := fun g hg => hg (fun g => g < 41 ∧ T g = true) ⟨h0, hT0⟩ (fun a b _ hab => ⟨hab.2.1, hab.2.2.2.1⟩)
  have hst : ∃ g k, Rc (BL T F G) e0 g ∧ U g ∧ ¬ U k ∧ BL T F G g k := by
    apply Classical.byContradiction
    intro hn
    have hef : Rc (BL T F G) e f := (Rc.symm (GL_BL T F G).1 e1).trans f1
    exact f2 (hef (fun g => Rc (BL T F G) e0 g ∧ U g) ⟨e1, e2⟩ (fun g k hg hgk => ⟨hg.1.step hgk, Classical.byContradiction (fun q => hn ⟨g, k, hg.1, hg.2, q, hgk⟩)⟩)).2
  obtain ⟨g, k, g1, g2, k2, hgk⟩ := hst
  have k1 := g1.step hgk
  obtain ⟨gl, kl, gT, kT, u, x, y, hx, hy, hr⟩ := hgk
  have hxu := hG.ends gl gT hx
  have hyu := hG.ends kl kT hy
  apply Classical.byContradiction
  intro hno
  have only : ∀ v, com (fun f => Rc (BL T F G) e0 f) F G U v → v = u := fun v hv => Classical.byContradiction (fun q => hno ⟨v, u, q, hv, ⟨g, g1, g2, ends_l hx⟩, ⟨k, k1, k2, ends_l hy⟩⟩)
  have key := hr (fun v => ((∃ h c, Rc (BL T F G) e0 h ∧ U h ∧ ends F G h v c) ∧ v ≠ u) ∨ ((¬ ∃ h c, Rc (BL T F G) e0 h ∧ ends F G h v c) ∧ ∃ w h v1, (∃ h c, Rc (BL T F G) e0 h ∧ U h ∧ ends F G h w c) ∧ w ≠ u ∧ h < 41 ∧ T h = true ∧ ends F G h w v1 ∧ ¬ Rc (BL T F G) e0 h ∧ Rc (gX T F G (fun v => ∃ h c, Rc (BL T F G) e0 h ∧ ends F G h v c)) v1 v)) (Or.inl ⟨⟨g, u, g1, g2, hx.symm⟩, fun q => hxu.2.2 q.symm⟩) (fun v v' hv hs => by
    obtain ⟨⟨h, h1, h2, h3⟩, nv, nv'⟩ := hs
    have hvv := hG.ends h1 h2 h3
    by_cases hb : Rc (BL T F G) e0 h
    · rcases hv with ⟨⟨g', c, a1, a2, a3⟩, _⟩ | ⟨nb, _⟩
      · by_cases hUh : U h
        · exact Or.inl ⟨⟨h, v, hb, hUh, h3.symm⟩, nv'⟩
        · exact absurd (only v ⟨⟨g', a1, a2, ends_l a3⟩, ⟨h, hb, hUh, ends_l h3⟩⟩) nv
      · exact absurd ⟨h, v', hb, h3⟩ nb
    · by_cases hv' : ∃ h c, Rc (BL T F G) e0 h ∧ ends F G h v' c
      · obtain ⟨k', d, b1, b2⟩ := hv'
        rcases hv with ⟨⟨g', c, a1, a2, a3⟩, _⟩ | ⟨nb, w, h', v1, ⟨g', c, a1, a2, a3⟩, nw, c1, c2, c3, c4, c5⟩
        · exact absurd (bl_A hG hall h1 h2 h3 a1 a3 b1 b2 (fun q => hvv.2.2 q.symm) (Rc.rf _ _)) hb
        · by_cases q : v' = w
          · rw [q]; exact Or.inl ⟨⟨g', c, a1, a2, a3⟩, nw⟩
          · have hr1 : Rc (gX T F G (fun z => z = w)) v1 v := c5.mono (fun a b hab => ⟨hab.1, fun z => hab.2.1 (by rw [z]; exact ⟨g', c, a1, a3⟩), fun z => hab.2.2 (by rw [z]; exact ⟨g', c, a1, a3⟩)⟩)
            exact absurd (bl_A hG hall c1 c2 c3 a1 a3 b1 b2 q (hr1.step ⟨⟨h, h1, h2, h3⟩, fun z => nb (by rw [z]; exact ⟨g', c, a1, a3⟩), q⟩)) c4
      · rcases hv with ⟨hU, nu⟩ | ⟨nb, w, h', v1, hU, nw, c1, c2, c3, c4, c5⟩
        · exact Or.inr ⟨hv', v, h, v', hU, nu, h1, h2, h3, hb, Rc.rf _ _⟩
        · exact Or.inr ⟨hv', w, h', v1, hU, nw, c1, c2, c3, c4, c5.step ⟨⟨h, h1, h2, h3⟩, nb, hv'⟩⟩)
  rcases key with ⟨⟨h, c, a1, a2, a3⟩, ny⟩ | ⟨nb, _⟩
  · exact ny (only y ⟨⟨h, a1, a2, ends_l a3⟩, ⟨k, k1, k2, ends_l hy.symm⟩⟩)
  · exact nb ⟨k, u, k1, hy.symm⟩
/-- arcs of a block that hold together by other nodes than a and b -/
def PL (Bk : Nat → Prop) (F G : Nat → Nat) (a b e f : Nat) : Prop := Bk e ∧ Bk f ∧ ((∃ v, v ≠ a ∧ v ≠ b ∧ (F e = v ∨ G e = v) ∧ (F f = v ∨ G f = v)) ∨ e = f)
theorem PL_symm {Bk : Nat → Prop} {F G : Nat → Nat} {a b e f : Nat} (h : PL Bk F G a b e f) : PL Bk F G a b f e := ⟨h.2.1, h.1, h.2.2.imp (fun ⟨v, h1, h2, h3, h4⟩ => ⟨v, h1, h2, h4, h3⟩) (fun q => q.symm)⟩
def clo (Bk : Nat → Prop) (F G : Nat → Nat) (a b : Nat) (U : Nat → Prop) : Prop := ∀ e f, PL Bk F G a b e f → U e → U f
def two (Bk U : Nat → Prop) : Prop := ∃ e f, e ≠ f ∧ Bk e ∧ Bk f ∧ U e ∧ U f
def spl (Bk : Nat → Prop) (F G : Nat → Nat) (U : Nat → Prop) : Prop := two Bk U ∧ two Bk (fun e => ¬ U e) ∧ ∃ a b, a ≠ b ∧ ∀ v, com Bk F G U v ↔ (v = a ∨ v = b)
def crx (Bk U W : Nat → Prop) : Prop := (∃ e, Bk e ∧ U e ∧ W e) ∧ (∃ e, Bk e ∧ U e ∧ ¬ W e) ∧ (∃ e, Bk e ∧ ¬ U e ∧ W e) ∧ ∃ e, Bk e ∧ ¬ U e ∧ ¬ W e
def gud (Bk : Nat → Prop) (F G : Nat → Nat) (U : Nat → Prop) : Prop := spl Bk F G U ∧ ∀ W, spl Bk F G W → ¬ crx Bk U W
def eqB (Bk U W : Nat → Prop) : Prop := ∀ e, Bk e → (U e ↔ W e)
section SP
variable {Bk : Nat → Prop} {F G : Nat → Nat} {U W : Nat → Prop} {a b : Nat}
theorem clo_n (h : clo Bk F G a b U) : clo Bk F G a b (fun e => ¬ U e) := fun e f hef hn q => hn (h f e (PL_symm hef) q)
theorem clo_of (h : ∀ v, com Bk F G U v → v = a ∨ v = b) : clo Bk F G a b U := fun e f hef hU => by
  obtain ⟨h1, h2, ⟨v, v1, v2, v3, v4⟩ | q⟩ := hef
  · apply Classical.byContradiction
    intro hn
    rcases h v ⟨⟨e, h1, hU, v3⟩, ⟨f, h2, hn, v4⟩⟩ with z | z
    · exact v1 z
    · exact v2 z
  · rw [← q]; exact hU
theorem com_of (h : clo Bk F G a b U) {v : Nat} (hv : com Bk F G U v) : v = a ∨ v = b := by
  apply Classical.byContradiction
  intro hn
  obtain ⟨⟨e, e1, e2, e3⟩, ⟨f, f1, f2, f3⟩⟩ := hv
  exact f2 (h e f ⟨e1, f1, Or.inl ⟨v, fun z => hn (Or.inl z), fun z => hn (Or.inr z), e3, f3⟩⟩ e2)
theorem com_ab (h2 : B2 Bk F G) (h : clo Bk F G a b U) (hU : ∃ e, Bk e ∧ U e) (hN : ∃ e, Bk e ∧ ¬ U e) : ∀ v, com Bk F G U v ↔ (v = a ∨ v = b) := by
  obtain ⟨c, d, cd, hc, hd⟩ := h2 U hU hN
  intro v
  refine ⟨com_of h, fun q => ?_⟩
  rcases com_of h hc with z | z <;> rcases com_of h hd with y | y
  · exact absurd (z.trans y.symm) cd
  · rcases q with q | q
    · rw [q, ← z]; exact hc
    · rw [q, ← y]; exact hd
  · rcases q with q | q
    · rw [q, ← y]; exact hd
    · rw [q, ← z]; exact hc
  · exact absurd (z.trans y.symm) cd
theorem two_1 (h : two Bk U) : ∃ e, Bk e ∧ U e := by
  obtain ⟨e, f, _, h1, _, h2, _⟩ := h
  exact ⟨e, h1, h2⟩
theorem spl_of (h2 : B2 Bk F G) (hab : a ≠ b) (h : clo Bk F G a b U) (hU : two Bk U) (hN : two Bk (fun e => ¬ U e)) : spl Bk F G U := ⟨hU, hN, a, b, hab, com_ab h2 h (two_1 hU) (two_1 hN)⟩
/-- a split's two nodes, the lesser first -/
theorem spl_ab (h : spl Bk F G U) : ∃ a b, a < b ∧ clo Bk F G a b U ∧ com Bk F G U a ∧ com Bk F G U b := by
  obtain ⟨_, _, a, b, hab, hc⟩ := h
  rcases Nat.lt_or_ge a b with q | q
  · exact ⟨a, b, q, clo_of (fun v hv => (hc v).mp hv), (hc a).mpr (Or.inl rfl), (hc b).mpr (Or.inr rfl)⟩
  · exact ⟨b, a, by omega, clo_of (fun v hv => ((hc v).mp hv).symm), (hc b).mpr (Or.inr rfl), (hc a).mpr (Or.inl rfl)⟩
theorem crx_two (h : crx Bk U W) : two Bk W ∧ two Bk (fun e => ¬ W e) := by
  obtain ⟨⟨e1, a1, a2, a3⟩, ⟨e2, b1, b2, b3⟩, ⟨e3, c1, c2, c3⟩, ⟨e4, d1, d2, d3⟩⟩ := h
  exact ⟨⟨e1, e3, fun q => c2 (by rw [← q]; exact a2), a1, c1, a3, c3⟩, ⟨e2, e4, fun q => d2 (by rw [← q]; exact b2), b1, d1, b3, d3⟩⟩
theorem eqB.symm (h : eqB Bk U W) : eqB Bk W U := fun e he => (h e he).symm
theorem eqB.neg (h : eqB Bk U W) : eqB Bk (fun e => ¬ U e) (fun e => ¬ W e) := fun e he => not_congr (h e he)
theorem two_c (h : eqB Bk U W) (k : two Bk U) : two Bk W := by
  obtain ⟨e, f, h1, h2, h3, h4, h5⟩ := k
  exact ⟨e, f, h1, h2, h3, (h e h2).mp h4, (h f h3).mp h5⟩
theorem tV_c (h : eqB Bk U W) {v : Nat} (k : tV Bk F G U v) : tV Bk F G W v := by
  obtain ⟨e, h1, h2, h3⟩ := k
  exact ⟨e, h1, (h e h1).mp h2, h3⟩
theorem com_c (h : eqB Bk U W) {v : Nat} (k : com Bk F G U v) : com Bk F G W v := ⟨tV_c h k.1, tV_c h.neg k.2⟩
theorem spl_c (h : eqB Bk U W) (k : spl Bk F G U) : spl Bk F G W := by
  obtain ⟨k1, k2, a, b, k3, k4⟩ := k
  exact ⟨two_c h k1, two_c h.neg k2, a, b, k3, fun v => ⟨fun q => (k4 v).mp (com_c h.symm q), fun q => com_c h ((k4 v).mpr q)⟩⟩
theorem crx_c {X : Nat → Prop} (h : eqB Bk U W) (k : crx Bk U X) : crx Bk W X := by
  obtain ⟨⟨e1, a1, a2, a3⟩, ⟨e2, b1, b2, b3⟩, ⟨e3, c1, c2, c3⟩, ⟨e4, d1, d2, d3⟩⟩ := k
  exact ⟨⟨e1, a1, (h e1 a1).mp a2, a3⟩, ⟨e2, b1, (h e2 b1).mp b2, b3⟩, ⟨e3, c1, fun q => c2 ((h e3 c1).mpr q), c3⟩, ⟨e4, d1, fun q => d2 ((h e4 d1).mpr q), d3⟩⟩
theorem crx_s (k : crx Bk U W) : crx Bk W U := by
  obtain ⟨⟨e1, a1, a2, a3⟩, ⟨e2, b1, b2, b3⟩, ⟨e3, c1, c2, c3⟩, ⟨e4, d1, d2, d3⟩⟩ := k
  exact ⟨⟨e1, a1, a3, a2⟩, ⟨e3, c1, c3, c2⟩, ⟨e2, b1, b3, b2⟩, ⟨e4, d1, d3, d2⟩⟩
theorem crx_n (k : crx Bk U W) : crx Bk (fun e => ¬ U e) W := by
  obtain ⟨⟨e1, a1, a2, a3⟩, ⟨e2, b1, b2, b3⟩, ⟨e3, c1, c2, c3⟩, ⟨e4, d1, d2, d3⟩⟩ := k
  exact ⟨⟨e3, c1, c2, c3⟩, ⟨e4, d1, d2, d3⟩, ⟨e1, a1, fun q => q a2, a3⟩, ⟨e2, b1, fun q => q b2, b3⟩⟩
theorem nn_B : eqB Bk (fun e => ¬ ¬ U e) U := fun _ _ => ⟨fun q => Classical.byContradiction q, fun q z => z q⟩
theorem spl_n (k : spl Bk F G U) : spl Bk F G (fun e => ¬ U e) := by
  obtain ⟨k1, k2, a, b, k3, k4⟩ := k
  refine ⟨k2, two_c nn_B.symm k1, a, b, k3, fun v => ?_⟩
  rw [← k4 v]
  exact ⟨fun q => ⟨tV_c nn_B q.2, q.1⟩, fun q => ⟨q.2, tV_c nn_B.symm q.1⟩⟩
theorem gud_c (h : eqB Bk U W) (k : gud Bk F G U) : gud Bk F G W := ⟨spl_c h k.1, fun X hX q => k.2 X hX (crx_c h.symm q)⟩
theorem gud_n (k : gud Bk F G U) : gud Bk F G (fun e => ¬ U e) := ⟨spl_n k.1, fun X hX q => k.2 X hX (crx_c nn_B (crx_n q))⟩
/-- one side of a good split is one piece -/
theorem gud_one (h2 : B2 Bk F G) (hab : a ≠ b) (hc : clo Bk F G a b U) (h : gud Bk F G U) : (∃ e, Bk e ∧ U e ∧ ∀ f, Bk f → (Rc (PL Bk F G a b) e f ↔ U f)) ∨ (∃ e, Bk e ∧ ¬ U e ∧ ∀ f, Bk f → (Rc (PL Bk F G a b) e f ↔ ¬ U f)) := by
  have hcl : ∀ {U : Nat → Prop}, clo Bk F G a b U → ∀ {e f : Nat}, U e → Rc (PL Bk F G a b) e f → U f := fun {U} hc {e f} he hr => hr U he (fun x y hx hxy => hc x y hxy hx)
  obtain ⟨e, e1, e2⟩ := two_1 h.1.1
  obtain ⟨f, f1, f2⟩ := two_1 h.1.2.1
  apply Classical.byContradiction
  intro hn
  have x1 : ∃ e', Bk e' ∧ U e' ∧ ¬ Rc (PL Bk F G a b) e e' := by
    apply Classical.byContradiction
    intro q
    exact hn (Or.inl ⟨e, e1, e2, fun f hf => ⟨fun r => hcl hc e2 r, fun u => Classical.byContradiction (fun r => q ⟨f, hf, u, r⟩)⟩⟩)
  have x2 : ∃ f', Bk f' ∧ ¬ U f' ∧ ¬ Rc (PL Bk F G a b) f f' := by
    apply Classical.byContradiction
    intro q
    exact hn (Or.inr ⟨f, f1, f2, fun g hg => ⟨fun r => hcl (clo_n hc) f2 r, fun u => Classical.byContradiction (fun r => q ⟨g, hg, u, r⟩)⟩⟩)
  obtain ⟨e', g1, g2, g3⟩ := x1
  obtain ⟨f', k1, k2, k3⟩ := x2
  have hW : clo Bk F G a b (fun x => Rc (PL Bk F G a b) e x ∨ Rc (PL Bk F G a b) f x) := fun x y hxy hx => hx.imp (fun q => q.step hxy) (fun q => q.step hxy)
  have hcr : crx Bk U (fun x => Rc (PL Bk F G a b) e x ∨ Rc (PL Bk F G a b) f x) := by
    refine ⟨⟨e, e1, e2, Or.inl (Rc.rf _ _)⟩, ⟨e', g1, g2, ?_⟩, ⟨f, f1, f2, Or.inr (Rc.rf _ _)⟩, ⟨f', k1, k2, ?_⟩⟩
    · rintro (q | q)
      · exact g3 q
      · exact (hcl (clo_n hc) f2 q) g2
    · rintro (q | q)
      · exact k2 (hcl hc e2 q)
      · exact k3 q
  exact h.2 _ (spl_of h2 hab hW (crx_two hcr).1 (crx_two hcr).2) hcr
end SP
