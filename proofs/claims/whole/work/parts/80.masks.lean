/-! ===== 80.masks: the reference's splits ===== -/
theorem eqo.symm {Bk U W : Nat → Prop} (h : eqo Bk U W) : eqo Bk W U := h.imp (fun q => q.symm) (fun q e he => ⟨fun w z => ((q e he).mp z) w, fun w => Classical.byContradiction (fun z => w ((q e he).mpr z))⟩)
theorem eqo.trans {Bk U V W : Nat → Prop} (h : eqo Bk U V) (k : eqo Bk V W) : eqo Bk U W := by
  rcases h with h | h <;> rcases k with k | k
  · exact Or.inl (fun e he => (h e he).trans (k e he))
  · exact Or.inr (fun e he => (h e he).trans (k e he))
  · exact Or.inr (fun e he => (h e he).trans (not_congr (k e he)))
  · exact Or.inl (fun e he => (h e he).trans ((not_congr (k e he)).trans ⟨fun q => Classical.byContradiction q, fun q w => w q⟩))
theorem eqo_ag {Bk U W : Nat → Prop} (h : eqo Bk U W) {e f : Nat} (he : Bk e) (hf : Bk f) : (U e ↔ U f) ↔ (W e ↔ W f) := by
  rcases h with h | h
  · rw [h e he, h f hf]
  · rw [h e he, h f hf]; exact ⟨fun q => ⟨fun w => Classical.byContradiction (fun z => (q.mpr z) w), fun w => Classical.byContradiction (fun z => (q.mp z) w)⟩, fun q => not_congr q⟩
/-- a block's row -/
def RowO (Bk : Nat → Prop) (Ob : Nat → Nat) (bz : Nat) : Prop := (∀ e, Bk e ↔ ∃ k, k < bz ∧ Ob k = e) ∧ (∀ k l, k < bz → l < bz → Ob k = Ob l → k = l) ∧ bz ≤ 14 ∧ 0 < bz
def Um (Ob : Nat → Nat) (bz s e : Nat) : Prop := ∃ k, k < bz ∧ Ob k = e ∧ bt (nI s) k = true
section UM
variable {Bk : Nat → Prop} {F G F' G' Ob Sp : Nat → Nat} {bz s z : Nat} {bl : Int64} {Pi Gd : Nat → Int64} {Bo : Nat → Nat} {pc gc : Nat} {pa pb : Nat → Nat} {D : Nat → Bool}
theorem Um_at (h : RowO Bk Ob bz) {k : Nat} (hk : k < bz) : Um Ob bz s (Ob k) ↔ bt (nI s) k = true := by
  constructor
  · rintro ⟨l, l1, l2, l3⟩; rw [← h.2.1 l k l1 hk l2]; exact l3
  · exact fun q => ⟨k, hk, rfl, q⟩
theorem full_bit (hb : bz ≤ 14) (k : Nat) : bt (nI (2 ^ bz - 1) &&& (nI s ^^^ (-1))) k = true ↔ (k < bz ∧ ¬ bt (nI s) k = true) := by
  rw [b_and', ← sb_pow1 bz (by omega), b_all' (by omega), decide_eq_true_eq]
  refine and_congr_right (fun hk => ?_)
  rw [b_not' (by omega), Bool.eq_false_iff]
theorem two_m (h : RowO Bk Ob bz) {x : Int32} {U : Nat → Prop} (hx : ∀ k, bt x k = true ↔ (k < bz ∧ U (Ob k))) : 1 < cn (bt x) 16 ↔ two Bk U := by
  have hbz := h.2.2.1
  constructor
  · intro q
    obtain ⟨k, l, h1, _, _, h2, h3⟩ := cn_2 q
    have h2 := (hx k).mp h2
    have h3 := (hx l).mp h3
    exact ⟨Ob k, Ob l, fun z => h1 (h.2.1 k l h2.1 h3.1 z), (h.1 _).mpr ⟨k, h2.1, rfl⟩, (h.1 _).mpr ⟨l, h3.1, rfl⟩, h2.2, h3.2⟩
  · rintro ⟨e, f, h1, h2, h3, h4, h5⟩
    obtain ⟨k, k1, k2⟩ := (h.1 e).mp h2
    obtain ⟨l, l1, l2⟩ := (h.1 f).mp h3
    subst k2
    subst l2
    exact cn_g2 (i := k) (j := l) (fun q => h1 (by rw [q])) (by omega) (by omega) ((hx k).mpr ⟨k1, h4⟩) ((hx l).mpr ⟨l1, h5⟩)
theorem tc_iff (h : RowO Bk Ob bz) (hF : ∀ e, Bk e → F' e = F e ∧ G' e = G e) {st x : Int32} {U : Nat → Prop} (hx : ∀ k, bt st k = true ↔ (k < bz ∧ U (Ob k))) (ht : tcI F' G' Ob st x bz) (y : Nat) : bt x y = true ↔ tV Bk F G U y := by
  rw [ht y]
  constructor
  · rintro ⟨k, k1, k2, k3⟩
    have hb := (h.1 (Ob k)).mpr ⟨k, k1, rfl⟩
    rw [(hF _ hb).1, (hF _ hb).2] at k3
    exact ⟨Ob k, hb, ((hx k).mp k2).2, k3.imp (fun q => q.symm) (fun q => q.symm)⟩
  · rintro ⟨e, e1, e2, e3⟩
    obtain ⟨k, k1, k2⟩ := (h.1 e).mp e1
    subst k2
    refine ⟨k, k1, (hx k).mpr ⟨k1, e2⟩, ?_⟩
    rw [(hF _ e1).1, (hF _ e1).2]
    exact e3.imp (fun q => q.symm) (fun q => q.symm)
theorem tc_ex (h : RowO Bk Ob bz) (hB : BkO Bk F G bl) (hF : ∀ e, Bk e → F' e = F e ∧ G' e = G e) {st : Int32} {U : Nat → Prop} (hx : ∀ k, bt st k = true ↔ (k < bz ∧ U (Ob k))) : ∃ x, tcI F' G' Ob st x bz := by
  obtain ⟨x, hx2⟩ := bits_of (fun v => tV Bk F G U v) 14 (by omega)
  refine ⟨x, fun y => ?_⟩
  rw [hx2 y]
  constructor
  · rintro ⟨_, e, e1, e2, e3⟩
    obtain ⟨k, k1, k2⟩ := (h.1 e).mp e1
    subst k2
    refine ⟨k, k1, (hx k).mpr ⟨k1, e2⟩, ?_⟩
    rw [(hF _ e1).1, (hF _ e1).2]
    exact e3.imp (fun q => q.symm) (fun q => q.symm)
  · rintro ⟨k, k1, k2, k3⟩
    have hb := (h.1 (Ob k)).mpr ⟨k, k1, rfl⟩
    have h14 := hB.2 _ hb
    rw [(hF _ hb).1, (hF _ hb).2] at k3
    exact ⟨by rcases k3 with q | q <;> omega, Ob k, hb, ((hx k).mp k2).2, k3.imp (fun q => q.symm) (fun q => q.symm)⟩
theorem sp_iff (h : RowO Bk Ob bz) (hB : BkO Bk F G bl) (hF : ∀ e, Bk e → F' e = F e ∧ G' e = G e) (hs : s < 2 ^ bz) : spQ F' G' Ob bz s ↔ (Um Ob bz s (Ob 0) ∧ spl Bk F G (Um Ob bz s)) := by
  have hbz := h.2.2.1
  have h0 : s % 2 = 1 ↔ Um Ob bz s (Ob 0) := by
    rw [Um_at h h.2.2.2, bt_nIs (by omega), Nat.testBit_zero, decide_eq_true_eq]
  have x1 : ∀ k, bt (nI s) k = true ↔ (k < bz ∧ Um Ob bz s (Ob k)) := fun k => ⟨fun q => ⟨bt_lt hs q, (Um_at h (bt_lt hs q)).mpr q⟩, fun q => (Um_at h q.1).mp q.2⟩
  have x2 : ∀ k, bt (nI (2 ^ bz - 1) &&& (nI s ^^^ (-1))) k = true ↔ (k < bz ∧ ¬ Um Ob bz s (Ob k)) := fun k => by
    rw [full_bit hbz]
    exact and_congr_right (fun hk => not_congr (Um_at h hk).symm)
  unfold spQ spl
  rw [h0, two_m h x1, two_m (U := fun e => ¬ Um Ob bz s e) h x2]
  refine and_congr_right (fun _ => and_congr_right (fun _ => and_congr_right (fun _ => ?_)))
  have lt14 : ∀ v, com Bk F G (Um Ob bz s) v → v < 14 := fun v hv => by
    obtain ⟨⟨e, e1, _, e3⟩, _⟩ := hv
    have := hB.2 e e1
    rcases e3 with q | q <;> omega
  constructor
  · rintro ⟨x, y, tx, ty, hc⟩
    have hb : ∀ v, bt (x &&& y) v = true ↔ com Bk F G (Um Ob bz s) v := fun v => by
      rw [b_and', tc_iff h hF x1 tx, tc_iff (U := fun e => ¬ Um Ob bz s e) h hF x2 ty]; exact Iff.rfl
    obtain ⟨_, _, ab, hv⟩ := two_of (x := x &&& y) (fun v hv => lt14 v ((hb v).mp hv)) hc rfl rfl
    exact ⟨_, _, ab, fun v => by rw [← hb v]; exact hv v⟩
  · rintro ⟨a, b, ab, hv⟩
    obtain ⟨x, tx⟩ := tc_ex h hB hF x1
    obtain ⟨y, ty⟩ := tc_ex (U := fun e => ¬ Um Ob bz s e) h hB hF x2
    have hb : ∀ v, bt (x &&& y) v = true ↔ com Bk F G (Um Ob bz s) v := fun v => by
      rw [b_and', tc_iff h hF x1 tx, tc_iff (U := fun e => ¬ Um Ob bz s e) h hF x2 ty]; exact Iff.rfl
    refine ⟨x, y, tx, ty, ?_⟩
    have ha := (hv a).mpr (Or.inl rfl)
    have hb2 := (hv b).mpr (Or.inr rfl)
    have a14 := lt14 a ha
    have b14 := lt14 b hb2
    have d1 := cn_del (p := bt (x &&& y)) (n := 16) a (by omega) ((hb a).mpr ha)
    have d2 := cn_del (p := fun i => bt (x &&& y) i && decide (i ≠ a)) (n := 16) b (by omega) (by rw [(hb b).mpr hb2]; exact decide_eq_true (p := b ≠ a) (fun q => ab q.symm))
    rw [cn_none (p := fun i => (bt (x &&& y) i && decide (i ≠ a)) && decide (i ≠ b)) (fun i _ => by
      rw [Bool.eq_false_iff]
      intro q
      simp only [Bool.and_eq_true, decide_eq_true_eq] at q
      rcases (hv i).mp ((hb i).mp q.1.1) with w | w
      · exact q.1.2 w
      · exact q.2 w)] at d2
    omega
theorem b_ne1 {x : Int32} : ¬ x = 0 ↔ ∃ k, bt x k = true := by
  constructor
  · intro h
    apply Classical.byContradiction
    intro q
    exact h (b_ext (fun i _ => by rw [b_0]; exact Bool.eq_false_iff.mpr (fun w => q ⟨i, w⟩)))
  · rintro ⟨k, hk⟩ q
    rw [q, b_0] at hk; cases hk
theorem crs_iff (h : RowO Bk Ob bz) {a b : Nat} (ha : a < 2 ^ bz) (hb : b < 2 ^ bz) : crs bz a b ↔ crx Bk (Um Ob bz a) (Um Ob bz b) := by
  have hbz := h.2.2.1
  have hn : ∀ (s k : Nat), k < bz → (bt (nI s ^^^ (-1)) k = true ↔ ¬ bt (nI s) k = true) := fun s k hk => by rw [b_not' (by omega), Bool.eq_false_iff]
  have ob : ∀ k, k < bz → Bk (Ob k) := fun k hk => (h.1 _).mpr ⟨k, hk, rfl⟩
  have q : ∀ (x : Int32) (P : Nat → Prop), (∀ k, bt x k = true ↔ (k < bz ∧ P (Ob k))) → (¬ x = 0 ↔ ∃ e, Bk e ∧ P e) := fun x P hx => by
    rw [b_ne1]
    constructor
    · rintro ⟨k, hk⟩
      have := (hx k).mp hk
      exact ⟨Ob k, ob k this.1, this.2⟩
    · rintro ⟨e, e1, e2⟩
      obtain ⟨k, k1, k2⟩ := (h.1 e).mp e1
      subst k2
      exact ⟨k, (hx k).mpr ⟨k1, e2⟩⟩
  unfold crs crx
  rw [q _ (fun e => Um Ob bz a e ∧ Um Ob bz b e) (fun k => by
      rw [b_and']
      exact ⟨fun w => ⟨bt_lt ha w.1, (Um_at h (bt_lt ha w.1)).mpr w.1, (Um_at h (bt_lt ha w.1)).mpr w.2⟩, fun w => ⟨(Um_at h w.1).mp w.2.1, (Um_at h w.1).mp w.2.2⟩⟩),
    q _ (fun e => Um Ob bz a e ∧ ¬ Um Ob bz b e) (fun k => by
      rw [b_and']
      exact ⟨fun w => ⟨bt_lt ha w.1, (Um_at h (bt_lt ha w.1)).mpr w.1, fun v => ((hn b k (bt_lt ha w.1)).mp w.2) ((Um_at h (bt_lt ha w.1)).mp v)⟩, fun w => ⟨(Um_at h w.1).mp w.2.1, (hn b k w.1).mpr (fun v => w.2.2 ((Um_at h w.1).mpr v))⟩⟩),
    q (nI b &&& (nI a ^^^ (-1))) (fun e => ¬ Um Ob bz a e ∧ Um Ob bz b e) (fun k => by
      rw [b_and']
      exact ⟨fun w => ⟨bt_lt hb w.1, fun v => ((hn a k (bt_lt hb w.1)).mp w.2) ((Um_at h (bt_lt hb w.1)).mp v), (Um_at h (bt_lt hb w.1)).mpr w.1⟩, fun w => ⟨(Um_at h w.1).mp w.2.2, (hn a k w.1).mpr (fun v => w.2.1 ((Um_at h w.1).mpr v))⟩⟩),
    q _ (fun e => ¬ Um Ob bz a e ∧ ¬ Um Ob bz b e) (fun k => by
      rw [b_and', full_bit hbz]
      exact ⟨fun w => ⟨w.1.1, fun v => w.1.2 ((Um_at h w.1.1).mp v), fun v => ((hn b k w.1.1).mp w.2) ((Um_at h w.1.1).mp v)⟩, fun w => ⟨⟨w.1, fun v => w.2.1 ((Um_at h w.1).mpr v)⟩, (hn b k w.1).mpr (fun v => w.2.2 ((Um_at h w.1).mpr v))⟩⟩)]
/-- every split is in the row of splits, on that side where the first arc is -/
theorem sp_find (h : RowO Bk Ob bz) (hB : BkO Bk F G bl) (hF : ∀ e, Bk e → F' e = F e ∧ G' e = G e) (hS : lbI (spQ F' G' Ob bz) Sp z (2 ^ bz - 1)) {V : Nat → Prop} (hV : spl Bk F G V) (h0 : V (Ob 0)) : ∃ k, k < z ∧ eqB Bk (Um Ob bz (Sp k)) V := by
  have hbz := h.2.2.1
  obtain ⟨s, s1, s2⟩ := set_of (fun k => V (Ob k)) hbz
  have he : eqB Bk (Um Ob bz s) V := fun e he => by
    obtain ⟨k, k1, k2⟩ := (h.1 e).mp he
    subst k2
    rw [Um_at h k1, s2 k]
    exact ⟨fun q => q.2, fun q => ⟨k1, q⟩⟩
  have hs := spl_c he.symm hV
  have hq : spQ F' G' Ob bz s := (sp_iff h hB hF s1).mpr ⟨(he _ ((h.1 _).mpr ⟨0, h.2.2.2, rfl⟩)).mpr h0, hs⟩
  have hlt : s < 2 ^ bz - 1 := by
    apply Classical.byContradiction
    intro q
    have hsf : s = 2 ^ bz - 1 := by omega
    obtain ⟨e, e1, e2⟩ := two_1 hV.2.1
    obtain ⟨k, k1, k2⟩ := (h.1 e).mp e1
    subst k2
    have : bt (nI s) k = true := by
      rw [hsf, ← sb_pow1 bz (by omega), b_all' (by omega)]; exact decide_eq_true k1
    exact e2 ((s2 k).mp this).2
  obtain ⟨k, k1, k2⟩ := hS.2.2.1 s hlt hq
  exact ⟨k, k1, by rw [k2]; exact he⟩
theorem sp_at (h : RowO Bk Ob bz) (hB : BkO Bk F G bl) (hF : ∀ e, Bk e → F' e = F e ∧ G' e = G e) (hS : lbI (spQ F' G' Ob bz) Sp z (2 ^ bz - 1)) {k : Nat} (hk : k < z) : Sp k < 2 ^ bz ∧ Um Ob bz (Sp k) (Ob 0) ∧ spl Bk F G (Um Ob bz (Sp k)) := by
  have h1 := hS.1 k hk
  have h2 : Sp k < 2 ^ bz := by omega
  exact ⟨h2, (sp_iff h hB hF h2).mp h1.2⟩
theorem sp_uq (h : RowO Bk Ob bz) (hB : BkO Bk F G bl) (hF : ∀ e, Bk e → F' e = F e ∧ G' e = G e) (hS : lbI (spQ F' G' Ob bz) Sp z (2 ^ bz - 1)) {j k : Nat} (hj : j < z) (hk : k < z) (he : eqo Bk (Um Ob bz (Sp j)) (Um Ob bz (Sp k))) : j = k := by
  have hbz := h.2.2.1
  obtain ⟨j1, j2, _⟩ := sp_at h hB hF hS hj
  obtain ⟨k1, k2, _⟩ := sp_at h hB hF hS hk
  have b0 : Bk (Ob 0) := (h.1 _).mpr ⟨0, h.2.2.2, rfl⟩
  have he : eqB Bk (Um Ob bz (Sp j)) (Um Ob bz (Sp k)) := by
    rcases he with q | q
    · exact q
    · exact absurd k2 ((q _ b0).mp j2)
  have hb : nI (Sp j) = nI (Sp k) := b_iff (fun i => by
    constructor
    · intro q
      have hi := bt_lt j1 q
      exact (Um_at h hi).mp ((he _ ((h.1 _).mpr ⟨i, hi, rfl⟩)).mp ((Um_at h hi).mpr q))
    · intro q
      have hi := bt_lt k1 q
      exact (Um_at h hi).mp ((he _ ((h.1 _).mpr ⟨i, hi, rfl⟩)).mpr ((Um_at h hi).mpr q)))
  have hp := pow_le bz (by omega)
  have heq : Sp j = Sp k := (nI_eq (by omega) (by omega)).mp hb
  rcases Nat.lt_trichotomy j k with q | q | q
  · have := hS.2.1 j k q hk; omega
  · exact q
  · have := hS.2.1 k j q hj; omega
theorem D_iff (h : RowO Bk Ob bz) (hB : BkO Bk F G bl) (hF : ∀ e, Bk e → F' e = F e ∧ G' e = G e) (hS : lbI (spQ F' G' Ob bz) Sp z (2 ^ bz - 1)) (hD : gdO bz Sp D z z) {k : Nat} (hk : k < z) : D k = true ↔ gud Bk F G (Um Ob bz (Sp k)) := by
  obtain ⟨k1, k2, k3⟩ := sp_at h hB hF hS hk
  rw [hD k hk]
  constructor
  · intro hc
    refine ⟨k3, fun W hW hx => ?_⟩
    have key : ∀ V, spl Bk F G V → V (Ob 0) → crx Bk (Um Ob bz (Sp k)) V → False := fun V hV h0 hx => by
      obtain ⟨j, j1, j2⟩ := sp_find h hB hF hS hV h0
      obtain ⟨i1, i2, i3⟩ := sp_at h hB hF hS j1
      exact hc j j1 ((crs_iff h k1 i1).mpr (crx_s (crx_c j2.symm (crx_s hx))))
    by_cases c : W (Ob 0)
    · exact key W hW c hx
    · exact key (fun e => ¬ W e) (spl_n hW) c (crx_s (crx_n (crx_s hx)))
  · intro hg j hj hc
    obtain ⟨j1, j2, j3⟩ := sp_at h hB hF hS hj
    exact hg.2 _ j3 ((crs_iff h k1 j1).mp hc)
theorem gud_find (h : RowO Bk Ob bz) (hB : BkO Bk F G bl) (hF : ∀ e, Bk e → F' e = F e ∧ G' e = G e) (hS : lbI (spQ F' G' Ob bz) Sp z (2 ^ bz - 1)) (hD : gdO bz Sp D z z) {U : Nat → Prop} (hU : gud Bk F G U) : ∃ k, k < z ∧ D k = true ∧ eqo Bk (Um Ob bz (Sp k)) U := by
  by_cases c : U (Ob 0)
  · obtain ⟨k, k1, k2⟩ := sp_find h hB hF hS hU.1 c
    exact ⟨k, k1, (D_iff h hB hF hS hD k1).mpr (gud_c k2.symm hU), Or.inl k2⟩
  · obtain ⟨k, k1, k2⟩ := sp_find h hB hF hS (spl_n hU.1) c
    exact ⟨k, k1, (D_iff h hB hF hS hD k1).mpr (gud_c k2.symm (gud_n hU)), Or.inr k2⟩
theorem D_le (h : RowO Bk Ob bz) (hB : BkO Bk F G bl) (hF : ∀ e, Bk e → F' e = F e ∧ G' e = G e) (hS : lbI (spQ F' G' Ob bz) Sp z (2 ^ bz - 1)) (hD : gdO bz Sp D z z) : cn D z ≤ 14 := by
  have hbz := h.2.2.1
  refine Nat.le_trans (lam (Y := fun k i => ¬ bt (nI (Sp k)) i = true) (n := bz) (fun k hk _ => ?_) (fun j k hj hk dj dk => ?_) (fun j k hj hk dj dk hi => ?_)) hbz
  · obtain ⟨k1, k2, k3⟩ := sp_at h hB hF hS hk
    obtain ⟨e, f, ef, e1, f1, e2, f2⟩ := k3.2.1
    obtain ⟨i, i1, i2⟩ := (h.1 e).mp e1
    obtain ⟨l, l1, l2⟩ := (h.1 f).mp f1
    subst i2
    subst l2
    rw [Um_at h i1] at e2
    rw [Um_at h l1] at f2
    rcases Nat.lt_trichotomy i l with q | q | q
    · exact ⟨i, l, q, l1, e2, f2⟩
    · exact absurd (by rw [q]) ef
    · exact ⟨l, i, q, i1, f2, e2⟩
  · obtain ⟨j1, j2, j3⟩ := sp_at h hB hF hS hj
    obtain ⟨k1, k2, k3⟩ := sp_at h hB hF hS hk
    have hnc := ((D_iff h hB hF hS hD hj).mp dj).2 _ k3
    have ob : ∀ k, k < bz → Bk (Ob k) := fun k hk => (h.1 _).mpr ⟨k, hk, rfl⟩
    apply Classical.byContradiction
    intro hn
    have n1 : ¬ ∀ i, i < bz → ¬ bt (nI (Sp j)) i = true → ¬ bt (nI (Sp k)) i = true := fun q => hn (Or.inl q)
    have n2 : ¬ ∀ i, i < bz → ¬ bt (nI (Sp k)) i = true → ¬ bt (nI (Sp j)) i = true := fun q => hn (Or.inr (Or.inl q))
    have n3 : ¬ ∀ i, i < bz → ¬ bt (nI (Sp j)) i = true → ¬ ¬ bt (nI (Sp k)) i = true := fun q => hn (Or.inr (Or.inr q))
    apply hnc
    refine ⟨⟨Ob 0, ob 0 h.2.2.2, j2, k2⟩, ?_, ?_, ?_⟩
    · exact Classical.byContradiction (fun q => n2 (fun i hi a b => q ⟨Ob i, ob i hi, (Um_at h hi).mpr b, fun w => a ((Um_at h hi).mp w)⟩))
    · exact Classical.byContradiction (fun q => n1 (fun i hi a b => q ⟨Ob i, ob i hi, fun w => a ((Um_at h hi).mp w), (Um_at h hi).mpr b⟩))
    · exact Classical.byContradiction (fun q => n3 (fun i hi a b => q ⟨Ob i, ob i hi, fun w => a ((Um_at h hi).mp w), fun w => b ((Um_at h hi).mp w)⟩))
  · refine sp_uq h hB hF hS hj hk (Or.inl (fun e he => ?_))
    obtain ⟨i, i1, i2⟩ := (h.1 e).mp he
    subst i2
    rw [Um_at h i1, Um_at h i1]
    have := hi i i1
    exact ⟨fun q => Classical.byContradiction (fun w => (this.mpr w) q), fun q => Classical.byContradiction (fun w => (this.mp w) q)⟩
/-- as many good sets as good splits; the same arcs held together -/
theorem spl_main (h : RowO Bk Ob bz) (hB : BkO Bk F G bl) (h2 : B2 Bk F G) (hP : PCA Bk F G Pi Bo pc pa pb) (hF : ∀ e, Bk e → F' e = F e ∧ G' e = G e) (hg : fgI Pi Bo pc bl Gd gc pc) (hS : lbI (spQ F' G' Ob bz) Sp z (2 ^ bz - 1)) (hD : gdO bz Sp D z z) :
    gc = cn D z ∧ ∀ q1 q2, q1 < bz → q2 < bz → ((∀ k, k < gc → lb (Gd k) (Ob q1) = lb (Gd k) (Ob q2)) ↔ tgR Sp D z q1 q2) := by
  have hD14 := D_le h hB hF hS hD
  obtain ⟨g1, g2, g3, g4, g5, g6⟩ := hg
  have las : ∀ p m, p < pc → m < lasN (Bo p) (Bo (p + 1)) → m < Bo (p + 1) - Bo p := fun p m hp hm => las_le hm (hP.1 p hp).2.1
  -- no more good sets than good splits
  have hA : sm (okN Pi Bo pc bl) pc ≤ cn D z := by
    obtain ⟨e1, e2, a1, a2⟩ := sm_en (fun p m => okB Pi Bo pc bl (Pi (Bo p + m))) (fun p => lasN (Bo p) (Bo (p + 1))) pc
    have hx : ∀ i, i < sm (okN Pi Bo pc bl) pc → ∃ k, k < z ∧ D k = true ∧ eqo Bk (Um Ob bz (Sp k)) (fun e => lb (Pi (Bo (e1 i) + e2 i)) e = true) := fun i hi => by
      obtain ⟨b1, b2, b3⟩ := a1 i hi
      exact gud_find h hB hF hS hD ((ok_iff hB h2 hP b1 (las _ _ b1 b2)).mp b3)
    refine cn_inj z (sm (okN Pi Bo pc bl) pc) (fun i => if hi : i < sm (okN Pi Bo pc bl) pc then Classical.choose (hx i hi) else 0) (fun i hi => ?_) (fun i j hi hj hij => ?_)
    · simp only [dif_pos hi]
      have := Classical.choose_spec (hx i hi)
      exact ⟨this.1, this.2.1⟩
    · simp only [dif_pos hi, dif_pos hj] at hij
      have c1 := (Classical.choose_spec (hx i hi)).2.2
      have c2 := (Classical.choose_spec (hx j hj)).2.2
      rw [hij] at c1
      obtain ⟨b1, b2, b3⟩ := a1 i hi
      obtain ⟨d1, d2, d3⟩ := a1 j hj
      have := gud_inj hB h2 hP b1 b2 b3 d1 d2 d3 (c1.symm.trans c2)
      exact a2 i j hi hj this.1 this.2
  have hsm : sm (okN Pi Bo pc bl) pc ≤ 14 := by omega
  have hgc := g3 hsm
  -- each good split is one of the good sets
  have hC : ∀ k, k < z → D k = true → ∃ j, j < gc ∧ eqo Bk (fun e => lb (Gd j) e = true) (Um Ob bz (Sp k)) := fun k hk dk => by
    obtain ⟨p, m, p1, p2, p3, p4⟩ := gud_cov hB h2 hP ((D_iff h hB hF hS hD hk).mp dk)
    obtain ⟨j, j1, j2⟩ := g6 hsm p m p1 p2 p3
    exact ⟨j, j1, by rw [j2]; exact p4⟩
  have hE : cn D z ≤ gc := by
    have := cn_map (p := D) (fun k => if hk : k < z ∧ D k = true then Classical.choose (hC k hk.1 hk.2) else 0) gc z (fun _ => true) (fun k hk dk => by
      simp only [dif_pos (show k < z ∧ D k = true from ⟨hk, dk⟩)]
      exact ⟨(Classical.choose_spec (hC k hk dk)).1, trivial⟩) (fun j k hj hk dj dk hjk => by
      simp only [dif_pos (show k < z ∧ D k = true from ⟨hk, dk⟩), dif_pos (show j < z ∧ D j = true from ⟨hj, dj⟩)] at hjk
      have c1 := (Classical.choose_spec (hC j hj dj)).2
      have c2 := (Classical.choose_spec (hC k hk dk)).2
      rw [hjk] at c1
      exact sp_uq h hB hF hS hj hk (c1.symm.trans c2))
    exact Nat.le_trans this (cn_le _ _)
  refine ⟨by omega, fun q1 q2 h1 h3 => ?_⟩
  have b1 : Bk (Ob q1) := (h.1 _).mpr ⟨q1, h1, rfl⟩
  have b2 : Bk (Ob q2) := (h.1 _).mpr ⟨q2, h3, rfl⟩
  constructor
  · intro q k hk dk
    obtain ⟨j, j1, j2⟩ := hC k hk dk
    have := (eqo_ag j2 b1 b2).mp (by rw [q j j1])
    rw [Um_at h h1, Um_at h h3] at this
    exact Bool.eq_iff_iff.mpr this
  · intro q k hk
    obtain ⟨p, m, p1, p2, p3, p4⟩ := g5 k hk
    obtain ⟨j, j1, j2, j3⟩ := gud_find h hB hF hS hD ((ok_iff hB h2 hP p1 (las _ _ p1 p2)).mp p3)
    have := (eqo_ag j3 b1 b2).mp (by rw [Um_at h h1, Um_at h h3, q j j1 j2])
    rw [p4]
    exact Bool.eq_iff_iff.mpr this
end UM
