/-! ===== 73.need: twins' counts; what new arcs mend ===== -/
noncomputable def ldR (R : Nat → Nat → Prop) (k : Nat) : Bool := dc (∀ j, j < k → ¬ R k j)
noncomputable def cO (T : Nat → Bool) (F G : Nat → Nat) (S : Nat → Prop) : Nat := cn (fun e => T e && dc (¬ (S (F e) ↔ S (G e)))) 41
noncomputable def needA (R : Nat → Nat → Prop) (c : (Nat → Prop) → Nat) (n : Nat) : Nat := if cn (ldR R) n < 2 then 0 else (sm (fun k => if ldR R k = true then 2 - c (R k) else 0) n + 1) / 2
theorem sm_skip {f : Nat → Nat} {m : Nat} : ∀ {l : Nat}, m ≤ l → (∀ b, m ≤ b → b < l → f b = 0) → sm f l = sm f m
  | 0, h, _ => by rw [Nat.le_zero.mp h]
  | l + 1, h, hb => by
    by_cases e : m = l + 1
    · subst e; rfl
    · simp only [sm]
      rw [sm_skip (l := l) (by omega) (fun b h1 h2 => hb b h1 (by omega)), hb l (by omega) (by omega)]; rfl
theorem sm_cg {f g : Nat → Nat} : ∀ {n : Nat}, (∀ i, i < n → f i = g i) → sm f n = sm g n
  | 0, _ => rfl
  | n + 1, h => by simp only [sm]; rw [sm_cg (n := n) (fun i hi => h i (by omega)), h n (by omega)]
theorem ski_lead {T : Nat → Bool} {F G : Nat → Nat} {n : Nat} {N Fm : Nat → Int32} {A S : Nat → Int64} {z : Nat} {al : Int32} {br : Int64} (h : SKI T F G n N Fm A S z al br) {k : Nat} (hk : k < n) : lead Fm al k = ldR (twA T F G) k := by
  apply dc_c
  constructor
  · rintro ⟨_, q⟩ j hj hr
    exact q j hj ((h.2.1 j).mpr ⟨by omega, fun z => z⟩) ((ski_twin h j k).mpr (twA_symm hr))
  · intro q
    exact ⟨(h.2.1 k).mpr ⟨hk, fun z => z⟩, fun j hj _ hr => q j hj (twA_symm ((ski_twin h j k).mp hr))⟩
theorem ski_lead_f {T : Nat → Bool} {F G : Nat → Nat} {n : Nat} {N Fm : Nat → Int32} {A S : Nat → Int64} {z : Nat} {al : Int32} {br : Int64} (h : SKI T F G n N Fm A S z al br) {k : Nat} (hk : n ≤ k) : lead Fm al k = false := dc_f.mpr (fun q => by have := ((h.2.1 k).mp q.1).1; omega)
theorem ski_twins {T : Nat → Bool} {F G : Nat → Nat} {n : Nat} {N Fm : Nat → Int32} {A S : Nat → Int64} {z : Nat} {al : Int32} {br : Int64} (h : SKI T F G n N Fm A S z al br) : cn (lead Fm al) 14 = cn (ldR (twA T F G)) n := by
  rw [cn_skip h.1.1 (fun b hb _ => ski_lead_f h hb)]
  exact cn_congr (fun k hk => ski_lead h hk)
theorem twA_lt {T : Nat → Bool} {F G : Nat → Nat} {n a x : Nat} (hG : GOK T F G n) (ha : a < n) (h : twA T F G a x) : x < n := h.1 (fun y => y < n) ha (fun _ _ _ hab => (hG.ad hab).2.1)
theorem ski_dg {T : Nat → Bool} {F G : Nat → Nat} {n : Nat} {N Fm : Nat → Int32} {A S : Nat → Int64} {z : Nat} {al : Int32} {br : Int64} (h : SKI T F G n N Fm A S z al br) {a : Nat} (ha : a < n) : dgT Fm al A br a = cO T F G (twA T F G a) := by
  have hn := h.1.1
  have hb := br_iff h
  unfold dgT cO
  rw [cn_skip (m := 41) (by omega) (fun e he _ => dc_f.mpr (fun q => by have := ((hb e).mp q.1).1; omega))]
  refine cn_congr (fun e he => ?_)
  rw [Bool.eq_iff_iff, Bool.and_eq_true, dc_t, dc_t]
  constructor
  · rintro ⟨q1, x, x1, x2, x3⟩
    have q := (hb e).mp q1
    refine ⟨q.2.1, fun hi => ?_⟩
    have hx := (ski_twin h a x).mp x2
    have he2 := ((h.2.2.2.1 x e x1).mp x3).2.2
    have both : twA T F G a (F e) ∧ twA T F G a (G e) := by
      rcases he2 with w | w
      · rw [w]; exact ⟨hx, hi.mp (by rw [w]; exact hx)⟩
      · rw [w]; exact ⟨hi.mpr (by rw [w]; exact hx), hx⟩
    exact q.2.2 ((twA_trans (twA_symm both.1) both.2).2 e he q.2.1)
  · rintro ⟨q1, q2⟩
    have hbr : brG T F G e := by
      apply Classical.byContradiction
      intro w
      have : twA T F G (F e) (G e) := (tw_nb hb).mp (Rc.one ⟨e, he, by show (T e && !lb br e) = true; rw [q1, Bool.true_and, Bool.not_eq_true', Bool.eq_false_iff]; exact fun y => w ((hb e).mp y), ends_self F G e⟩)
      exact q2 ⟨fun y => twA_trans y this, fun y => twA_trans y (twA_symm this)⟩
    refine ⟨(hb e).mpr hbr, ?_⟩
    have hFG := h.1.2 e he q1
    by_cases w : twA T F G a (F e)
    · exact ⟨F e, by omega, (ski_twin h a (F e)).mpr w, (h.2.2.2.1 (F e) e (by omega)).mpr ⟨he, q1, Or.inl rfl⟩⟩
    · have w2 : twA T F G a (G e) := Classical.byContradiction (fun y => q2 ⟨fun v => absurd v w, fun v => absurd v y⟩)
      exact ⟨G e, by omega, (ski_twin h a (G e)).mpr w2, (h.2.2.2.1 (G e) e (by omega)).mpr ⟨he, q1, Or.inr rfl⟩⟩
theorem ski_need {T : Nat → Bool} {F G : Nat → Nat} {n : Nat} {N Fm : Nat → Int32} {A S : Nat → Int64} {z : Nat} {al : Int32} {br : Int64} (h : SKI T F G n N Fm A S z al br) : need Fm al A br = needA (twA T F G) (cO T F G) n := by
  unfold need needA
  rw [ski_twins h]
  by_cases q : cn (ldR (twA T F G)) n < 2
  · rw [if_pos q, if_neg (by omega)]
  · rw [if_neg q, if_pos (by omega), sm_skip h.1.1 (fun b hb _ => by unfold wnt; rw [if_neg (by rw [ski_lead_f h hb]; exact Bool.false_ne_true)])]
    rw [sm_cg (g := fun k => if ldR (twA T F G) k = true then 2 - cO T F G (twA T F G k) else 0) (fun k hk => by
      unfold wnt
      rw [ski_lead h hk, ski_dg h hk])]
/-- the reference, with one arc more or none -/
def Tm (ar mo : Nat) (P : Nat → Bool) (e : Nat) : Bool := decide (e < ar + mo) && (decide (e = ar) || P e)
theorem Tm_iff {ar mo : Nat} {P : Nat → Bool} {e : Nat} : Tm ar mo P e = true ↔ (e < ar + mo ∧ (e = ar ∨ P e = true)) := by
  unfold Tm
  rw [Bool.and_eq_true, Bool.or_eq_true, decide_eq_true_eq, decide_eq_true_eq]
theorem lkm_0 {ar mo : Nat} {P : Nat → Bool} {F G : Nat → Nat} : ad (lkT ar mo P (-1) (-1) (nI 0) F G) F G = ad (Tm ar mo P) F G := by
  funext a b
  apply propext
  constructor
  · rintro ⟨e, e1, e2, e3⟩
    have q := lk_iff.mp e2
    exact ⟨e, e1, Tm_iff.mpr ⟨q.1, q.2.1⟩, e3⟩
  · rintro ⟨e, e1, e2, e3⟩
    have q := Tm_iff.mp e2
    exact ⟨e, e1, lk_t q.1 q.2 (Bool.eq_false_iff.mpr (b_nI0 _)) (Bool.eq_false_iff.mpr (b_nI0 _)) (nI_nm1 e1) (nI_nm1 e1), e3⟩
theorem lkm_e {ar mo x : Nat} {P : Nat → Bool} {F G : Nat → Nat} (hx : x < 41) : ad (lkT ar mo P (nI x) (-1) (nI 0) F G) F G = gL (Tm ar mo P) F G x := by
  funext a b
  apply propext
  constructor
  · rintro ⟨e, e1, e2, e3⟩
    have q := lk_iff.mp e2
    exact ⟨e, e1, Tm_iff.mpr ⟨q.1, q.2.1⟩, fun z => q.2.2.2.2.1 (by rw [z]), e3⟩
  · rintro ⟨e, e1, e2, e4, e3⟩
    have q := Tm_iff.mp e2
    exact ⟨e, e1, lk_t q.1 q.2 (Bool.eq_false_iff.mpr (b_nI0 _)) (Bool.eq_false_iff.mpr (b_nI0 _)) (fun z => e4 ((nI_eq (by omega) (by omega)).mp z)) (nI_nm1 e1), e3⟩
theorem tw_m {ar mo nd : Nat} {P : Nat → Bool} {F G : Nat → Nat} {W : Nat → Int32} (hm : ar + mo ≤ 41) (h : twI ar mo nd P F G W (ar + mo)) {n : Nat} (hn : n < nd) (y : Nat) : bt (W n) y = true ↔ twA (Tm ar mo P) F G n y := by
  rw [h n hn y, lkm_0]
  unfold twA
  refine and_congr Iff.rfl ?_
  constructor
  · intro q e he hT
    have t := Tm_iff.mp hT
    rw [← lkm_e he]; exact q e t.1 t.2
  · intro q e he hp
    rw [lkm_e (by omega)]; exact q e (by omega) (Tm_iff.mpr ⟨he, hp⟩)
theorem tw_ld {ar mo nd : Nat} {P : Nat → Bool} {F G : Nat → Nat} {W : Nat → Int32} (hm : ar + mo ≤ 41) (hnd : nd ≤ 14) (h : twI ar mo nd P F G W (ar + mo)) {k : Nat} (hk : k < nd) : lsn (bt (W k)) 16 = k ↔ ldR (twA (Tm ar mo P) F G) k = true := by
  unfold ldR
  rw [dc_t]
  constructor
  · intro q j hj hr
    have := (lsn_spec (bt (W k)) 16).2.1 j (by omega)
    rw [(tw_m hm h hk j).mpr hr] at this; cases this
  · intro q
    refine (lsn_uniq (by omega) (fun j hj => ?_) (fun _ => (tw_m hm h hk k).mpr (twA_rf _ _ _ _))).symm
    rw [Bool.eq_false_iff]
    exact fun z => q j hj ((tw_m hm h hk j).mp z)
theorem tw_cn {ar mo nd : Nat} {P : Nat → Bool} {F G : Nat → Nat} {W : Nat → Int32} (hm : ar + mo ≤ 41) (hnd : nd ≤ 14) (h : twI ar mo nd P F G W (ar + mo)) : cn (fun k => decide (lsn (bt (W k)) 16 = k)) nd = cn (ldR (twA (Tm ar mo P) F G)) nd :=
  cn_congr (fun k hk => by rw [Bool.eq_iff_iff, decide_eq_true_eq]; exact tw_ld hm hnd h hk)
theorem tw_ou {ar mo nd : Nat} {P : Nat → Bool} {F G : Nat → Nat} {W : Nat → Int32} (hm : ar + mo ≤ 41) (h : twI ar mo nd P F G W (ar + mo)) {k : Nat} (hk : k < nd) : cn (ouB ar P F G (W k)) (ar + mo) = cO (Tm ar mo P) F G (twA (Tm ar mo P) F G k) := by
  unfold cO
  rw [cn_skip (m := ar + mo) (l := 41) hm (fun e he _ => by unfold Tm; rw [decide_eq_false (by omega)]; rfl)]
  refine cn_congr (fun e he => ?_)
  have hT : Tm ar mo P e = (decide (e = ar) || P e) := by unfold Tm; rw [decide_eq_true he, Bool.true_and]
  unfold ouB
  rw [hT, Bool.eq_iff_iff, Bool.and_eq_true, Bool.and_eq_true, dc_t, bne_iff_ne, ← tw_m hm h hk, ← tw_m hm h hk]
  refine and_congr Iff.rfl ?_
  cases bt (W k) (F e) <;> cases bt (W k) (G e) <;> simp
theorem ne_m {ar mo nd v : Nat} {P : Nat → Bool} {F G : Nat → Nat} (hm : ar + mo ≤ 41) (hnd : nd ≤ 14) (h : neM ar mo nd P F G v) : v = needA (twA (Tm ar mo P) F G) (cO (Tm ar mo P) F G) nd := by
  obtain ⟨W, h, e⟩ := h
  rw [e]
  unfold ndM needA
  rw [tw_cn hm hnd h, sm_cg (g := fun k => if ldR (twA (Tm ar mo P) F G) k = true then 2 - cO (Tm ar mo P) F G (twA (Tm ar mo P) F G k) else 0) (fun k hk => by
    unfold lkW
    rw [tw_ou hm h hk]
    by_cases q : lsn (bt (W k)) 16 = k
    · rw [if_pos q, if_pos ((tw_ld hm hnd h hk).mp q)]
    · rw [if_neg q, if_neg (fun z => q ((tw_ld hm hnd h hk).mpr z))])]
/-- one graph, its arcs numbered otherwise -/
def ISO (T : Nat → Bool) (F G : Nat → Nat) (T' : Nat → Bool) (F' G' : Nat → Nat) (sg tu : Nat → Nat) : Prop := ∀ e, e < 41 → T e = true → sg e < 41 ∧ T' (sg e) = true ∧ F' (sg e) = F e ∧ G' (sg e) = G e ∧ tu (sg e) = e
theorem iso_ad {T : Nat → Bool} {F G : Nat → Nat} {T' : Nat → Bool} {F' G' : Nat → Nat} {sg tu : Nat → Nat} (h : ISO T F G T' F' G' sg tu) {a b : Nat} (k : ad T F G a b) : ad T' F' G' a b := by
  obtain ⟨e, e1, e2, e3⟩ := k
  obtain ⟨q1, q2, q3, q4, _⟩ := h e e1 e2
  exact ⟨sg e, q1, q2, by unfold ends; rw [q3, q4]; exact e3⟩
theorem iso_gL {T : Nat → Bool} {F G : Nat → Nat} {T' : Nat → Bool} {F' G' : Nat → Nat} {sg tu : Nat → Nat} (h : ISO T F G T' F' G' sg tu) {x a b : Nat} (k : gL T F G (tu x) a b) : gL T' F' G' x a b := by
  obtain ⟨e, e1, e2, e4, e3⟩ := k
  obtain ⟨q1, q2, q3, q4, q5⟩ := h e e1 e2
  exact ⟨sg e, q1, q2, fun z => e4 (by rw [← z, q5]), by unfold ends; rw [q3, q4]; exact e3⟩
theorem iso_tw {T : Nat → Bool} {F G : Nat → Nat} {T' : Nat → Bool} {F' G' : Nat → Nat} {sg tu : Nat → Nat} (h : ISO T F G T' F' G' sg tu) (h' : ISO T' F' G' T F G tu sg) {x y : Nat} (k : twA T F G x y) : twA T' F' G' x y := by
  refine ⟨k.1.mono (fun a b => iso_ad h), fun e he hT => ?_⟩
  obtain ⟨q1, q2, _⟩ := h' e he hT
  exact (k.2 (tu e) q1 q2).mono (fun a b => iso_gL h)
theorem iso_c {T : Nat → Bool} {F G : Nat → Nat} {T' : Nat → Bool} {F' G' : Nat → Nat} {sg tu : Nat → Nat} (h : ISO T F G T' F' G' sg tu) (S : Nat → Prop) : cO T F G S ≤ cO T' F' G' S := by
  refine cn_map sg 41 41 _ (fun e he hp => ?_) (fun e f he hf hpe hpf q => ?_)
  · have hp := (Bool.and_eq_true _ _).mp hp
    obtain ⟨q1, q2, q3, q4, q5⟩ := h e he hp.1
    refine ⟨q1, ?_⟩
    rw [q2, q3, q4]; exact hp.2
  · have r1 := (h e he ((Bool.and_eq_true _ _).mp hpe).1).2.2.2.2
    have r2 := (h f hf ((Bool.and_eq_true _ _).mp hpf).1).2.2.2.2
    rw [← r1, ← r2, q]
theorem iso_need {T : Nat → Bool} {F G : Nat → Nat} {T' : Nat → Bool} {F' G' : Nat → Nat} {sg tu : Nat → Nat} (h : ISO T F G T' F' G' sg tu) (h' : ISO T' F' G' T F G tu sg) (n : Nat) : twA T F G = twA T' F' G' ∧ needA (twA T F G) (cO T F G) n = needA (twA T' F' G') (cO T' F' G') n := by
  have e1 : twA T F G = twA T' F' G' := by
    funext x y
    exact propext ⟨iso_tw h h', iso_tw h' h⟩
  have e2 : cO T F G = cO T' F' G' := by
    funext S
    exact Nat.le_antisymm (iso_c h S) (iso_c h' S)
  rw [e1, e2]; exact ⟨rfl, rfl⟩
theorem LK_iso {F G : Nat → Nat} {pr : Int64} {F' G' : Nat → Nat} {P : Nat → Bool} {ar : Nat} (h : LK F G pr F' G' P ar) : ISO (lb pr) F G (Tm ar 0 P) F' G' id id ∧ ISO (Tm ar 0 P) F' G' (lb pr) F G id id := by
  obtain ⟨h1, h2, h3⟩ := h
  refine ⟨fun e he hT => ?_, fun e he hT => ?_⟩
  · have q := h1 e hT
    obtain ⟨r1, r2, r3⟩ := h3 e q
    exact ⟨he, Tm_iff.mpr ⟨by simpa using q, Or.inr (by simp only [id]; rw [r3]; exact hT)⟩, r1, r2, rfl⟩
  · obtain ⟨q1, q2⟩ := Tm_iff.mp hT
    have q : e < ar := by omega
    obtain ⟨r1, r2, r3⟩ := h3 e q
    exact ⟨he, by simp only [id]; rw [← r3]; exact q2.resolve_left (by omega), r1.symm, r2.symm, rfl⟩
theorem l_c40 : ∀ i, i < 64 → lb (1099511627776 : Int64) i = decide (i = 40) := by decide +kernel
theorem LK_iso1 {F G : Nat → Nat} {pr : Int64} {F' G' : Nat → Nat} {P : Nat → Bool} {ar a b : Nat} (h : LK F G pr F' G' P ar) : ISO (lb (pr ||| (1099511627776 : Int64))) (va_up F 40 a) (va_up G 40 b) (Tm ar 1 P) (va_up F' ar a) (va_up G' ar b) (fun e => if e = 40 then ar else e) (fun e => if e = ar then 40 else e) ∧ ISO (Tm ar 1 P) (va_up F' ar a) (va_up G' ar b) (lb (pr ||| (1099511627776 : Int64))) (va_up F 40 a) (va_up G 40 b) (fun e => if e = ar then 40 else e) (fun e => if e = 40 then ar else e) := by
  obtain ⟨h1, h2, h3⟩ := h
  refine ⟨fun e he hT => ?_, fun e he hT => ?_⟩
  · by_cases q : e = 40
    · subst q
      simp only [eq_self, if_true, va_up_s]
      exact ⟨by omega, Tm_iff.mpr ⟨by omega, Or.inl rfl⟩, trivial, trivial, trivial⟩
    · rw [l_or, l_c40 e (by omega), decide_eq_false q, Bool.or_false] at hT
      have z := h1 e hT
      obtain ⟨r1, r2, r3⟩ := h3 e z
      have hne : e ≠ ar := by omega
      simp only [if_neg q, if_neg hne]
      rw [va_up_o _ hne, va_up_o _ hne, va_up_o _ q, va_up_o _ q]
      exact ⟨he, Tm_iff.mpr ⟨by omega, Or.inr (by rw [r3]; exact hT)⟩, r1, r2, trivial⟩
  · obtain ⟨q1, q2⟩ := Tm_iff.mp hT
    by_cases q : e = ar
    · subst q
      simp only [eq_self, if_true, va_up_s]
      exact ⟨by omega, by rw [l_or, l_c40 40 (by omega)]; simp, trivial, trivial, trivial⟩
    · have hne : e ≠ 40 := by omega
      obtain ⟨r1, r2, r3⟩ := h3 e (by omega)
      simp only [if_neg q, if_neg hne]
      rw [va_up_o _ hne, va_up_o _ hne, va_up_o _ q, va_up_o _ q]
      exact ⟨he, by rw [l_or, ← r3, q2.resolve_left q]; rfl, r1.symm, r2.symm, trivial⟩
theorem need_eq {F G : Nat → Nat} {pr : Int64} {F' G' : Nat → Nat} {P : Nat → Bool} {ar n v : Nat} {N Fm : Nat → Int32} {A S : Nat → Int64} {z : Nat} {al : Int32} {br : Int64} (hL : LK F G pr F' G' P ar) (h : SKI (lb pr) F G n N Fm A S z al br) (hv : neM ar 0 n P F' G' v) : need Fm al A br = v := by
  have := hL.2.1
  rw [ski_need h, ne_m (by omega) h.1.1 hv, (iso_need (LK_iso hL).1 (LK_iso hL).2 n).2]
theorem mend_eq {F G : Nat → Nat} {pr : Int64} {F' G' : Nat → Nat} {P : Nat → Bool} {ar n v a b : Nat} {N Fm : Nat → Int32} {A S : Nat → Int64} {z : Nat} {al : Int32} {br : Int64} (hL : LK F G pr F' G' P ar) (h : SKI (lb (pr ||| (1099511627776 : Int64))) (va_up F 40 a) (va_up G 40 b) n N Fm A S z al br) (hv : neM ar 1 n P (va_up F' ar a) (va_up G' ar b) v) : need Fm al A br = v := by
  have := hL.2.1
  rw [ski_need h, ne_m (by omega) h.1.1 hv, (iso_need (LK_iso1 hL).1 (LK_iso1 hL).2 n).2]
theorem twc_eq {F G : Nat → Nat} {pr : Int64} {F' G' : Nat → Nat} {P : Nat → Bool} {ar n : Nat} {N Fm : Nat → Int32} {A S : Nat → Int64} {z : Nat} {al : Int32} {br : Int64} {W : Nat → Int32} (hL : LK F G pr F' G' P ar) (h : SKI (lb pr) F G n N Fm A S z al br) (hv : twI ar 0 n P F' G' W (ar + 0)) : cn (lead Fm al) 14 = cn (fun k => decide (lsn (bt (W k)) 16 = k)) n := by
  have := hL.2.1
  rw [ski_twins h, tw_cn (by omega) h.1.1 hv, (iso_need (LK_iso hL).1 (LK_iso hL).2 n).1]
theorem twin_eq {F G : Nat → Nat} {pr : Int64} {F' G' : Nat → Nat} {P : Nat → Bool} {ar n : Nat} {N Fm : Nat → Int32} {A S : Nat → Int64} {z : Nat} {al : Int32} {br : Int64} {W : Nat → Int32} (hL : LK F G pr F' G' P ar) (h : SKI (lb pr) F G n N Fm A S z al br) (hv : twI ar 0 n P F' G' W (ar + 0)) {x : Nat} (hx : x < n) {pt : Int32} (hp : SpR Fm x al pt) : lsn (bt pt) 32 = lsn (bt (W x)) 16 := by
  have := hL.2.1
  have hn := h.1.1
  have e : pt = W x := b_iff (fun y => by
    rw [hp y, ski_twin h, tw_m (by omega) hv hx, (iso_need (LK_iso hL).1 (LK_iso hL).2 n).1])
  rw [e]
  exact lsn_16 ⟨x, by omega, (tw_m (by omega) hv hx x).mpr (twA_rf _ _ _ _)⟩ (by omega)
