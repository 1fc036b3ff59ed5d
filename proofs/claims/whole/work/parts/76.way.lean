/-! ===== 76.way: the first directions ===== -/
def PT (F G : Nat → Nat) (pr op : Int64) (pt : Int32) : Prop := (∀ k, lb op k = true ↔ (k < 41 ∧ lb pr k = true ∧ bt pt (F k) = true)) ∧ (∀ a b, bt pt a = true → ad (lb pr) F G a b → bt pt b = true) ∧ ∀ a b, bt pt a = true → bt pt b = true → Rc (ad (lb pr) F G) a b
def stD (op : Int64) (F G d : Nat → Nat) (D : Nat → Prop) (a b : Nat) : Prop := ∃ k, lb op k = true ∧ ¬ D k ∧ ((d k ≠ 2 ∧ F k = a ∧ G k = b) ∨ (d k ≠ 1 ∧ G k = a ∧ F k = b))
def SG (op : Int64) (F G d : Nat → Nat) (pt : Int32) : Prop := ∀ a b, bt pt a = true → bt pt b = true → Rc (stD op F G d (fun _ => False)) a b
def tdU (Td : Nat → Nat) (e k : Nat) : Nat := if k < e then Td k else 0
theorem PT.mem {F G : Nat → Nat} {pr op : Int64} {pt : Int32} (h : PT F G pr op pt) {k : Nat} (hk : lb op k = true) : bt pt (F k) = true ∧ bt pt (G k) = true := by
  have q := (h.1 k).mp hk
  exact ⟨q.2.2, h.2.1 _ _ q.2.2 ⟨k, q.1, q.2.1, ends_self F G k⟩⟩
theorem PT.arc {F G : Nat → Nat} {pr op : Int64} {pt : Int32} (h : PT F G pr op pt) {k a b : Nat} (h1 : k < 41) (h2 : lb pr k = true) (hx : ends F G k a b) (ha : bt pt a = true) : lb op k = true := by
  refine (h.1 k).mpr ⟨h1, h2, ?_⟩
  rcases hx with ⟨p, q⟩ | ⟨p, q⟩
  · rw [p]; exact ha
  · rw [q]; exact h.2.1 a b ha ⟨k, h1, h2, Or.inr ⟨p, q⟩⟩
theorem stD_c {op : Int64} {F G d d' : Nat → Nat} {D : Nat → Prop} (h : ∀ k, lb op k = true → d k = d' k) : stD op F G d D = stD op F G d' D := by
  funext a b
  apply propext
  constructor
  · rintro ⟨k, k1, k2, k3⟩; exact ⟨k, k1, k2, by rw [← h k k1]; exact k3⟩
  · rintro ⟨k, k1, k2, k3⟩; exact ⟨k, k1, k2, by rw [h k k1]; exact k3⟩
theorem SG_c {op : Int64} {F G d d' : Nat → Nat} {pt : Int32} (h : ∀ k, lb op k = true → d k = d' k) (k : SG op F G d pt) : SG op F G d' pt := by
  unfold SG at k ⊢
  rw [← stD_c h]; exact k
theorem SG_0 {F G : Nat → Nat} {pr op : Int64} {pt : Int32} (h : PT F G pr op pt) {d : Nat → Nat} (hd : ∀ k, d k = 0) : SG op F G d pt := fun a b ha hb =>
  (h.2.2 a b ha hb (fun v => bt pt v = true ∧ Rc (stD op F G d (fun _ => False)) a v) ⟨ha, Rc.rf _ _⟩ (fun v w hv hs => by
    refine ⟨h.2.1 v w hv.1 hs, ?_⟩
    obtain ⟨k, k1, k2, k3⟩ := hs
    have ho := h.arc k1 k2 k3 hv.1
    refine hv.2.step ⟨k, ho, fun q => q, ?_⟩
    rcases k3 with ⟨p, q⟩ | ⟨p, q⟩
    · exact Or.inl ⟨by rw [hd]; decide, p, q⟩
    · exact Or.inr ⟨by rw [hd]; decide, p, q⟩)).2
/-- an arc that is not needed one way may be told the other way -/
theorem SG_tell {op : Int64} {F G d d' : Nat → Nat} {pt : Int32} {e u v : Nat} (h : SG op F G d pt) (hd : ∀ k, k ≠ e → d' k = d k) (hx : ends F G e u v) (hd2 : (d' e = 1 ∧ F e = u ∧ G e = v) ∨ (d' e = 2 ∧ G e = u ∧ F e = v)) (hr : Rc (stD op F G d (fun k => k = e)) v u) : SG op F G d' pt := by
  intro a b ha hb
  have hr' : Rc (stD op F G d' (fun _ => False)) v u := hr.mono (fun x y ⟨k, k1, k2, k3⟩ => ⟨k, k1, fun q => q, by rw [hd k k2]; exact k3⟩)
  refine h a b ha hb (fun w => Rc (stD op F G d' (fun _ => False)) a w) (Rc.rf _ _) (fun x y hxx hs => ?_)
  obtain ⟨k, k1, _, k3⟩ := hs
  by_cases q : k = e
  · subst q
    have hself : stD op F G d' (fun _ => False) u v := by
      rcases hd2 with ⟨z1, z2, z3⟩ | ⟨z1, z2, z3⟩
      · exact ⟨k, k1, fun q => q, Or.inl ⟨by rw [z1]; decide, z2, z3⟩⟩
      · exact ⟨k, k1, fun q => q, Or.inr ⟨by rw [z1]; decide, z2, z3⟩⟩
    have : (x = u ∧ y = v) ∨ (x = v ∧ y = u) := by
      rcases k3 with ⟨_, p, q⟩ | ⟨_, p, q⟩ <;> rcases hx with ⟨r, s⟩ | ⟨r, s⟩
      · exact Or.inl ⟨p.symm.trans r, q.symm.trans s⟩
      · exact Or.inr ⟨p.symm.trans s, q.symm.trans r⟩
      · exact Or.inr ⟨p.symm.trans s, q.symm.trans r⟩
      · exact Or.inl ⟨p.symm.trans r, q.symm.trans s⟩
    rcases this with ⟨z1, z2⟩ | ⟨z1, z2⟩
    · rw [z1] at hxx; rw [z2]; exact hxx.step hself
    · rw [z1] at hxx; rw [z2]; exact hxx.trans hr'
  · exact hxx.step ⟨k, k1, fun z => z, by rw [hd k q]; exact k3⟩
theorem SG_back {op : Int64} {F G d d' : Nat → Nat} {pt : Int32} {e : Nat} (h : SG op F G d' pt) (hd : ∀ k, k ≠ e → d' k = d k) (he : d' e = 1) (h1 : bt pt (F e) = true) (h2 : bt pt (G e) = true) : Rc (stD op F G d (fun k => k = e)) (G e) (F e) := by
  apply Classical.byContradiction
  intro hn
  refine hn (h (G e) (F e) h2 h1 (fun w => Rc (stD op F G d (fun k => k = e)) (G e) w) (Rc.rf _ _) (fun x y hxx hs => ?_))
  obtain ⟨k, k1, _, k3⟩ := hs
  by_cases q : k = e
  · subst q
    rcases k3 with ⟨_, p, _⟩ | ⟨z, _, _⟩
    · rw [← p] at hxx; exact absurd hxx hn
    · exact absurd he z
  · exact hxx.step ⟨k, k1, q, by rw [← hd k q]; exact k3⟩
/-- one of the two ways holds, if the arc is no bridge -/
theorem SG_one {F G : Nat → Nat} {pr op : Int64} {pt : Int32} {d : Nat → Nat} {e : Nat} (hp : PT F G pr op pt) (h : SG op F G d pt) (he : lb op e = true) (hb : Rc (gL (lb pr) F G e) (F e) (G e)) (hn : ¬ Rc (stD op F G d (fun k => k = e)) (G e) (F e)) : Rc (stD op F G d (fun k => k = e)) (F e) (G e) := by
  apply Classical.byContradiction
  intro hm
  obtain ⟨pF, pG⟩ := hp.mem he
  have hk : ∀ x y k, lb op k = true → ((d k ≠ 2 ∧ F k = x ∧ G k = y) ∨ (d k ≠ 1 ∧ G k = x ∧ F k = y)) → k = e → (x = F e ∨ x = G e) ∧ (y = F e ∨ y = G e) := by
    intro x y k _ k3 q
    subst q
    rcases k3 with ⟨_, p, q⟩ | ⟨_, p, q⟩
    · exact ⟨Or.inl p.symm, Or.inr q.symm⟩
    · exact ⟨Or.inr p.symm, Or.inl q.symm⟩
  have all : ∀ v, bt pt v = true → Rc (stD op F G d (fun k => k = e)) (F e) v ∨ Rc (stD op F G d (fun k => k = e)) (G e) v := by
    intro v hv
    refine h (F e) v pF hv (fun v => Rc (stD op F G d (fun k => k = e)) (F e) v ∨ Rc (stD op F G d (fun k => k = e)) (G e) v) (Or.inl (Rc.rf _ _)) (fun x y hx hs => ?_)
    obtain ⟨k, k1, _, k3⟩ := hs
    by_cases q : k = e
    · rcases (hk x y k k1 k3 q).2 with z | z
      · rw [z]; exact Or.inl (Rc.rf _ _)
      · rw [z]; exact Or.inr (Rc.rf _ _)
    · exact hx.imp (fun z => z.step ⟨k, k1, q, k3⟩) (fun z => z.step ⟨k, k1, q, k3⟩)
  have dis : ∀ v, bt pt v = true → Rc (stD op F G d (fun k => k = e)) (F e) v → Rc (stD op F G d (fun k => k = e)) (G e) v → False := by
    intro v hv h1 h2
    have : Rc (stD op F G d (fun k => k = e)) v (F e) ∨ Rc (stD op F G d (fun k => k = e)) v (G e) := by
      apply Classical.byContradiction
      intro z
      have := h v (F e) hv pF (fun w => Rc (stD op F G d (fun k => k = e)) v w) (Rc.rf _ _) (fun x y hx hs => by
        obtain ⟨k, k1, _, k3⟩ := hs
        by_cases q : k = e
        · exfalso
          rcases (hk x y k k1 k3 q).1 with w | w
          · rw [w] at hx; exact z (Or.inl hx)
          · rw [w] at hx; exact z (Or.inr hx)
        · exact hx.step ⟨k, k1, q, k3⟩)
      exact z (Or.inl this)
    rcases this with z | z
    · exact hn (h2.trans z)
    · exact hm (h1.trans z)
  have key := hb (fun v => bt pt v = true ∧ Rc (stD op F G d (fun k => k = e)) (F e) v) ⟨pF, Rc.rf _ _⟩ (fun v w hv hs => by
    obtain ⟨k, k1, k2, k4, k3⟩ := hs
    have ho := hp.arc k1 k2 k3 hv.1
    have hw : bt pt w = true := hp.2.1 v w hv.1 ⟨k, k1, k2, k3⟩
    refine ⟨hw, ?_⟩
    apply Classical.byContradiction
    intro hwn
    have hB := (all w hw).resolve_left hwn
    rcases k3 with ⟨p, q⟩ | ⟨p, q⟩
    · by_cases z : d k = 2
      · exact dis v hv.1 hv.2 (hB.step ⟨k, ho, k4, Or.inr ⟨by rw [z]; decide, q, p⟩⟩)
      · exact hwn (hv.2.step ⟨k, ho, k4, Or.inl ⟨z, p, q⟩⟩)
    · by_cases z : d k = 1
      · exact dis v hv.1 hv.2 (hB.step ⟨k, ho, k4, Or.inl ⟨by rw [z]; decide, q, p⟩⟩)
      · exact hwn (hv.2.step ⟨k, ho, k4, Or.inr ⟨z, p, q⟩⟩))
  exact hm key.2
/-- the reference's question -/
theorem wyG_SG {F G : Nat → Nat} {pr op : Int64} {pt : Int32} {F' G' : Nat → Nat} {P : Nat → Bool} {ar e : Nat} {Td : Nat → Nat} (hL : LK F G pr F' G' P ar) (hp : PT F G pr op pt) (he : e < ar) (ho : lb op e = true) : wyG ar P F' G' pt Td e ↔ SG op F G (tdC Td e) pt := by
  have har := hL.2.1
  obtain ⟨pF, pG⟩ := hp.mem ho
  have hFe := (hL.2.2 e he).1
  have fw : ∀ y, Rc (dE ar P (tdC Td e) F' G') (F e) y ↔ Rc (stD op F G (tdC Td e) (fun _ => False)) (F e) y := by
    intro y
    constructor
    · intro h
      refine (h (fun v => bt pt v = true ∧ Rc (stD op F G (tdC Td e) (fun _ => False)) (F e) v) ⟨pF, Rc.rf _ _⟩ (fun v w hv hs => ?_)).2
      obtain ⟨k, k1, k2, k3⟩ := hs
      obtain ⟨r1, r2, r3⟩ := hL.2.2 k k1
      rw [r1, r2] at k3
      rw [r3] at k2
      have hx : ends F G k v w := k3.imp (fun q => ⟨q.2.1.symm, q.2.2.symm⟩) (fun q => ⟨q.2.1.symm, q.2.2.symm⟩)
      exact ⟨hp.2.1 v w hv.1 ⟨k, by omega, k2, hx⟩, hv.2.step ⟨k, hp.arc (by omega) k2 hx hv.1, fun q => q, k3.imp (fun q => ⟨q.1, q.2.1.symm, q.2.2.symm⟩) (fun q => ⟨q.1, q.2.1.symm, q.2.2.symm⟩)⟩⟩
    · intro h
      refine h.mono (fun v w ⟨k, k1, _, k3⟩ => ?_)
      have q := (hp.1 k).mp k1
      have hk := hL.1 k q.2.1
      obtain ⟨r1, r2, r3⟩ := hL.2.2 k hk
      exact ⟨k, hk, by rw [r3]; exact q.2.1, by rw [r1, r2]; exact k3.imp (fun q => ⟨q.1, q.2.1.symm, q.2.2.symm⟩) (fun q => ⟨q.1, q.2.1.symm, q.2.2.symm⟩)⟩
  have bw : ∀ y, Rc (dE ar P (tdC Td e) G' F') (F e) y ↔ Rc (stD op F G (tdC Td e) (fun _ => False)) y (F e) := by
    intro y
    constructor
    · intro h
      refine (h (fun v => bt pt v = true ∧ Rc (stD op F G (tdC Td e) (fun _ => False)) v (F e)) ⟨pF, Rc.rf _ _⟩ (fun v w hv hs => ?_)).2
      obtain ⟨k, k1, k2, k3⟩ := hs
      obtain ⟨r1, r2, r3⟩ := hL.2.2 k k1
      rw [r1, r2] at k3
      rw [r3] at k2
      have hx : ends F G k v w := k3.elim (fun q => Or.inr ⟨q.2.1.symm, q.2.2.symm⟩) (fun q => Or.inl ⟨q.2.1.symm, q.2.2.symm⟩)
      refine ⟨hp.2.1 v w hv.1 ⟨k, by omega, k2, hx⟩, (Rc.one ⟨k, hp.arc (by omega) k2 hx hv.1, fun q => q, k3.imp (fun q => ⟨q.1, q.2.2.symm, q.2.1.symm⟩) (fun q => ⟨q.1, q.2.2.symm, q.2.1.symm⟩)⟩).trans hv.2⟩
    · intro h
      refine h (fun _ => True) trivial (fun _ _ _ _ => trivial) |> fun _ => ?_
      have : ∀ z, Rc (stD op F G (tdC Td e) (fun _ => False)) y z → Rc (dE ar P (tdC Td e) G' F') z y := fun z hz => hz (fun z => Rc (dE ar P (tdC Td e) G' F') z y) (Rc.rf _ _) (fun v w hv ⟨k, k1, _, k3⟩ => by
        have q := (hp.1 k).mp k1
        have hk := hL.1 k q.2.1
        obtain ⟨r1, r2, r3⟩ := hL.2.2 k hk
        exact (Rc.one ⟨k, hk, by rw [r3]; exact q.2.1, by rw [r1, r2]; exact k3.imp (fun q => ⟨q.1, q.2.2.symm, q.2.1.symm⟩) (fun q => ⟨q.1, q.2.2.symm, q.2.1.symm⟩)⟩).trans hv)
      exact this _ h
  unfold wyG ctR SG
  rw [hFe]
  constructor
  · rintro ⟨h1, h2⟩ a b ha hb
    exact ((bw a).mp (h2 a ha)).trans ((fw b).mp (h1 b hb))
  · intro h
    exact ⟨fun y hy => (fw y).mpr (h _ y pF hy), fun y hy => (bw y).mpr (h y _ hy pF)⟩
theorem way_dir {F G : Nat → Nat} {pr op : Int64} {pt : Int32} {F' G' : Nat → Nat} {P : Nat → Bool} {ar x : Nat} {Td : Nat → Nat} {dF : Nat → Bool} (hL : LK F G pr F' G' P ar) (hp : PT F G pr op pt) (hx : x < ar) (hF : GF op F G dF (x + 1)) (hW : wyI ar P F' G' pt Td (x + 1)) (hb : ∀ e, lb op e = true → Rc (gL (lb pr) F G e) (F e) (G e)) : ∀ e, e ≤ x + 1 → (∀ k, k < e → lb op k = true → (Td k = 1 ∧ dF k = true) ∨ (Td k = 2 ∧ dF k = false)) ∧ SG op F G (tdU Td e) pt := by
  intro e
  have har := hL.2.1
  induction e with
  | zero => exact fun _ => ⟨fun _ h => absurd h (Nat.not_lt_zero _), SG_0 hp (fun k => if_neg (Nat.not_lt_zero _))⟩
  | succ e ih =>
    intro he
    obtain ⟨h1, h2⟩ := ih (by omega)
    by_cases ho : lb op e = true
    · obtain ⟨pF, pG⟩ := hp.mem ho
      have hpe := (hp.1 e).mp ho
      obtain ⟨r1, r2, r3⟩ := hL.2.2 e (by omega)
      have hw := (hW.1 e (by omega)).1 ⟨by rw [r3]; exact hpe.2.1, by rw [r1]; exact pF⟩
      rw [wyG_SG hL hp (by omega) ho] at hw
      have hU : ∀ k, k ≠ e → tdC Td e k = tdU Td e k := fun k hk => by
        unfold tdC tdU
        by_cases q : k < e
        · rw [if_pos q, if_pos q]
        · rw [if_neg q, if_neg hk, if_neg q]
      have hC1 : tdC Td e e = 1 := by unfold tdC; rw [if_neg (Nat.lt_irrefl _), if_pos rfl]
      have hm : mE op F G dF e = stD op F G (tdU Td e) (fun k => k = e) := by
        funext a b
        apply propext
        have hd : ∀ k, lb op k = true → (¬ (k < e ∧ dF k = false) ↔ tdU Td e k ≠ 2) ∧ (¬ (k < e ∧ dF k = true) ↔ tdU Td e k ≠ 1) := by
          intro k hk
          unfold tdU
          by_cases q : k < e
          · rw [if_pos q]
            rcases h1 k q hk with ⟨z1, z2⟩ | ⟨z1, z2⟩
            · rw [z1, z2]; simp [q]
            · rw [z1, z2]; simp [q]
          · rw [if_neg q]; simp [q]
        constructor
        · rintro ⟨k, k1, k2, k3, k4⟩
          exact ⟨k, k2, k3, k4.imp (fun q => ⟨(hd k k2).1.mp q.2.2, q.1, q.2.1⟩) (fun q => ⟨(hd k k2).2.mp q.2.2, q.1, q.2.1⟩)⟩
        · rintro ⟨k, k2, k3, k4⟩
          have := hL.1 k ((hp.1 k).mp k2).2.1
          exact ⟨k, by omega, k2, k3, k4.imp (fun q => ⟨q.2.1, q.2.2, (hd k k2).1.mpr q.1⟩) (fun q => ⟨q.2.1, q.2.2, (hd k k2).2.mpr q.1⟩)⟩
      have hdF := hF e (by omega) ho
      rw [hm] at hdF
      have hiff : dF e = true ↔ SG op F G (tdC Td e) pt := by
        rw [hdF]
        constructor
        · intro q; exact SG_tell h2 hU (ends_self F G e) (Or.inl ⟨hC1, rfl, rfl⟩) q
        · intro q; exact SG_back q hU hC1 pF pG
      refine ⟨fun k hk hok => ?_, ?_⟩
      · by_cases q : k = e
        · subst q
          rcases hw with ⟨w1, w2⟩ | ⟨w1, w2⟩
          · exact Or.inl ⟨w1, hiff.mpr w2⟩
          · exact Or.inr ⟨w1, Bool.eq_false_iff.mpr (fun z => w2 (hiff.mp z))⟩
        · exact h1 k (by omega) hok
      · have hV : ∀ k, k ≠ e → tdU Td (e + 1) k = tdU Td e k := fun k hk => by
          unfold tdU
          by_cases q : k < e
          · rw [if_pos q, if_pos (by omega)]
          · rw [if_neg q, if_neg (by omega)]
        have hV1 : tdU Td (e + 1) e = Td e := by unfold tdU; rw [if_pos (by omega)]
        rcases hw with ⟨w1, w2⟩ | ⟨w1, w2⟩
        · refine SG_c (fun k _ => ?_) w2
          by_cases q : k = e
          · rw [q, hC1, hV1, w1]
          · rw [hU k q, hV k q]
        · have hn : ¬ Rc (stD op F G (tdU Td e) (fun k => k = e)) (G e) (F e) := fun z => w2 (SG_tell h2 hU (ends_self F G e) (Or.inl ⟨hC1, rfl, rfl⟩) z)
          exact SG_tell h2 hV (ends_self F G e).symm (Or.inr ⟨by rw [hV1, w1], rfl, rfl⟩) (SG_one hp h2 ho (hb e ho) hn)
    · refine ⟨fun k hk hok => ?_, ?_⟩
      · by_cases q : k = e
        · subst q; exact absurd hok ho
        · exact h1 k (by omega) hok
      · refine SG_c (fun k hk => ?_) h2
        have : k ≠ e := fun z => by subst z; exact ho hk
        unfold tdU
        by_cases q : k < e
        · rw [if_pos q, if_pos (by omega)]
        · rw [if_neg q, if_neg (by omega)]
theorem PT_of {F G : Nat → Nat} {pr op : Int64} {pt : Int32} {n : Nat} {N Fm : Nat → Int32} {A S : Nat → Int64} {z : Nat} {al : Int32} {br : Int64} (h : SKI (lb pr) F G n N Fm A S z al br) {v : Nat} (hp : SpR N v al pt) (ho : AtR A pt op 14) : PT F G pr op pt := by
  have hn := h.1.1
  have e1 : ∀ y, bt pt y = true ↔ Rc (ad (lb pr) F G) v y := fun y => (hp y).trans (ski_reach h v y)
  have h2 : ∀ a b, bt pt a = true → ad (lb pr) F G a b → bt pt b = true := fun a b ha hab => (e1 b).mpr (((e1 a).mp ha).step hab)
  refine ⟨fun k => ?_, h2, fun a b ha hb => (((e1 a).mp ha).symm ad_symm).trans ((e1 b).mp hb)⟩
  rw [ho k]
  constructor
  · rintro ⟨a, a1, a2, a3⟩
    obtain ⟨q1, q2, q3⟩ := (h.2.2.2.1 a k a1).mp a3
    refine ⟨q1, q2, ?_⟩
    rcases q3 with w | w
    · rw [w]; exact a2
    · exact h2 a _ a2 ⟨k, q1, q2, Or.inr ⟨w, rfl⟩⟩
  · rintro ⟨q1, q2, q3⟩
    have := (h.1.2 k q1 q2).1
    exact ⟨F k, by omega, q3, (h.2.2.2.1 (F k) k (by omega)).mpr ⟨q1, q2, Or.inl rfl⟩⟩
theorem way_br {F G : Nat → Nat} {pr op : Int64} {pt : Int32} {F' G' : Nat → Nat} {P : Nat → Bool} {ar n : Nat} {N Fm : Nat → Int32} {A S : Nat → Int64} {z : Nat} {al : Int32} {br : Int64} (hL : LK F G pr F' G' P ar) (h : SKI (lb pr) F G n N Fm A S z al br) (hp : PT F G pr op pt) : (¬ op &&& br = 0) ↔ hbR ar P F' G' pt := by
  have har := hL.2.1
  constructor
  · intro q
    obtain ⟨e, he⟩ := l_ne0 q
    obtain ⟨h1, h2⟩ := l_and'.mp he
    have b := (br_iff h e).mp h2
    have hk := hL.1 e b.2.1
    obtain ⟨r1, r2, r3⟩ := hL.2.2 e hk
    exact ⟨e, hk, by rw [r3]; exact b.2.1, by rw [r1]; exact ((hp.1 e).mp h1).2.2, by rw [lk_e hL b.1, r1, r2]; exact b.2.2⟩
  · rintro ⟨e, he, e1, e2, e3⟩ q
    obtain ⟨r1, r2, r3⟩ := hL.2.2 e he
    rw [r3] at e1
    rw [r1] at e2
    rw [lk_e hL (by omega), r1, r2] at e3
    have : lb (op &&& br) e = true := l_and'.mpr ⟨(hp.1 e).mpr ⟨by omega, e1, e2⟩, (br_iff h e).mpr ⟨by omega, e1, e3⟩⟩
    rw [q, l_0] at this; cases this
theorem way_eq {F G : Nat → Nat} {pr op : Int64} {pt : Int32} {F' G' : Nat → Nat} {P : Nat → Bool} {ar n x : Nat} {N Fm : Nat → Int32} {A S : Nat → Int64} {z : Nat} {al : Int32} {br : Int64} {Td : Nat → Nat} {dF : Nat → Bool} (hL : LK F G pr F' G' P ar) (h : SKI (lb pr) F G n N Fm A S z al br) (hp : PT F G pr op pt) (hx : x < ar) (hpx : lb pr x = true) (hpt : bt pt (F x) = true) (hF : GF op F G dF (x + 1)) (hW : wyI ar P F' G' pt Td (x + 1)) (hnb : ¬ hbR ar P F' G' pt) : dF x = decide (Td x = 1) := by
  have har := hL.2.1
  have ho : lb op x = true := (hp.1 x).mpr ⟨by omega, hpx, hpt⟩
  have hb : ∀ e, lb op e = true → Rc (gL (lb pr) F G e) (F e) (G e) := by
    intro e he
    apply Classical.byContradiction
    intro q
    have qe := (hp.1 e).mp he
    refine hnb ((way_br hL h hp).mp (fun w => ?_))
    have : lb (op &&& br) e = true := l_and'.mpr ⟨he, (br_iff h e).mpr ⟨qe.1, qe.2.1, q⟩⟩
    rw [w, l_0] at this; cases this
  rcases (way_dir hL hp hx hF hW hb (x + 1) (Nat.le_refl _)).1 x (by omega) ho with ⟨q1, q2⟩ | ⟨q1, q2⟩
  · rw [q1, q2]; rfl
  · rw [q1, q2]; rfl
