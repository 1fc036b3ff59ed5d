/-! ===== 85.lawdefs: the world of the law's loop, its invariant ===== -/
/-- where the class's cells are -/
abbrev CA : Type := Nat × Nat × Nat × Nat × Nat × Nat × Nat × Nat × Nat × Nat × Nat × Nat × Nat × Nat × Nat × Nat × Nat × Nat × Nat × Nat × Nat × Nat × Nat × Nat × Nat × Nat × Nat × Nat × Nat × Nat
abbrev CA.cp (u : CA) : Nat := u.1
abbrev CA.g (u : CA) : Nat := u.2.1
abbrev CA.k (u : CA) : Nat := u.2.2.1
abbrev CA.k2 (u : CA) : Nat := u.2.2.2.1
abbrev CA.fl (u : CA) : Nat := u.2.2.2.2.1
abbrev CA.co (u : CA) : Nat := u.2.2.2.2.2.1
abbrev CA.sp (u : CA) : Nat := u.2.2.2.2.2.2.1
abbrev CA.a1 (u : CA) : Nat := u.2.2.2.2.2.2.2.1
abbrev CA.a2 (u : CA) : Nat := u.2.2.2.2.2.2.2.2.1
abbrev CA.nr (u : CA) : Nat := u.2.2.2.2.2.2.2.2.2.1
abbrev CA.fr (u : CA) : Nat := u.2.2.2.2.2.2.2.2.2.2.1
abbrev CA.rs (u : CA) : Nat := u.2.2.2.2.2.2.2.2.2.2.2.1
abbrev CA.at_ (u : CA) : Nat := u.2.2.2.2.2.2.2.2.2.2.2.2.1
abbrev CA.h (u : CA) : Nat := u.2.2.2.2.2.2.2.2.2.2.2.2.2.1
abbrev CA.b1 (u : CA) : Nat := u.2.2.2.2.2.2.2.2.2.2.2.2.2.2.1
abbrev CA.nr2 (u : CA) : Nat := u.2.2.2.2.2.2.2.2.2.2.2.2.2.2.2.1
abbrev CA.fr2 (u : CA) : Nat := u.2.2.2.2.2.2.2.2.2.2.2.2.2.2.2.2.1
abbrev CA.rs2 (u : CA) : Nat := u.2.2.2.2.2.2.2.2.2.2.2.2.2.2.2.2.2.1
abbrev CA.at2 (u : CA) : Nat := u.2.2.2.2.2.2.2.2.2.2.2.2.2.2.2.2.2.2.1
abbrev CA.h2 (u : CA) : Nat := u.2.2.2.2.2.2.2.2.2.2.2.2.2.2.2.2.2.2.2.1
abbrev CA.b2 (u : CA) : Nat := u.2.2.2.2.2.2.2.2.2.2.2.2.2.2.2.2.2.2.2.2.1
abbrev CA.rm (u : CA) : Nat := u.2.2.2.2.2.2.2.2.2.2.2.2.2.2.2.2.2.2.2.2.2.1
abbrev CA.op (u : CA) : Nat := u.2.2.2.2.2.2.2.2.2.2.2.2.2.2.2.2.2.2.2.2.2.2.1
abbrev CA.bf (u : CA) : Nat := u.2.2.2.2.2.2.2.2.2.2.2.2.2.2.2.2.2.2.2.2.2.2.2.1
abbrev CA.ld (u : CA) : Nat := u.2.2.2.2.2.2.2.2.2.2.2.2.2.2.2.2.2.2.2.2.2.2.2.2.1
abbrev CA.gg (u : CA) : Nat := u.2.2.2.2.2.2.2.2.2.2.2.2.2.2.2.2.2.2.2.2.2.2.2.2.2.1
abbrev CA.gs (u : CA) : Nat := u.2.2.2.2.2.2.2.2.2.2.2.2.2.2.2.2.2.2.2.2.2.2.2.2.2.2.1
abbrev CA.pi (u : CA) : Nat := u.2.2.2.2.2.2.2.2.2.2.2.2.2.2.2.2.2.2.2.2.2.2.2.2.2.2.2.1
abbrev CA.bo (u : CA) : Nat := u.2.2.2.2.2.2.2.2.2.2.2.2.2.2.2.2.2.2.2.2.2.2.2.2.2.2.2.2.1
abbrev CA.gd (u : CA) : Nat := u.2.2.2.2.2.2.2.2.2.2.2.2.2.2.2.2.2.2.2.2.2.2.2.2.2.2.2.2.2
/-- where the reference's cells are -/
abbrev MA : Type := Nat × Nat × Nat × Nat × Nat × Nat × Nat × Nat × Nat × Nat
abbrev MA.o (u : MA) : Nat := u.1
abbrev MA.fF (u : MA) : Nat := u.2.1
abbrev MA.fG (u : MA) : Nat := u.2.2.1
abbrev MA.fT (u : MA) : Nat := u.2.2.2.1
abbrev MA.fN (u : MA) : Nat := u.2.2.2.2.1
abbrev MA.fW (u : MA) : Nat := u.2.2.2.2.2.1
abbrev MA.fO (u : MA) : Nat := u.2.2.2.2.2.2.1
abbrev MA.fB (u : MA) : Nat := u.2.2.2.2.2.2.2.1
abbrev MA.fS (u : MA) : Nat := u.2.2.2.2.2.2.2.2.1
abbrev MA.fD (u : MA) : Nat := u.2.2.2.2.2.2.2.2.2
/-- what the class's cells hold -/
abbrev CS : Type := Nat × Nat × Int64 × (Nat → Nat) × (Nat → Nat) × (Nat → Int32) × (Nat → Int32) × (Nat → Int32) × (Nat → Int64) × Nat × (Nat → Int64) × Int32 × Int64 × (Nat → Int32) × (Nat → Int32) × (Nat → Int32) × (Nat → Int64) × Int32 × (Nat → Int64) × Int32 × Int64 × (Nat → Int32) × (Nat → Int32) × (Nat → Nat) × Int32 × (Nat → Int32) × Int32 × (Nat → Int64) × (Nat → Int64) × (Nat → Nat) × Int32 × (Nat → Int64) × Int32 × Int64
abbrev CS.nd (u : CS) : Nat := u.1
abbrev CS.ar (u : CS) : Nat := u.2.1
abbrev CS.pr (u : CS) : Int64 := u.2.2.1
abbrev CS.F (u : CS) : Nat → Nat := u.2.2.2.1
abbrev CS.G (u : CS) : Nat → Nat := u.2.2.2.2.1
abbrev CS.N (u : CS) : Nat → Int32 := u.2.2.2.2.2.1
abbrev CS.Fm (u : CS) : Nat → Int32 := u.2.2.2.2.2.2.1
abbrev CS.Rs (u : CS) : Nat → Int32 := u.2.2.2.2.2.2.2.1
abbrev CS.A (u : CS) : Nat → Int64 := u.2.2.2.2.2.2.2.2.1
abbrev CS.z (u : CS) : Nat := u.2.2.2.2.2.2.2.2.2.1
abbrev CS.Se (u : CS) : Nat → Int64 := u.2.2.2.2.2.2.2.2.2.2.1
abbrev CS.al (u : CS) : Int32 := u.2.2.2.2.2.2.2.2.2.2.2.1
abbrev CS.br (u : CS) : Int64 := u.2.2.2.2.2.2.2.2.2.2.2.2.1
abbrev CS.N2 (u : CS) : Nat → Int32 := u.2.2.2.2.2.2.2.2.2.2.2.2.2.1
abbrev CS.Fm2 (u : CS) : Nat → Int32 := u.2.2.2.2.2.2.2.2.2.2.2.2.2.2.1
abbrev CS.Rs2 (u : CS) : Nat → Int32 := u.2.2.2.2.2.2.2.2.2.2.2.2.2.2.2.1
abbrev CS.A2 (u : CS) : Nat → Int64 := u.2.2.2.2.2.2.2.2.2.2.2.2.2.2.2.2.1
abbrev CS.zi2 (u : CS) : Int32 := u.2.2.2.2.2.2.2.2.2.2.2.2.2.2.2.2.2.1
abbrev CS.S2 (u : CS) : Nat → Int64 := u.2.2.2.2.2.2.2.2.2.2.2.2.2.2.2.2.2.2.1
abbrev CS.al2 (u : CS) : Int32 := u.2.2.2.2.2.2.2.2.2.2.2.2.2.2.2.2.2.2.2.1
abbrev CS.br2 (u : CS) : Int64 := u.2.2.2.2.2.2.2.2.2.2.2.2.2.2.2.2.2.2.2.2.1
abbrev CS.Cr (u : CS) : Nat → Int32 := u.2.2.2.2.2.2.2.2.2.2.2.2.2.2.2.2.2.2.2.2.2.1
abbrev CS.Op (u : CS) : Nat → Int32 := u.2.2.2.2.2.2.2.2.2.2.2.2.2.2.2.2.2.2.2.2.2.2.1
abbrev CS.Bf (u : CS) : Nat → Nat := u.2.2.2.2.2.2.2.2.2.2.2.2.2.2.2.2.2.2.2.2.2.2.2.1
abbrev CS.sn (u : CS) : Int32 := u.2.2.2.2.2.2.2.2.2.2.2.2.2.2.2.2.2.2.2.2.2.2.2.2.1
abbrev CS.Ld (u : CS) : Nat → Int32 := u.2.2.2.2.2.2.2.2.2.2.2.2.2.2.2.2.2.2.2.2.2.2.2.2.2.1
abbrev CS.zi (u : CS) : Int32 := u.2.2.2.2.2.2.2.2.2.2.2.2.2.2.2.2.2.2.2.2.2.2.2.2.2.2.1
abbrev CS.Sg (u : CS) : Nat → Int64 := u.2.2.2.2.2.2.2.2.2.2.2.2.2.2.2.2.2.2.2.2.2.2.2.2.2.2.2.1
abbrev CS.Pi (u : CS) : Nat → Int64 := u.2.2.2.2.2.2.2.2.2.2.2.2.2.2.2.2.2.2.2.2.2.2.2.2.2.2.2.2.1
abbrev CS.Bo (u : CS) : Nat → Nat := u.2.2.2.2.2.2.2.2.2.2.2.2.2.2.2.2.2.2.2.2.2.2.2.2.2.2.2.2.2.1
abbrev CS.pci (u : CS) : Int32 := u.2.2.2.2.2.2.2.2.2.2.2.2.2.2.2.2.2.2.2.2.2.2.2.2.2.2.2.2.2.2.1
abbrev CS.Gd (u : CS) : Nat → Int64 := u.2.2.2.2.2.2.2.2.2.2.2.2.2.2.2.2.2.2.2.2.2.2.2.2.2.2.2.2.2.2.2.1
abbrev CS.gci (u : CS) : Int32 := u.2.2.2.2.2.2.2.2.2.2.2.2.2.2.2.2.2.2.2.2.2.2.2.2.2.2.2.2.2.2.2.2.1
abbrev CS.bl0 (u : CS) : Int64 := u.2.2.2.2.2.2.2.2.2.2.2.2.2.2.2.2.2.2.2.2.2.2.2.2.2.2.2.2.2.2.2.2.2
/-- what the reference's cells hold -/
abbrev MS : Type := Int32 × Nat × Nat × Int32 × Int32 × Int32 × (Nat → Nat) × (Nat → Nat) × (Nat → Bool) × (Nat → Int32) × (Nat → Int32) × (Nat → Nat) × (Nat → Nat) × (Nat → Nat) × (Nat → Bool)
abbrev MS.th (u : MS) : Int32 := u.1
abbrev MS.nd (u : MS) : Nat := u.2.1
abbrev MS.ar (u : MS) : Nat := u.2.2.1
abbrev MS.be (u : MS) : Int32 := u.2.2.2.1
abbrev MS.bz (u : MS) : Int32 := u.2.2.2.2.1
abbrev MS.sz (u : MS) : Int32 := u.2.2.2.2.2.1
abbrev MS.F (u : MS) : Nat → Nat := u.2.2.2.2.2.2.1
abbrev MS.G (u : MS) : Nat → Nat := u.2.2.2.2.2.2.2.1
abbrev MS.P (u : MS) : Nat → Bool := u.2.2.2.2.2.2.2.2.1
abbrev MS.Nm (u : MS) : Nat → Int32 := u.2.2.2.2.2.2.2.2.2.1
abbrev MS.Wm (u : MS) : Nat → Int32 := u.2.2.2.2.2.2.2.2.2.2.1
abbrev MS.Td (u : MS) : Nat → Nat := u.2.2.2.2.2.2.2.2.2.2.2.1
abbrev MS.Ob (u : MS) : Nat → Nat := u.2.2.2.2.2.2.2.2.2.2.2.2.1
abbrev MS.Sp (u : MS) : Nat → Nat := u.2.2.2.2.2.2.2.2.2.2.2.2.2.1
abbrev MS.D (u : MS) : Nat → Bool := u.2.2.2.2.2.2.2.2.2.2.2.2.2.2
abbrev WL (cI cJ cZ : ClassId) (ca : CA) (ma : MA) (u : CS) (v : MS) : va_W :=
  [(ca.cp, .inr (0, [.ref ca.g, .ref ca.k, .ref ca.k2, .ref ca.fl, .ref ca.co, .ref ca.sp])),
   (ca.g, .inr (1, [.ref ca.a1, .ref ca.a2, .int (nI u.nd), .int (nI u.ar), .long u.pr])),
   (ca.a1, .inl (cI, 41, .inl (nF u.F))), (ca.a2, .inl (cI, 41, .inl (nF u.G))),
   (ca.k, .inr (2, [.ref ca.nr, .ref ca.fr, .ref ca.rs, .ref ca.at_, .ref ca.h, .int u.al, .long u.br])),
   (ca.nr, .inl (cI, 14, .inl u.N)), (ca.fr, .inl (cI, 14, .inl u.Fm)), (ca.rs, .inl (cI, 14, .inl u.Rs)), (ca.at_, .inl (cJ, 14, .inr (.inl u.A))),
   (ca.h, .inr (3, [.ref ca.b1, .int (nI u.z)])), (ca.b1, .inl (cJ, 41, .inr (.inl u.Se))),
   (ca.k2, .inr (2, [.ref ca.nr2, .ref ca.fr2, .ref ca.rs2, .ref ca.at2, .ref ca.h2, .int u.al2, .long u.br2])),
   (ca.nr2, .inl (cI, 14, .inl u.N2)), (ca.fr2, .inl (cI, 14, .inl u.Fm2)), (ca.rs2, .inl (cI, 14, .inl u.Rs2)), (ca.at2, .inl (cJ, 14, .inr (.inl u.A2))),
   (ca.h2, .inr (3, [.ref ca.b2, .int u.zi2])), (ca.b2, .inl (cJ, 41, .inr (.inl u.S2))),
   (ca.fl, .inr (4, [.ref ca.rm, .ref ca.op, .ref ca.bf, .int u.sn])), (ca.rm, .inl (cI, 784, .inl u.Cr)), (ca.op, .inl (cI, 28, .inl u.Op)), (ca.bf, .inl (cI, 28, .inl (nF u.Bf))),
   (ca.co, .inr (5, [.ref ca.ld])), (ca.ld, .inl (cI, 14, .inl u.Ld)),
   (ca.sp, .inr (6, [.ref ca.gg, .ref ca.pi, .ref ca.bo, .int u.pci, .ref ca.gd, .int u.gci, .long u.bl0])),
   (ca.gg, .inr (3, [.ref ca.gs, .int u.zi])), (ca.gs, .inl (cJ, 41, .inr (.inl u.Sg))), (ca.pi, .inl (cJ, 1274, .inr (.inl u.Pi))), (ca.bo, .inl (cI, 92, .inl (nF u.Bo))), (ca.gd, .inl (cJ, 14, .inr (.inl u.Gd))),
   (ma.o, .inr (7, [.int v.th, .int (nI v.nd), .int (nI v.ar), .ref ma.fF, .ref ma.fG, .ref ma.fT, .ref ma.fN, .ref ma.fW, .int v.be, .ref ma.fO, .ref ma.fB, .int v.bz, .ref ma.fS, .ref ma.fD, .int v.sz])),
   (ma.fF, .inl (cI, 41, .inl (nF v.F))), (ma.fG, .inl (cI, 41, .inl (nF v.G))), (ma.fT, .inl (cZ, 41, .inl (bF v.P))), (ma.fN, .inl (cI, 14, .inl v.Nm)), (ma.fW, .inl (cI, 14, .inl v.Wm)), (ma.fO, .inl (cI, 41, .inl (nF v.Td))), (ma.fB, .inl (cI, 41, .inl (nF v.Ob))), (ma.fS, .inl (cI, 8192, .inl (nF v.Sp))), (ma.fD, .inl (cZ, 8192, .inl (bF v.D)))]
def LI (u : CS) (v : MS) : Prop := GAR u.F u.G u.nd u.ar u.pr ∧ SKI (lb u.pr) u.F u.G u.nd u.N u.Fm u.A u.Se u.z u.al u.br ∧ u.Bo 0 = 0 ∧ u.nd = v.nd ∧ u.ar = v.ar ∧ (∀ k, v.F k < 14) ∧ (∀ k, v.G k < 14) ∧ LK u.F u.G u.pr v.F v.G v.P u.ar ∧ ∀ k, v.Td k < 3
/-- what stays through the law's loop -/
abbrev LX (p : Program) (s : State) (m : MethodId) (args : Array Value) (c : Code) (dC : Nat → ClassId) (dI : Nat → Nat → Nat) (cI cJ cZ : ClassId) (A0 : Nat → Prop) (sc L : Nat) (xs : Nat → Int32) : Prop :=
  p.tables.exec = Jvm.exec ∧ c.code = code ∧ c.maxLocals = 4 ∧ s.vm.findClass "CutPointsLaw" = some m.cls ∧ (∀ w ∈ TT, w.before args s = true) ∧ KK dC dI cI cJ cZ s ∧ va_X sc L xs s s.heap ∧ sc < s.heap.size ∧ ¬ A0 sc ∧ L < 2 ^ 30
section SCR
variable {p : Program} {l : Launch} {e : Env} {R : Room} {s : State} {m : MethodId} {args : Array Value} {below : List Frame} {meth : Method} {c : Code} {H H0 : Heap} {locs : List Loc} {cells slots : Nat} {Q : State → Prop} {cc : ByteArray} {pc : Nat} {ls : Array Slot} {rest : List Value} {A : Nat → Prop}
theorem x_sld (hexec : p.tables.exec = Jvm.exec) (hb : c.code = cc) {sc L : Nat} {xs : Nat → Int32} (hX : va_X sc L xs s H0) (hbl : sc < H0.size) (hbA : ¬ A sc) (hS : va_S A H0 H locs) {j : Nat} (hj : j < L) (hL : L < 2 ^ 30) (hdg : decode cc pc = .ok (.iaload, 1))
    (kk : W p l e R s m args below meth c H locs cells slots Q (F0 m (pc + 1) ls (.int (xs j) :: rest))) : W p l e R s m args below meth c H locs cells slots Q (F0 m pc ls (.int (nI j) :: .ref sc :: rest)) := by
  refine va_sld hexec hb hX hbl hbA hS (vp_in_nI hj (by omega)) hdg ?_
  rw [nI_clamp (by omega)]; exact kk
end SCR
theorem ok_P {x : Int32} {ar : Nat} {pr : Int64} (hv : (vd x ar && lb pr x.toNatClampNeg) = true) (har : ar ≤ 40) : ∃ j, j < ar ∧ x = nI j ∧ lb pr j = true := by
  have h := (Bool.and_eq_true _ _).mp hv
  obtain ⟨j, hj, e⟩ := vd_t h.1 (by omega)
  have h2 := h.2
  rw [e, nI_clamp (by omega)] at h2
  exact ⟨j, hj, e, h2⟩
theorem bad_P {x : Int32} {F G F' G' : Nat → Nat} {P : Nat → Bool} {ar : Nat} {pr : Int64} (h : LK F G pr F' G' P ar) (hv : (vd x ar && lb pr x.toNatClampNeg) = false) : (vd x ar && P x.toNatClampNeg) = false := by
  have har := h.2.1
  cases h1 : vd x ar
  · rfl
  · obtain ⟨j, hj, e⟩ := vd_t h1 (by omega)
    rw [h1] at hv
    rw [e, nI_clamp (by omega)] at hv ⊢
    rw [lk_P h hj]; exact hv
theorem cnt_cases (x : Int32) : x = nI 0 ∨ x = nI 1 ∨ x = nI 2 ∨ x = nI 3 ∨ x = nI 4 ∨ x = nI 5 ∨ x = nI 6 ∨ x = nI 7 ∨ x = nI 8 ∨ (x.toInt < 0 ∨ 8 < x.toInt) := by
  cases h : vd x 9
  · unfold vd at h
    simp only [Bool.and_eq_false_iff, decide_eq_false_iff_not] at h
    omega
  · obtain ⟨j, hj, e⟩ := vd_t h (by omega)
    have : j = 0 ∨ j = 1 ∨ j = 2 ∨ j = 3 ∨ j = 4 ∨ j = 5 ∨ j = 6 ∨ j = 7 ∨ j = 8 := by omega
    rcases this with q | q | q | q | q | q | q | q | q <;> subst q <;> simp [e]
theorem spl_cases (x : Int32) : x = nI 0 ∨ x = nI 1 ∨ x = nI 2 ∨ x = nI 3 ∨ (x < 0 ∨ ¬ x ≤ nI 3) := by
  cases h : vd x 4
  · unfold vd at h
    simp only [Bool.and_eq_false_iff, decide_eq_false_iff_not] at h
    right; right; right; right
    rcases h with h | h
    · left; rw [Int32.lt_iff_toInt_lt, Int32.toInt_zero]; omega
    · right; rw [Int32.le_iff_toInt_le, nI_toInt (by omega)]; omega
  · obtain ⟨j, hj, e⟩ := vd_t h (by omega)
    have : j = 0 ∨ j = 1 ∨ j = 2 ∨ j = 3 := by omega
    rcases this with q | q | q | q <;> subst q <;> simp [e]
theorem two_ok {x y : Int32} {n : Nat} (hn : n ≤ 14) (h : (vd x n && vd y n) = true) : (∃ a, a < n ∧ x = nI a) ∧ ∃ b, b < n ∧ y = nI b := by
  have h := (Bool.and_eq_true _ _).mp h
  exact ⟨vd_t h.1 (by omega), vd_t h.2 (by omega)⟩
