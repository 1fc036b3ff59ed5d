/-! ===== 30.compass: which arcs go forth ===== -/
def LRp (F G : Nat → Nat) (mf mb : Int64) (a b e : Nat) : Prop := (lb mf e = true ∧ F e = a ∧ G e = b) ∨ (lb mb e = true ∧ G e = a ∧ F e = b)
def LRi (F G : Nat → Nat) (mf mb : Int64) (r : Nat → Int32) (i : Nat) : Prop := ∀ a b, a < 14 → (bt (r a) b = true ↔ ∃ e, e < i ∧ LRp F G mf mb a b e)
def LRh (F G : Nat → Nat) (mf mb : Int64) (r : Nat → Int32) (i : Nat) : Prop := ∀ a b, a < 14 → (bt (r a) b = true ↔ ((∃ e, e < i ∧ LRp F G mf mb a b e) ∨ (lb mf i = true ∧ F i = a ∧ G i = b)))
theorem LRi_0 {F G : Nat → Nat} {mf mb : Int64} {r : Nat → Int32} (h : ∀ j, j < 14 → r j = nI 0) : LRi F G mf mb r 0 := by
  intro a b ha
  rw [h a ha, show nI 0 = 0 from nI_0, b_0]
  constructor
  · intro q; cases q
  · rintro ⟨e, he, -⟩; exact absurd he (Nat.not_lt_zero _)
theorem LRh_f {F G : Nat → Nat} {mf mb : Int64} {r : Nat → Int32} {i : Nat} (h : LRi F G mf mb r i) (c : lb mf i = false) : LRh F G mf mb r i := by
  intro a b ha
  rw [h a b ha, c]; simp
theorem LRh_t {F G : Nat → Nat} {mf mb : Int64} {r : Nat → Int32} {i : Nat} (hG : ∀ k, G k < 14) (h : LRi F G mf mb r i) (c : lb mf i = true) : LRh F G mf mb (va_up r (F i) (r (F i) ||| sb (G i))) i := by
  intro a b ha
  by_cases e : a = F i
  · subst e
    rw [va_up_s, b_or', h _ b ha, b_sb' (by have := hG i; omega)]
    constructor
    · rintro (q | q)
      · exact Or.inl q
      · exact Or.inr ⟨c, rfl, q.symm⟩
    · rintro (q | q)
      · exact Or.inl q
      · exact Or.inr q.2.2.symm
  · rw [va_up_o _ e, h a b ha]
    constructor
    · exact Or.inl
    · rintro (q | q)
      · exact q
      · exact absurd q.2.1.symm e
theorem LRi_f {F G : Nat → Nat} {mf mb : Int64} {r : Nat → Int32} {i : Nat} (h : LRh F G mf mb r i) (c : lb mb i = false) : LRi F G mf mb r (i + 1) := by
  intro a b ha
  rw [h a b ha]
  constructor
  · rintro (⟨e, e1, e2⟩ | q)
    · exact ⟨e, by omega, e2⟩
    · exact ⟨i, by omega, Or.inl q⟩
  · rintro ⟨e, e1, e2⟩
    by_cases q : e = i
    · subst q
      rcases e2 with z | z
      · exact Or.inr z
      · rw [c] at z; cases z.1
    · exact Or.inl ⟨e, by omega, e2⟩
theorem LRi_t {F G : Nat → Nat} {mf mb : Int64} {r : Nat → Int32} {i : Nat} (hF : ∀ k, F k < 14) (h : LRh F G mf mb r i) (c : lb mb i = true) : LRi F G mf mb (va_up r (G i) (r (G i) ||| sb (F i))) (i + 1) := by
  intro a b ha
  have key : bt (va_up r (G i) (r (G i) ||| sb (F i)) a) b = true ↔ (bt (r a) b = true ∨ (G i = a ∧ F i = b)) := by
    by_cases e : a = G i
    · subst e
      rw [va_up_s, b_or', b_sb' (by have := hF i; omega)]
      constructor
      · rintro (q | q)
        · exact Or.inl q
        · exact Or.inr ⟨rfl, q.symm⟩
      · rintro (q | q)
        · exact Or.inl q
        · exact Or.inr q.2.symm
    · rw [va_up_o _ e]
      constructor
      · exact Or.inl
      · rintro (q | q)
        · exact q
        · exact absurd q.1.symm e
  rw [key, h a b ha]
  constructor
  · rintro ((⟨e, e1, e2⟩ | q) | q)
    · exact ⟨e, by omega, e2⟩
    · exact ⟨i, by omega, Or.inl q⟩
    · exact ⟨i, by omega, Or.inr ⟨c, q⟩⟩
  · rintro ⟨e, e1, e2⟩
    by_cases q : e = i
    · subst q
      rcases e2 with z | z
      · exact Or.inl (Or.inr z)
      · exact Or.inr z.2
    · exact Or.inl (Or.inl ⟨e, by omega, e2⟩)
/-- the steps when the arcs before e have their directions, e is not there, the others lead both ways -/
def mE (op : Int64) (F G : Nat → Nat) (dF : Nat → Bool) (e a b : Nat) : Prop := ∃ x, x < 40 ∧ lb op x = true ∧ x ≠ e ∧ ((F x = a ∧ G x = b ∧ ¬ (x < e ∧ dF x = false)) ∨ (G x = a ∧ F x = b ∧ ¬ (x < e ∧ dF x = true)))
theorem mE_c {op : Int64} {F G : Nat → Nat} {dF dF' : Nat → Bool} {e : Nat} (h : ∀ x, x < e → dF x = dF' x) {a b : Nat} : mE op F G dF e a b ↔ mE op F G dF' e a b := by
  constructor
  · rintro ⟨x, x1, x2, x3, x4⟩
    refine ⟨x, x1, x2, x3, ?_⟩
    rcases x4 with ⟨y1, y2, y3⟩ | ⟨y1, y2, y3⟩
    · exact Or.inl ⟨y1, y2, fun q => y3 ⟨q.1, by rw [h x q.1]; exact q.2⟩⟩
    · exact Or.inr ⟨y1, y2, fun q => y3 ⟨q.1, by rw [h x q.1]; exact q.2⟩⟩
  · rintro ⟨x, x1, x2, x3, x4⟩
    refine ⟨x, x1, x2, x3, ?_⟩
    rcases x4 with ⟨y1, y2, y3⟩ | ⟨y1, y2, y3⟩
    · exact Or.inl ⟨y1, y2, fun q => y3 ⟨q.1, by rw [← h x q.1]; exact q.2⟩⟩
    · exact Or.inr ⟨y1, y2, fun q => y3 ⟨q.1, by rw [← h x q.1]; exact q.2⟩⟩
theorem Rc.iff {E E' : Nat → Nat → Prop} (h : ∀ a b, E a b ↔ E' a b) {x y : Nat} : Rc E x y ↔ Rc E' x y := ⟨fun q => q.mono (fun a b => (h a b).mp), fun q => q.mono (fun a b => (h a b).mpr)⟩
/-- the first directions, up to arc n -/
def GF (op : Int64) (F G : Nat → Nat) (dF : Nat → Bool) (n : Nat) : Prop := ∀ e, e < n → lb op e = true → (dF e = true ↔ Rc (mE op F G dF e) (G e) (F e))
def gfI (op : Int64) (F G : Nat → Nat) (fo ba : Int64) (i : Nat) : Prop :=
  GF op F G (lb fo) i ∧ (∀ e, lb fo e = true → e < i ∧ lb op e = true) ∧ (∀ e, lb ba e = true → e < i ∧ lb op e = true) ∧ ∀ e, e < i → lb op e = true → lb ba e = !lb fo e
theorem gfI_0 (op : Int64) (F G : Nat → Nat) : gfI op F G 0 0 0 :=
  ⟨fun _ h => absurd h (Nat.not_lt_zero _), fun e h => (by rw [l_0] at h; cases h), fun e h => (by rw [l_0] at h; cases h), fun _ h => absurd h (Nat.not_lt_zero _)⟩
theorem gfI_f {op : Int64} {F G : Nat → Nat} {fo ba : Int64} {i : Nat} (h : gfI op F G fo ba i) (c : lb op i = false) : gfI op F G fo ba (i + 1) := by
  obtain ⟨h1, h2, h3, h4⟩ := h
  have n : ∀ e, lb op e = true → e ≠ i := fun e he q => by rw [q, c] at he; cases he
  exact ⟨fun e he ho => h1 e (by have := n e ho; omega) ho, fun e he => ⟨by have := (h2 e he).1; omega, (h2 e he).2⟩, fun e he => ⟨by have := (h3 e he).1; omega, (h3 e he).2⟩, fun e he ho => h4 e (by have := n e ho; omega) ho⟩
/-- what the search asks -/
theorem gf_ask {op : Int64} {F G : Nat → Nat} {fo ba : Int64} {i : Nat} {r : Nat → Int32} {sp : Int32} (hF : ∀ k, F k < 14) (hG : ∀ k, G k < 14) (h : gfI op F G fo ba i)
    (hr : LRi F G ((op &&& (ba ^^^ (-1 : Int64))) &&& (lsb i ^^^ (-1 : Int64))) ((op &&& (fo ^^^ (-1 : Int64))) &&& (lsb i ^^^ (-1 : Int64))) r 40) (hi : i < 40) (hs : SpR r (G i) (-1) sp) : bt sp (F i) = true ↔ Rc (mE op F G (lb fo) i) (G i) (F i) := by
  obtain ⟨h1, h2, h3, h4⟩ := h
  rw [hs (F i)]
  apply Rc.iff
  intro a b
  have bit : ∀ (z : Int64) (e : Nat), e < 40 → (lb ((op &&& (z ^^^ (-1 : Int64))) &&& (lsb i ^^^ (-1 : Int64))) e = true ↔ (lb op e = true ∧ lb z e = false ∧ e ≠ i)) := by
    intro z e he
    rw [l_and', l_and', l_not' (by omega), l_not' (by omega), Bool.eq_false_iff (b := lb (lsb i) e), ne_eq, l_lsb' (by omega)]
    constructor
    · rintro ⟨⟨p1, p2⟩, p3⟩; exact ⟨p1, p2, p3⟩
    · rintro ⟨p1, p2, p3⟩; exact ⟨⟨p1, p2⟩, p3⟩
  constructor
  · rintro ⟨ha, hb, -⟩
    obtain ⟨e, e1, e2⟩ := (hr a b ha).mp hb
    rcases e2 with ⟨p1, p2, p3⟩ | ⟨p1, p2, p3⟩
    · obtain ⟨q1, q2, q3⟩ := (bit ba e e1).mp p1
      refine ⟨e, e1, q1, q3, Or.inl ⟨p2, p3, fun z => ?_⟩⟩
      rw [h4 e z.1 q1, z.2] at q2; cases q2
    · obtain ⟨q1, q2, q3⟩ := (bit fo e e1).mp p1
      refine ⟨e, e1, q1, q3, Or.inr ⟨p2, p3, fun z => ?_⟩⟩
      rw [z.2] at q2; cases q2
  · rintro ⟨e, e1, e2, e3, e4⟩
    rcases e4 with ⟨p1, p2, p3⟩ | ⟨p1, p2, p3⟩
    · have ha : a < 14 := by rw [← p1]; exact hF e
      have hb : b < 14 := by rw [← p2]; exact hG e
      refine ⟨ha, (hr a b ha).mpr ⟨e, e1, Or.inl ⟨(bit ba e e1).mpr ⟨e2, ?_, e3⟩, p1, p2⟩⟩, b_m1 b (by omega)⟩
      rw [Bool.eq_false_iff]
      intro z
      have z1 := (h3 e z).1
      have z2 := h4 e z1 e2
      rw [z] at z2
      apply p3
      refine ⟨z1, ?_⟩
      cases q : lb fo e
      · rfl
      · rw [q] at z2; cases z2
    · have ha : a < 14 := by rw [← p1]; exact hG e
      have hb : b < 14 := by rw [← p2]; exact hF e
      refine ⟨ha, (hr a b ha).mpr ⟨e, e1, Or.inr ⟨(bit fo e e1).mpr ⟨e2, ?_, e3⟩, p1, p2⟩⟩, b_m1 b (by omega)⟩
      rw [Bool.eq_false_iff]
      intro z
      exact p3 ⟨(h2 e z).1, z⟩
theorem or_lsb {x : Int64} {i e : Nat} (hi : i < 64) : lb (x ||| lsb i) e = true ↔ (lb x e = true ∨ e = i) := by rw [l_or', l_lsb' hi]
theorem gfI_t {op : Int64} {F G : Nat → Nat} {fo ba : Int64} {i : Nat} (hi : i < 40) (h : gfI op F G fo ba i) (c : lb op i = true) (hq : Rc (mE op F G (lb fo) i) (G i) (F i)) : gfI op F G (fo ||| lsb i) ba (i + 1) := by
  obtain ⟨h1, h2, h3, h4⟩ := h
  have old : ∀ e, e < i → lb (fo ||| lsb i) e = lb fo e := by
    intro e he
    have := or_lsb (x := fo) (i := i) (e := e) (by omega)
    cases q : lb fo e
    · rw [Bool.eq_false_iff]; intro z; rcases this.mp z with z | z
      · rw [q] at z; cases z
      · omega
    · exact this.mpr (Or.inl q)
  have cur : lb (fo ||| lsb i) i = true := (or_lsb (by omega)).mpr (Or.inr rfl)
  refine ⟨fun e he ho => ?_, fun e he => ?_, fun e he => ⟨by have := (h3 e he).1; omega, (h3 e he).2⟩, fun e he ho => ?_⟩
  · by_cases q : e = i
    · subst q
      rw [cur]
      exact ⟨fun _ => (Rc.iff (fun a b => mE_c (fun x hx => (old x hx).symm))).mp hq, fun _ => rfl⟩
    · rw [old e (by omega), h1 e (by omega) ho]
      exact Rc.iff (fun a b => mE_c (fun x hx => (old x (by omega)).symm))
  · rcases (or_lsb (by omega)).mp he with q | q
    · exact ⟨by have := (h2 e q).1; omega, (h2 e q).2⟩
    · subst q; exact ⟨by omega, c⟩
  · by_cases q : e = i
    · subst q
      rw [cur, Bool.not_true, Bool.eq_false_iff]
      intro z; have := (h3 e z).1; omega
    · rw [old e (by omega)]; exact h4 e (by omega) ho
theorem gfI_b {op : Int64} {F G : Nat → Nat} {fo ba : Int64} {i : Nat} (hi : i < 40) (h : gfI op F G fo ba i) (c : lb op i = true) (hq : ¬ Rc (mE op F G (lb fo) i) (G i) (F i)) : gfI op F G fo (ba ||| lsb i) (i + 1) := by
  obtain ⟨h1, h2, h3, h4⟩ := h
  have nf : lb fo i = false := by
    rw [Bool.eq_false_iff]; intro z; have := (h2 i z).1; omega
  refine ⟨fun e he ho => ?_, fun e he => ⟨by have := (h2 e he).1; omega, (h2 e he).2⟩, fun e he => ?_, fun e he ho => ?_⟩
  · by_cases q : e = i
    · subst q
      exact ⟨fun z => (by rw [nf] at z; cases z), fun z => absurd z hq⟩
    · exact h1 e (by omega) ho
  · rcases (or_lsb (by omega)).mp he with q | q
    · exact ⟨by have := (h3 e q).1; omega, (h3 e q).2⟩
    · subst q; exact ⟨by omega, c⟩
  · by_cases q : e = i
    · subst q
      rw [nf, Bool.not_false]
      exact (or_lsb (by omega)).mpr (Or.inr rfl)
    · rw [← h4 e (by omega) ho]
      have := or_lsb (x := ba) (i := i) (e := e) (by omega)
      cases z : lb ba e
      · rw [Bool.eq_false_iff]; intro y; rcases this.mp y with y | y
        · rw [z] at y; cases y
        · omega
      · exact this.mpr (Or.inl z)
