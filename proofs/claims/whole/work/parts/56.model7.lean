/-! ===== 56.model7: directed reach, splits laid in a row ===== -/
/-- some arc of the set is a bridge -/
def hbR (ar : Nat) (P : Nat → Bool) (F G : Nat → Nat) (st : Int32) : Prop := ∃ e, e < ar ∧ P e = true ∧ bt st (F e) = true ∧ ¬ Rc (ad (lkT ar 0 P (nI e) (-1) (nI 0) F G) F G) (F e) (G e)
/-- steps along arcs that have been told -/
def dE (ar : Nat) (P : Nat → Bool) (Td A B : Nat → Nat) (a b : Nat) : Prop := ∃ e, e < ar ∧ P e = true ∧ ((Td e ≠ 2 ∧ a = A e ∧ b = B e) ∨ (Td e ≠ 1 ∧ a = B e ∧ b = A e))
def ctO (E : Nat → Nat → Prop) (f : Nat) (sn : Int32) (gb : Bool) : Prop :=
  bt sn f = true ∧ (∀ y, bt sn y = true → Rc E f y) ∧ (gb = false → ∀ a b, bt sn a = true → E a b → bt sn b = true)
def ctJ (P : Nat → Bool) (Td A B : Nat → Nat) (sn nx : Int32) (i : Nat) : Prop := ∀ y, bt nx y = true ↔ (bt sn y = true ∨ ∃ a, bt sn a = true ∧ dE i P Td A B a y)
def adI (c : Prop) (y0 : Nat) (x z : Int32) : Prop := ∀ y, bt z y = true ↔ (bt x y = true ∨ (c ∧ y = y0))
theorem adI_f {c : Prop} {y0 : Nat} {x : Int32} (h : ¬ c) : adI c y0 x x := fun _ => ⟨Or.inl, fun q => q.elim id (fun z => absurd z.1 h)⟩
theorem adI_t {c : Prop} {y0 : Nat} {x : Int32} (h : c) (hy : y0 < 14) : adI c y0 x (x ||| sb y0) := fun y => by
  rw [b_or', b_sb' (by omega)]
  exact ⟨fun q => q.imp id (fun z => ⟨h, z⟩), fun q => q.imp id (fun z => z.2)⟩
theorem ctO_0 {E : Nat → Nat → Prop} {f : Nat} (hf : f < 14) : ctO E f (sb f) true := ⟨(b_sb' (by omega)).mpr rfl, fun y h => by rw [(b_sb' (by omega)).mp h]; exact Rc.rf _ _, fun h => by cases h⟩
theorem ctJ_0 (P : Nat → Bool) (Td A B : Nat → Nat) (sn : Int32) : ctJ P Td A B sn sn 0 := fun _ => ⟨Or.inl, fun h => h.elim id (fun ⟨_, _, e, h, _⟩ => absurd h (Nat.not_lt_zero _))⟩
theorem ctJ_n {P : Nat → Bool} {Td A B : Nat → Nat} {sn nx n1 n2 : Int32} {i : Nat} (h : ctJ P Td A B sn nx i) (h1 : adI (P i = true ∧ Td i ≠ 2 ∧ bt sn (A i) = true) (B i) nx n1) (h2 : adI (P i = true ∧ Td i ≠ 1 ∧ bt sn (B i) = true) (A i) n1 n2) : ctJ P Td A B sn n2 (i + 1) := by
  intro y
  rw [h2 y, h1 y, h y]
  constructor
  · rintro (((q | ⟨a, a1, e, e1, e2⟩) | ⟨⟨q1, q2, q3⟩, q4⟩) | ⟨⟨q1, q2, q3⟩, q4⟩)
    · exact Or.inl q
    · exact Or.inr ⟨a, a1, e, by omega, e2⟩
    · exact Or.inr ⟨_, q3, i, by omega, q1, Or.inl ⟨q2, rfl, q4⟩⟩
    · exact Or.inr ⟨_, q3, i, by omega, q1, Or.inr ⟨q2, rfl, q4⟩⟩
  · rintro (q | ⟨a, a1, e, e1, e2, e3⟩)
    · exact Or.inl (Or.inl (Or.inl q))
    · by_cases z : e = i
      · subst z
        rcases e3 with ⟨z1, z2, z3⟩ | ⟨z1, z2, z3⟩
        · subst z2; exact Or.inl (Or.inr ⟨⟨e2, z1, a1⟩, z3⟩)
        · subst z2; exact Or.inr ⟨⟨e2, z1, a1⟩, z3⟩
      · exact Or.inl (Or.inl (Or.inr ⟨a, a1, e, by omega, e2, e3⟩))
theorem ctO_n {ar : Nat} {P : Nat → Bool} {Td A B : Nat → Nat} {f : Nat} {sn nx : Int32} {gb g2 : Bool} {i : Nat} (h : ctO (dE ar P Td A B) f sn gb) (j : ctJ P Td A B sn nx i) (hi : i = ar) (hg : g2 = false → nx = sn) : ctO (dE ar P Td A B) f nx g2 := by
  subst hi
  obtain ⟨h1, h2, h3⟩ := h
  refine ⟨(j f).mpr (Or.inl h1), fun y hy => ?_, fun q a b ha hab => ?_⟩
  · rcases (j y).mp hy with q | ⟨a, a1, a2⟩
    · exact h2 y q
    · exact (h2 a a1).step a2
  · have e := hg q
    subst e
    exact (j b).mpr (Or.inr ⟨a, ha, hab⟩)
theorem ct_d2 {P : Nat → Bool} {Td A B : Nat → Nat} {sn nx : Int32} {gb : Bool} {n i : Nat} (h : 2 * (32 - cn (bt sn) 32) + gb.toNat < n + 1) (hg : gb = true) (j : ctJ P Td A B sn nx i) (e : ¬ nx = sn) : 2 * (32 - cn (bt nx) 32) + true.toNat < n := by
  have hex : ∃ k, k < 32 ∧ bt nx k = true ∧ bt sn k = false := by
    apply Classical.byContradiction
    intro hn
    apply e
    apply b_ext
    intro k hk
    cases h6 : bt sn k
    · cases h7 : bt nx k
      · rfl
      · exact absurd ⟨k, hk, h7, h6⟩ hn
    · exact (j k).mpr (Or.inl h6)
  obtain ⟨k, k0, k1, k2⟩ := hex
  have a := cn_lt (p := bt sn) (q := bt nx) (n := 32) (fun i _ hi => (j i).mpr (Or.inl hi)) k k0 k2 k1
  have b := cn_le (bt nx) 32
  rw [hg] at h
  simp at h ⊢
  omega
def ctR (E : Nat → Nat → Prop) (f : Nat) (st : Int32) : Prop := ∀ y, bt st y = true → Rc E f y
theorem ctO_e {E : Nat → Nat → Prop} {f : Nat} {sn st : Int32} {gb : Bool} (h : ctO E f sn gb) (c : gb = false) : (st &&& (sn ^^^ (-1))) = 0 ↔ ctR E f st := by
  obtain ⟨h1, h2, h3⟩ := h
  have hr : ∀ y, bt sn y = true ↔ Rc E f y := fun y => ⟨h2 y, fun q => q (fun y => bt sn y = true) h1 (fun a b ha hab => h3 c a b ha hab)⟩
  constructor
  · intro q y hy
    rw [← hr y]
    apply Classical.byContradiction
    intro hn
    have hy32 : y < 32 := by
      rcases Nat.lt_or_ge y 32 with z | z
      · exact z
      · rw [b_big z] at hy; cases hy
    have : bt (st &&& (sn ^^^ (-1))) y = true := b_and'.mpr ⟨hy, (b_not' hy32).mpr (Bool.eq_false_iff.mpr hn)⟩
    rw [q, b_0] at this; cases this
  · intro q
    apply b_ext
    intro i hi
    rw [b_0, Bool.eq_false_iff]
    intro z
    have z := b_and'.mp z
    have z2 := (b_not' hi).mp z.2
    rw [(hr i).mpr (q i z.1)] at z2; cases z2
/-- the splits -/
def spQ (F G Ob : Nat → Nat) (bz s : Nat) : Prop := s % 2 = 1 ∧ 1 < cn (bt (nI s)) 16 ∧ 1 < cn (bt (nI (2 ^ bz - 1) &&& (nI s ^^^ (-1)))) 16 ∧ ∃ x y, tcI F G Ob (nI s) x bz ∧ tcI F G Ob (nI (2 ^ bz - 1) &&& (nI s ^^^ (-1))) y bz ∧ cn (bt (x &&& y)) 16 = 2
theorem tcI_u {F G Ob : Nat → Nat} {st x y : Int32} {i : Nat} (h : tcI F G Ob st x i) (k : tcI F G Ob st y i) : x = y := b_ext (fun z _ => by
  have := (h z).trans (k z).symm
  cases hx : bt x z <;> cases hz : bt y z <;> simp_all)
theorem spQ_f {F G Ob : Nat → Nat} {bz s : Nat} {x y : Int32} (hx : tcI F G Ob (nI s) x bz) (hy : tcI F G Ob (nI (2 ^ bz - 1) &&& (nI s ^^^ (-1))) y bz) (c : ¬ cn (bt (x &&& y)) 16 = 2) : ¬ spQ F G Ob bz s := by
  rintro ⟨_, _, _, x', y', h1, h2, h3⟩
  rw [tcI_u h1 hx, tcI_u h2 hy] at h3
  exact c h3
theorem ls_f {F G Ob Sp : Nat → Nat} {bz q s : Nat} (h : lbI (spQ F G Ob bz) Sp q s) (hs : s % 2 = 1) (c : ¬ spQ F G Ob bz s) : lbI (spQ F G Ob bz) Sp q (s + 2) := lbI_f (lbI_f h c) (fun z => by have := z.1; omega)
theorem ls_t {F G Ob Sp : Nat → Nat} {bz q s : Nat} (h : lbI (spQ F G Ob bz) Sp q s) (hs : s % 2 = 1) (c : spQ F G Ob bz s) : lbI (spQ F G Ob bz) (va_up Sp q s) (q + 1) (s + 2) := lbI_f (lbI_t h c) (fun z => by have := z.1; omega)
theorem ls_0 {F G Ob Sp : Nat → Nat} {bz : Nat} : lbI (spQ F G Ob bz) Sp 0 1 := lbI_f (lbI_0 _ _) (fun z => by have := z.1; omega)
theorem pow_odd : ∀ n, n < 15 → 1 ≤ n → (2 ^ n - 1) % 2 = 1 := by decide +kernel
theorem sb_pow1 : ∀ n, n < 15 → sb n - nI 1 = nI (2 ^ n - 1) := by decide +kernel
/-- two sets cross -/
def crs (bz a b : Nat) : Prop := ¬ (nI a &&& nI b) = 0 ∧ ¬ (nI a &&& (nI b ^^^ (-1))) = 0 ∧ ¬ (nI b &&& (nI a ^^^ (-1))) = 0 ∧ ¬ ((nI (2 ^ bz - 1) &&& (nI a ^^^ (-1))) &&& (nI b ^^^ (-1))) = 0
def gdI (bz : Nat) (Sp : Nat → Nat) (D0 D : Nat → Bool) (i j : Nat) : Prop := (∀ k, k ≠ i → D k = D0 k) ∧ (D i = true ↔ ∀ k, k < j → ¬ crs bz (Sp i) (Sp k))
def gdO (bz : Nat) (Sp : Nat → Nat) (D : Nat → Bool) (z i : Nat) : Prop := ∀ k, k < i → (D k = true ↔ ∀ j, j < z → ¬ crs bz (Sp k) (Sp j))
theorem gdI_0 {bz : Nat} {Sp : Nat → Nat} {D0 : Nat → Bool} {i : Nat} : gdI bz Sp D0 (va_up D0 i true) i 0 := ⟨fun k hk => by rw [va_up_o _ hk], by rw [va_up_s]; exact ⟨fun _ _ h => absurd h (Nat.not_lt_zero _), fun _ => rfl⟩⟩
theorem gdI_t {bz : Nat} {Sp : Nat → Nat} {D0 D : Nat → Bool} {i j : Nat} (h : gdI bz Sp D0 D i j) (c : D i = true) (n : ¬ crs bz (Sp i) (Sp j)) : gdI bz Sp D0 (va_up D i true) i (j + 1) :=
  ⟨fun k hk => by rw [va_up_o _ hk]; exact h.1 k hk, by rw [va_up_s]; exact ⟨fun _ => lt_s (h.2.mp c) n, fun _ => rfl⟩⟩
theorem gdI_f {bz : Nat} {Sp : Nat → Nat} {D0 D : Nat → Bool} {i j : Nat} (h : gdI bz Sp D0 D i j) (n : crs bz (Sp i) (Sp j)) : gdI bz Sp D0 (va_up D i false) i (j + 1) :=
  ⟨fun k hk => by rw [va_up_o _ hk]; exact h.1 k hk, by rw [va_up_s]; exact ⟨fun q => (by cases q), fun q => absurd n (q j (Nat.lt_succ_self _))⟩⟩
theorem gdO_n {bz : Nat} {Sp : Nat → Nat} {D0 D : Nat → Bool} {z i j : Nat} (h : gdO bz Sp D0 z i) (k : gdI bz Sp D0 D i j) (hj : j ≤ z) (c : z ≤ j ∨ D i = false) : gdO bz Sp D z (i + 1) := by
  intro x hx
  by_cases e : x = i
  · subst e
    rw [k.2]
    constructor
    · intro q y hy
      rcases c with c | c
      · exact q y (by omega)
      · rw [k.2.mpr q] at c; cases c
    · exact fun q y hy => q y (by omega)
  · rw [k.1 x e]; exact h x (by omega)
def tgR (Sp : Nat → Nat) (D : Nat → Bool) (z a b : Nat) : Prop := ∀ k, k < z → D k = true → bt (nI (Sp k)) a = bt (nI (Sp k)) b
