/-! ===== 05.reach: counting, reachability ===== -/
def cn (p : Nat → Bool) : Nat → Nat
  | 0 => 0
  | n + 1 => cn p n + (p n).toNat
theorem cn_le (p : Nat → Bool) : ∀ n, cn p n ≤ n
  | 0 => Nat.le_refl 0
  | n + 1 => by
    have := cn_le p n
    have h : (p n).toNat ≤ 1 := Bool.toNat_le _
    simp only [cn]; omega
theorem cn_mono {p q : Nat → Bool} : ∀ {n : Nat}, (∀ i, i < n → p i = true → q i = true) → cn p n ≤ cn q n
  | 0, _ => Nat.le_refl 0
  | n + 1, h => by
    have h1 := cn_mono (n := n) (fun i hi => h i (by omega))
    have h2 : (p n).toNat ≤ (q n).toNat := by
      cases hp : p n
      · simp
      · rw [h n (by omega) hp]; exact Nat.le_refl _
    simp only [cn]; omega
theorem cn_congr {p q : Nat → Bool} : ∀ {n : Nat}, (∀ i, i < n → p i = q i) → cn p n = cn q n
  | 0, _ => rfl
  | n + 1, h => by simp only [cn]; rw [cn_congr (n := n) (fun i hi => h i (by omega)), h n (by omega)]
theorem cn_lt {p q : Nat → Bool} : ∀ {n : Nat}, (∀ i, i < n → p i = true → q i = true) → ∀ k, k < n → p k = false → q k = true → cn p n < cn q n
  | 0, _, k, hk, _, _ => absurd hk (Nat.not_lt_zero _)
  | n + 1, h, k, hk, h0, h1 => by
    by_cases e : k = n
    · subst e
      have := cn_mono (n := k) (fun i hi => h i (by omega))
      simp only [cn, h0, h1, Bool.toNat_false, Bool.toNat_true]; omega
    · have := cn_lt (n := n) (fun i hi => h i (by omega)) k (by omega) h0 h1
      have h2 : (p n).toNat ≤ (q n).toNat := by
        cases hp : p n
        · simp
        · rw [h n (by omega) hp]; exact Nat.le_refl _
      simp only [cn]; omega
theorem cn_pos {p : Nat → Bool} : ∀ {n : Nat} (k : Nat), k < n → p k = true → 0 < cn p n
  | 0, k, hk, _ => absurd hk (Nat.not_lt_zero _)
  | n + 1, k, hk, h => by
    by_cases e : k = n
    · subst e; simp only [cn, h, Bool.toNat_true]; omega
    · have := cn_pos (n := n) k (by omega) h
      simp only [cn]; omega
/-- b can be reached from a: it is in every closed set that has a -/
def Rc (E : Nat → Nat → Prop) (a b : Nat) : Prop := ∀ S : Nat → Prop, S a → (∀ x y, S x → E x y → S y) → S b
theorem Rc.rf (E : Nat → Nat → Prop) (a : Nat) : Rc E a a := fun _ h _ => h
theorem Rc.step {E : Nat → Nat → Prop} {a b c : Nat} (h : Rc E a b) (e : E b c) : Rc E a c := fun S h1 h2 => h2 b c (h S h1 h2) e
theorem Rc.one {E : Nat → Nat → Prop} {a b : Nat} (e : E a b) : Rc E a b := (Rc.rf E a).step e
theorem Rc.trans {E : Nat → Nat → Prop} {a b c : Nat} (h : Rc E a b) (k : Rc E b c) : Rc E a c := k (fun y => Rc E a y) h (fun _ _ h1 e => h1.step e)
theorem Rc.symm {E : Nat → Nat → Prop} (hs : ∀ x y, E x y → E y x) {a b : Nat} (h : Rc E a b) : Rc E b a :=
  h (fun y => Rc E y a) (Rc.rf E a) (fun _ _ h1 e => (Rc.one (hs _ _ e)).trans h1)
theorem Rc.mono {E F : Nat → Nat → Prop} (hs : ∀ x y, E x y → F x y) {a b : Nat} (h : Rc E a b) : Rc F a b :=
  h (fun y => Rc F a y) (Rc.rf F a) (fun _ _ h1 e => h1.step (hs _ _ e))
/-- the steps by rows of bits within a set -/
def rE (r : Nat → Int32) (w : Int32) (a b : Nat) : Prop := a < 14 ∧ bt (r a) b = true ∧ bt w b = true
/-- x is what can be reached from f -/
def SpR (r : Nat → Int32) (f : Nat) (w x : Int32) : Prop := ∀ y, bt x y = true ↔ Rc (rE r w) f y
theorem SpR.uniq {r : Nat → Int32} {f : Nat} {w x z : Int32} (h : SpR r f w x) (k : SpR r f w z) : x = z := by
  apply b_ext
  intro i _
  have := (h i).trans (k i).symm
  cases hx : bt x i <;> cases hz : bt z i <;> simp_all
/-- spread: between rounds; within a round -/
def spO (r : Nat → Int32) (f : Nat) (w sn bf : Int32) (rd : Nat) : Prop :=
  rd ≤ 14 ∧ bt sn f = true ∧ (∀ y, bt sn y = true → Rc (rE r w) f y ∧ y < 14) ∧ (sn = bf → ∀ a b, bt sn a = true → rE r w a b → bt sn b = true) ∧ (sn = bf ∨ rd < cn (bt sn) 14)
def spJ (r : Nat → Int32) (f : Nat) (w sn s2 : Int32) (i : Nat) : Prop :=
  (∀ y, bt sn y = true → bt s2 y = true) ∧ (∀ y, bt s2 y = true → Rc (rE r w) f y ∧ y < 14) ∧ ∀ a b, a < i → bt sn a = true → rE r w a b → bt s2 b = true
theorem spO_0 {r : Nat → Int32} {f : Nat} {w : Int32} (hf : f < 14) : spO r f w (sb f) (nI 0) 0 := by
  have h1 : ∀ y, bt (sb f) y = true → y = f := by
    intro y hy
    rcases Nat.lt_or_ge y 32 with h | h
    · rw [b_sb (by omega) h] at hy; simpa using hy
    · rw [b_big h] at hy; cases hy
  have h2 : bt (sb f) f = true := by rw [b_sb (by omega) (by omega)]; simp
  refine ⟨by omega, h2, fun y hy => ?_, fun h => ?_, Or.inr (cn_pos f hf h2)⟩
  · rw [h1 y hy]; exact ⟨Rc.rf _ _, hf⟩
  · rw [h] at h2; exact absurd h2 (by rw [show nI 0 = 0 from nI_0, b_0]; decide)
theorem spJ_0 {r : Nat → Int32} {f : Nat} {w sn bf : Int32} {rd : Nat} (h : spO r f w sn bf rd) : spJ r f w sn sn 0 :=
  ⟨fun _ h => h, h.2.2.1, fun _ _ h => absurd h (Nat.not_lt_zero _)⟩
theorem spJ_t {r : Nat → Int32} {f : Nat} {w sn s2 : Int32} {i : Nat} (hr : ∀ a b, rE r w a b → b < 14) (hi : i < 14) (h : spJ r f w sn s2 i) (c : bt s2 i = true) : spJ r f w sn (s2 ||| (r i &&& w)) (i + 1) := by
  obtain ⟨h1, h2, h3⟩ := h
  refine ⟨fun y hy => by rw [b_or, h1 y hy]; rfl, fun y hy => ?_, fun a b ha hs he => ?_⟩
  · rw [b_or, b_and] at hy
    rcases (Bool.or_eq_true _ _).mp hy with q | q
    · exact h2 y q
    · have q := (Bool.and_eq_true _ _).mp q
      have e : rE r w i y := ⟨hi, q.1, q.2⟩
      exact ⟨(h2 i c).1.step e, hr _ _ e⟩
  · rw [b_or, b_and]
    by_cases e : a = i
    · subst e; rw [he.2.1, he.2.2]; simp
    · rw [h3 a b (by omega) hs he]; rfl
theorem spJ_f {r : Nat → Int32} {f : Nat} {w sn s2 : Int32} {i : Nat} (h : spJ r f w sn s2 i) (c : bt s2 i = false) : spJ r f w sn s2 (i + 1) := by
  obtain ⟨h1, h2, h3⟩ := h
  refine ⟨h1, h2, fun a b ha hs he => ?_⟩
  by_cases e : a = i
  · subst e; rw [h1 a hs] at c; cases c
  · exact h3 a b (by omega) hs he
theorem spO_n {r : Nat → Int32} {f : Nat} {w sn bf s2 : Int32} {rd i : Nat} (h : spO r f w sn bf rd) (hrd : rd < 14) (hb : ¬ sn = bf) (j : spJ r f w sn s2 i) (hi : 14 ≤ i) : spO r f w s2 sn (rd + 1) := by
  obtain ⟨h1, h2, h3, h4, h5⟩ := h
  obtain ⟨j1, j2, j3⟩ := j
  refine ⟨by omega, j1 f h2, j2, fun e a b ha he => ?_, ?_⟩
  · subst e; exact j3 a b (by have := he.1; omega) ha he
  · by_cases e : s2 = sn
    · exact Or.inl e
    · right
      have hlt : rd < cn (bt sn) 14 := h5.resolve_left hb
      have hex : ∃ k, k < 32 ∧ bt s2 k = true ∧ bt sn k = false := by
        apply Classical.byContradiction
        intro hn
        apply e
        apply b_ext
        intro k hk
        cases h6 : bt sn k
        · cases h7 : bt s2 k
          · rfl
          · exact absurd ⟨k, hk, h7, h6⟩ hn
        · exact j1 k h6
      obtain ⟨k, hk, k1, k2⟩ := hex
      have := cn_lt (p := bt sn) (q := bt s2) (n := 14) (fun i _ => j1 i) k (j2 k k1).2 k2 k1
      omega
theorem spO_end {r : Nat → Int32} {f : Nat} {w sn bf : Int32} {rd : Nat} (h : spO r f w sn bf rd) (c : 14 ≤ rd ∨ sn = bf) : SpR r f w sn := by
  obtain ⟨h1, h2, h3, h4, h5⟩ := h
  have e : sn = bf := by
    rcases c with c | c
    · rcases h5 with q | q
      · exact q
      · have := cn_le (bt sn) 14; omega
    · exact c
  have hc := h4 e
  exact fun y => ⟨fun hy => (h3 y hy).1, fun hy => hy (fun y => bt sn y = true) h2 (fun a b ha he => hc a b ha he)⟩
