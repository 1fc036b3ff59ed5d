/-! ===== 26.flow: rooms, cuts, searches ===== -/
theorem sm_upd {f g : Nat → Nat} {d k0 : Nat} : ∀ {n : Nat}, k0 < n → (∀ k, k < n → k ≠ k0 → g k = f k) → g k0 = f k0 + d → sm g n = sm f n + d
  | 0, h, _, _ => absurd h (Nat.not_lt_zero _)
  | n + 1, h, hk, hd => by
    by_cases e : k0 = n
    · subst e
      have : sm g k0 = sm f k0 := sm_congr (fun i hi => hk i (by omega) (by omega))
      simp only [sm]; omega
    · have := sm_upd (n := n) (by omega) (fun k h1 h2 => hk k (by omega) h2) hd
      have h2 := hk n (by omega) (fun q => e q.symm)
      simp only [sm]; omega
/-- how much leads out of S -/
def ctr (C : Nat → Nat) (S : Nat → Bool) (i : Nat) : Nat := if S i = true then sm (fun j => if S j = true then 0 else C (i * 28 + j)) 28 else 0
def ct (C : Nat → Nat) (S : Nat → Bool) : Nat := sm (ctr C S) 28
theorem ct_up (C : Nat → Nat) (S : Nat → Bool) {i j v d : Nat} (hi : i < 28) (hj : j < 28) (hv : v = C (i * 28 + j) + d) : ct (va_up C (i * 28 + j) v) S = ct C S + (if (S i && !S j) = true then d else 0) := by
  unfold ct
  refine sm_upd hi (fun k hk hne => ?_) ?_
  · unfold ctr
    split
    · refine sm_congr (fun m hm => ?_)
      rw [va_up_o _ (by omega)]
    · rfl
  · unfold ctr
    by_cases h1 : S i = true
    · rw [if_pos h1, if_pos h1]
      refine sm_upd hj (fun k hk hne => ?_) ?_
      · rw [va_up_o _ (by omega)]
      · rw [va_up_s]
        by_cases h2 : S j = true
        · simp [h2]
        · simp [h1, h2, hv]
    · simp [h1]
theorem ct_dn (C : Nat → Nat) (S : Nat → Bool) {i j : Nat} (hi : i < 28) (hj : j < 28) (hv : 0 < C (i * 28 + j)) : ct (va_up C (i * 28 + j) (C (i * 28 + j) - 1)) S + (if (S i && !S j) = true then 1 else 0) = ct C S := by
  have h := ct_up (va_up C (i * 28 + j) (C (i * 28 + j) - 1)) S (v := C (i * 28 + j)) (d := 1) hi hj (by rw [va_up_s]; omega)
  rw [← h]
  congr 1
  funext k
  by_cases e : k = i * 28 + j
  · subst e; rw [va_up_s]
  · rw [va_up_o _ e, va_up_o _ e]
/-- one step back along the way -/
theorem ct_step (C : Nat → Nat) (S : Nat → Bool) {l p : Nat} (hl : l < 28) (hp : p < 28) (hne : l ≠ p) (hv : 0 < C (l * 28 + p)) {C1 C2 : Nat → Nat} (h1 : C1 = va_up C (l * 28 + p) (C (l * 28 + p) - 1)) (h2 : C2 = va_up C1 (p * 28 + l) (C1 (p * 28 + l) + 1)) :
    ct C2 S + (S l).toNat = ct C S + (S p).toNat := by
  have a := ct_dn C S hl hp hv
  rw [← h1] at a
  have b := ct_up C1 S (v := C1 (p * 28 + l) + 1) (d := 1) hp hl rfl
  rw [← h2] at b
  cases q1 : S l <;> cases q2 : S p <;> simp [q1, q2] at a b ⊢ <;> omega
/-- the rows of points to which some may flow -/
def OPI (C : Nat → Nat) (O : Nat → Int32) : Prop := ∀ i j, i < 28 → (bt (O i) j = true ↔ (j < 28 ∧ 0 < C (i * 28 + j)))
theorem OPI_0 {O : Nat → Int32} (h : ∀ j, j < 28 → O j = nI 0) : OPI (fun _ => 0) O := by
  intro i j hi
  rw [h i hi, show nI 0 = 0 from nI_0, b_0]
  constructor
  · intro q; cases q
  · intro q; exact absurd q.2 (Nat.lt_irrefl 0)
theorem OPI_p {C : Nat → Nat} {O : Nat → Int32} {f t v : Nat} (h : OPI C O) (hf : f < 28) (ht : t < 28) (hv : 0 < v) : OPI (va_up C (f * 28 + t) v) (va_up O f (O f ||| sb t)) := by
  intro i j hi
  by_cases e : i = f
  · subst e
    rw [va_up_s, b_or', h i j hi, b_sb' (by omega)]
    by_cases q : j = t
    · subst q; rw [va_up_s]; exact ⟨fun _ => ⟨ht, hv⟩, fun _ => Or.inr rfl⟩
    · constructor
      · rintro (z | z)
        · rw [va_up_o _ (by omega)]; exact z
        · exact absurd z q
      · rintro ⟨z1, z2⟩
        rw [va_up_o _ (by omega)] at z2
        exact Or.inl ⟨z1, z2⟩
  · rw [va_up_o _ e, h i j hi]
    constructor
    · rintro ⟨z1, z2⟩; exact ⟨z1, by rw [va_up_o _ (by omega)]; exact z2⟩
    · rintro ⟨z1, z2⟩; rw [va_up_o _ (by omega)] at z2; exact ⟨z1, z2⟩
theorem OPI_z {C : Nat → Nat} {O : Nat → Int32} {f t v : Nat} (h : OPI C O) (hf : f < 28) (ht : t < 28) (hv : v = 0) : OPI (va_up C (f * 28 + t) v) (va_up O f (O f &&& (sb t ^^^ (-1)))) := by
  intro i j hi
  by_cases e : i = f
  · subst e
    rw [va_up_s, b_and', h i j hi]
    by_cases q : j = t
    · subst q; rw [va_up_s, hv]
      constructor
      · rintro ⟨-, z⟩
        rw [b_not' (by omega), Bool.eq_false_iff] at z
        exact absurd ((b_sb' (by omega)).mpr rfl) z
      · rintro ⟨-, z⟩; exact absurd z (Nat.lt_irrefl 0)
    · constructor
      · rintro ⟨z, -⟩
        rw [va_up_o _ (by omega)]; exact z
      · rintro ⟨z1, z2⟩
        rw [va_up_o _ (by omega)] at z2
        refine ⟨⟨z1, z2⟩, ?_⟩
        rw [b_not' (by omega), Bool.eq_false_iff]
        exact fun z => q ((b_sb' (by omega)).mp z)
  · rw [va_up_o _ e, h i j hi]
    constructor
    · rintro ⟨z1, z2⟩; exact ⟨z1, by rw [va_up_o _ (by omega)]; exact z2⟩
    · rintro ⟨z1, z2⟩; rw [va_up_o _ (by omega)] at z2; exact ⟨z1, z2⟩
def oE (O : Nat → Int32) (a b : Nat) : Prop := a < 28 ∧ bt (O a) b = true
/-- what was seen from f, and whence each was first seen -/
def TR (O : Nat → Int32) (f : Nat) (sn : Int32) (B : Nat → Nat) : Prop :=
  bt sn f = true ∧ (∀ y, bt sn y = true → y < 28 ∧ Rc (oE O) f y) ∧ ∃ d : Nat → Nat, (∀ y, bt sn y = true → d y < cn (bt sn) 28) ∧ ∀ y, bt sn y = true → y ≠ f → bt sn (B y) = true ∧ oE O (B y) y ∧ d (B y) < d y
theorem TR_0 {O : Nat → Int32} {f : Nat} (hf : f < 28) (B : Nat → Nat) : TR O f (sb f) B := by
  have h1 : ∀ y, bt (sb f) y = true → y = f := fun y hy => (b_sb' (by omega)).mp hy
  have h2 : bt (sb f) f = true := (b_sb' (by omega)).mpr rfl
  exact ⟨h2, fun y hy => by rw [h1 y hy]; exact ⟨hf, Rc.rf _ _⟩, fun _ => 0, fun y _ => cn_pos f hf h2, fun y hy hne => absurd (h1 y hy) hne⟩
/-- a point shows its fresh ones -/
theorem TR_n {O : Nat → Int32} {f : Nat} {sn fr : Int32} {B B9 : Nat → Nat} {p : Nat} (hO : ∀ a b, oE O a b → b < 28) (h : TR O f sn B) (hp : bt sn p = true) (hfr : fr = O p &&& (sn ^^^ (-1))) (hB : ∀ y, y < 28 → B9 y = if bt fr y = true then p else B y) : TR O f (sn ||| fr) B9 := by
  obtain ⟨h1, h2, d, h3, h4⟩ := h
  have hf1 : ∀ y, bt fr y = true → oE O p y ∧ bt sn y = false := by
    intro y hy
    rw [hfr, b_and'] at hy
    have hpo : oE O p y := ⟨(h2 p hp).1, hy.1⟩
    have := hO p y hpo
    exact ⟨hpo, (b_not' (by omega)).mp hy.2⟩
  have mono : ∀ y, bt sn y = true → bt (sn ||| fr) y = true := fun y hy => b_or'.mpr (Or.inl hy)
  have hle : cn (bt sn) 28 ≤ cn (bt (sn ||| fr)) 28 := cn_mono (fun i _ => mono i)
  refine ⟨mono f h1, fun y hy => ?_, fun y => if bt fr y = true then cn (bt sn) 28 else d y, fun y hy => ?_, fun y hy hne => ?_⟩
  · rcases b_or'.mp hy with q | q
    · exact h2 y q
    · exact ⟨hO p y (hf1 y q).1, (h2 p hp).2.step (hf1 y q).1⟩
  · by_cases q : bt fr y = true
    · simp only [if_pos q]
      exact cn_lt (fun i _ => mono i) y (hO p y (hf1 y q).1) (hf1 y q).2 hy
    · simp only [if_neg q]
      have := h3 y ((b_or'.mp hy).resolve_right q)
      omega
  · have hy28 : y < 28 := by
      rcases b_or'.mp hy with q | q
      · exact (h2 y q).1
      · exact hO p y (hf1 y q).1
    rw [hB y hy28]
    have hold : ∀ z, bt sn z = true → ¬ bt fr z = true := fun z hz q => by
      have := (hf1 z q).2; rw [hz] at this; cases this
    by_cases q : bt fr y = true
    · simp only [if_pos q, if_neg (hold p hp)]
      exact ⟨mono p hp, (hf1 y q).1, h3 p hp⟩
    · have hs := (b_or'.mp hy).resolve_right q
      obtain ⟨a1, a2, a3⟩ := h4 y hs hne
      simp only [if_neg q, if_neg (hold _ a1)]
      exact ⟨mono _ a1, a2, a3⟩
def seO (O : Nat → Int32) (f : Nat) (sn kn : Int32) (B : Nat → Nat) (rd : Nat) : Prop :=
  rd ≤ 28 ∧ TR O f sn B ∧ (sn = kn → ∀ a b, bt sn a = true → oE O a b → bt sn b = true) ∧ (sn = kn ∨ rd < cn (bt sn) 28)
def seJ (O : Nat → Int32) (f : Nat) (kn sn : Int32) (B : Nat → Nat) (i : Nat) : Prop :=
  TR O f sn B ∧ (∀ y, bt kn y = true → bt sn y = true) ∧ ∀ a b, a < i → bt kn a = true → oE O a b → bt sn b = true
theorem seO_0 {O : Nat → Int32} {f : Nat} (hf : f < 28) (B : Nat → Nat) : seO O f (sb f) (nI 0) B 0 := by
  have h2 : bt (sb f) f = true := (b_sb' (by omega)).mpr rfl
  refine ⟨by omega, TR_0 hf B, fun h => ?_, Or.inr (cn_pos f hf h2)⟩
  rw [h, show nI 0 = 0 from nI_0, b_0] at h2; cases h2
theorem seJ_0 {O : Nat → Int32} {f : Nat} {sn kn : Int32} {B : Nat → Nat} {rd : Nat} (h : seO O f sn kn B rd) : seJ O f sn sn B 0 :=
  ⟨h.2.1, fun _ h => h, fun _ _ h => absurd h (Nat.not_lt_zero _)⟩
theorem seJ_f {O : Nat → Int32} {f : Nat} {kn sn : Int32} {B : Nat → Nat} {i : Nat} (h : seJ O f kn sn B i) (c : bt sn i = false) : seJ O f kn sn B (i + 1) := by
  refine ⟨h.1, h.2.1, fun a b ha hk he => ?_⟩
  by_cases e : a = i
  · subst e; rw [h.2.1 a hk] at c; cases c
  · exact h.2.2 a b (by omega) hk he
theorem seJ_t {O : Nat → Int32} {f : Nat} {kn sn s9 : Int32} {B B9 : Nat → Nat} {i : Nat} (hO : ∀ a b, oE O a b → b < 28) (h : seJ O f kn sn B i) (c : bt sn i = true) (e9 : s9 = sn ||| (O i &&& (sn ^^^ (-1)))) (hB : ∀ y, y < 28 → B9 y = if bt (O i &&& (sn ^^^ (-1))) y = true then i else B y) : seJ O f kn s9 B9 (i + 1) := by
  subst e9
  refine ⟨TR_n hO h.1 c rfl hB, fun y hy => b_or'.mpr (Or.inl (h.2.1 y hy)), fun a b ha hk he => ?_⟩
  by_cases e : a = i
  · subst e
    rw [b_or']
    by_cases q : bt sn b = true
    · exact Or.inl q
    · right
      rw [b_and', b_not' (by have := hO a b he; omega)]
      exact ⟨he.2, Bool.eq_false_iff.mpr q⟩
  · exact b_or'.mpr (Or.inl (h.2.2 a b (by omega) hk he))
theorem seO_n {O : Nat → Int32} {f : Nat} {sn kn s2 : Int32} {B B2 : Nat → Nat} {rd i : Nat} (h : seO O f sn kn B rd) (hrd : rd < 28) (hb : ¬ sn = kn) (j : seJ O f sn s2 B2 i) (hi : 28 ≤ i) : seO O f s2 sn B2 (rd + 1) := by
  obtain ⟨h1, h2, h3, h4⟩ := h
  obtain ⟨j1, j2, j3⟩ := j
  refine ⟨by omega, j1, fun e a b ha he => ?_, ?_⟩
  · subst e; exact j3 a b (by have := he.1; omega) ha he
  · by_cases e : s2 = sn
    · exact Or.inl e
    · right
      have hlt : rd < cn (bt sn) 28 := h4.resolve_left hb
      have hex : ∃ k, k < 32 ∧ bt s2 k = true ∧ bt sn k = false := by
        apply Classical.byContradiction
        intro hn
        apply e
        apply b_ext
        intro k hk
        cases h6 : bt sn k
        · cases h7 : bt s2 k
          · rfl
          · exact absurd ⟨k, hk, h7, h6⟩ hn
        · exact j2 k h6
      obtain ⟨k, hk, k1, k2⟩ := hex
      have := cn_lt (p := bt sn) (q := bt s2) (n := 28) (fun i _ => j2 i) k (j1.2.1 k k1).1 k2 k1
      omega
theorem seO_e {O : Nat → Int32} {f : Nat} {sn kn : Int32} {B : Nat → Nat} {rd : Nat} (h : seO O f sn kn B rd) (c : 28 ≤ rd ∨ sn = kn) : TR O f sn B ∧ ∀ a b, bt sn a = true → oE O a b → bt sn b = true := by
  obtain ⟨h1, h2, h3, h4⟩ := h
  have e : sn = kn := by
    rcases c with c | c
    · rcases h4 with q | q
      · exact q
      · have := cn_le (bt sn) 28; omega
    · exact c
  exact ⟨h2, h3 e⟩
theorem OPI.lt {C : Nat → Nat} {O : Nat → Int32} (h : OPI C O) : ∀ a b, oE O a b → b < 28 := fun a b he => ((h a b he.1).mp he.2).1
/-- push: from the end back to the start -/
def puI (C : Nat → Nat) (f t : Nat) (sn : Int32) (B d : Nat → Nat) (C2 : Nat → Nat) (pt st bd : Nat) : Prop :=
  bt sn pt = true ∧ d pt + st ≤ d t ∧ (∀ S : Nat → Bool, ct C2 S + (S pt).toNat = ct C S + (S t).toNat) ∧ (∀ y, bt sn y = true → y ≠ f → d y ≤ d pt → C2 (B y * 28 + y) = C (B y * 28 + y)) ∧ ∀ p, C2 p ≤ bd + st
theorem puI_n {C : Nat → Nat} {O : Nat → Int32} {f t : Nat} {sn : Int32} {B d C2 C3 C4 : Nat → Nat} {pt st bd : Nat} (hO : OPI C O) (hd2 : ∀ y, bt sn y = true → y ≠ f → bt sn (B y) = true ∧ oE O (B y) y ∧ d (B y) < d y) (h28 : ∀ y, bt sn y = true → y < 28)
    (h : puI C f t sn B d C2 pt st bd) (hne : pt ≠ f) (e3 : C3 = va_up C2 (B pt * 28 + pt) (C2 (B pt * 28 + pt) - 1)) (e4 : C4 = va_up C3 (pt * 28 + B pt) (C3 (pt * 28 + B pt) + 1)) : puI C f t sn B d C4 (B pt) (st + 1) bd := by
  obtain ⟨h1, h2, h3, h4, h5⟩ := h
  obtain ⟨a1, a2, a3⟩ := hd2 pt h1 hne
  have l1 := h28 pt h1
  have l2 := h28 _ a1
  have hne2 : B pt ≠ pt := fun q => by rw [q] at a3; omega
  have hpos : 0 < C2 (B pt * 28 + pt) := by rw [h4 pt h1 hne (Nat.le_refl _)]; exact ((hO _ _ a2.1).mp a2.2).2
  refine ⟨a1, by omega, fun S => ?_, fun y hy hyf hyd => ?_, fun p => ?_⟩
  · rw [ct_step C2 S l2 l1 hne2 hpos e3 e4]; exact h3 S
  · have hyp : y ≠ pt := fun q => by subst q; omega
    have l3 := h28 y hy
    have b3 := hd2 y hy hyf
    have l4 := h28 _ b3.1
    have n1 : B y * 28 + y ≠ pt * 28 + B pt := fun q => by
      have q1 : B y = pt := by omega
      have q2 : y = B pt := by omega
      have := b3.2.2
      rw [q1] at this; subst q2; omega
    have n2 : B y * 28 + y ≠ B pt * 28 + pt := fun q => hyp (by omega)
    rw [e4, va_up_o _ n1, e3, va_up_o _ n2]
    exact h4 y hy hyf (by omega)
  · rw [e4]
    by_cases q : p = pt * 28 + B pt
    · subst q; rw [va_up_s, e3]
      by_cases r : pt * 28 + B pt = B pt * 28 + pt
      · rw [r, va_up_s]; have := h5 (B pt * 28 + pt); omega
      · rw [va_up_o _ r]; have := h5 (pt * 28 + B pt); omega
    · rw [va_up_o _ q, e3]
      by_cases r : p = B pt * 28 + pt
      · subst r; rw [va_up_s]; have := h5 (B pt * 28 + pt); omega
      · rw [va_up_o _ r]; have := h5 p; omega
/-- the least cut -/
def MC (C : Nat → Nat) (f t fd : Nat) (sn : Int32) : Prop :=
  bt sn f = true ∧ bt sn t = false ∧ ct C (bt sn) = fd ∧ (∀ S : Nat → Bool, S f = true → S t = false → fd ≤ ct C S) ∧ ∀ S : Nat → Bool, S f = true → S t = false → ct C S = fd → ∀ y, bt sn y = true → S y = true
theorem sm_zero {f : Nat → Nat} : ∀ {n : Nat}, sm f n = 0 → ∀ i, i < n → f i = 0
  | 0, _, i, hi => absurd hi (Nat.not_lt_zero _)
  | n + 1, h, i, hi => by
    simp only [sm] at h
    by_cases e : i = n
    · subst e; omega
    · exact sm_zero (n := n) (by omega) i (by omega)
theorem zero_sm {f : Nat → Nat} : ∀ {n : Nat}, (∀ i, i < n → f i = 0) → sm f n = 0
  | 0, _ => rfl
  | n + 1, h => by simp only [sm]; rw [zero_sm (fun i hi => h i (by omega)), h n (by omega)]
theorem ct_zero {C : Nat → Nat} {O : Nat → Int32} {S : Nat → Bool} (hO : OPI C O) (h : ct C S = 0) : ∀ a b, S a = true → oE O a b → S b = true := by
  intro a b ha he
  have h1 := sm_zero h a he.1
  unfold ctr at h1
  rw [if_pos ha] at h1
  have hb := (hO a b he.1).mp he.2
  have h2 := sm_zero h1 b hb.1
  by_cases q : S b = true
  · exact q
  · rw [if_neg q] at h2; omega
theorem zero_ct {C : Nat → Nat} {O : Nat → Int32} {S : Nat → Bool} (hO : OPI C O) (h : ∀ a b, S a = true → oE O a b → S b = true) : ct C S = 0 := by
  refine zero_sm (fun i hi => ?_)
  unfold ctr
  split
  · rename_i hs
    refine zero_sm (fun j hj => ?_)
    split
    · rfl
    · rename_i hn
      apply Classical.byContradiction
      intro q
      exact hn (h i j hs ⟨hi, (hO i j hi).mpr ⟨hj, by omega⟩⟩)
  · rfl
def fiI (C : Nat → Nat) (f t : Nat) (C2 : Nat → Nat) (O2 : Nat → Int32) (fd : Nat) : Prop :=
  OPI C2 O2 ∧ (∀ S : Nat → Bool, S f = true → S t = false → ct C2 S + fd = ct C S) ∧ ∀ p, C2 p ≤ 300 + 28 * fd
theorem fiI_e {C : Nat → Nat} {f t : Nat} {C2 : Nat → Nat} {O2 : Nat → Int32} {fd : Nat} {sn : Int32} {B : Nat → Nat} (h : fiI C f t C2 O2 fd) (hT : TR O2 f sn B) (hc : ∀ a b, bt sn a = true → oE O2 a b → bt sn b = true) (ht : bt sn t = false) : MC C f t fd sn := by
  obtain ⟨h1, h2, h3⟩ := h
  refine ⟨hT.1, ht, ?_, fun S s1 s2 => ?_, fun S s1 s2 s3 y hy => ?_⟩
  · rw [← h2 _ hT.1 ht, zero_ct h1 hc, Nat.zero_add]
  · have := h2 S s1 s2; omega
  · have h4 : ct C2 S = 0 := by have := h2 S s1 s2; omega
    exact (hT.2.1 y hy).2 (fun y => S y = true) s1 (fun a b ha he => ct_zero h1 h4 a b ha he)
theorem fiI_n {C : Nat → Nat} {f t : Nat} {C2 C3 : Nat → Nat} {O2 O3 : Nat → Int32} {fd : Nat} (h : fiI C f t C2 O2 fd) (hO : OPI C3 O3) (hc : ∀ S : Nat → Bool, ct C3 S + (S f).toNat = ct C2 S + (S t).toNat) (hb : ∀ p, C3 p ≤ 300 + 28 * fd + 28) : fiI C f t C3 O3 (fd + 1) := by
  refine ⟨hO, fun S s1 s2 => ?_, fun p => by have := hb p; omega⟩
  have a := hc S
  have b := h.2.1 S s1 s2
  rw [s1, s2] at a
  simp at a
  omega
theorem x_cong {D : va_G} {cl : List vw_C} {A : Nat → Prop} {ws : va_W} {H : Heap} {a n : Nat} {cA : ClassId} {f g : Nat → Int32} (hP : va_P D cl ws H) (hD : va_D A ws) (p : Nat) (hp : ws[p]? = some (a, .inl (cA, n, .inl f))) (h : ∀ j, j < n → f j = g j) : va_P D cl (ws.set p (a, .inl (cA, n, .inl g))) H := by
  refine hP.set hD hp ?_ (fun _ _ => rfl)
  have h0 := hP p _ hp
  show H[a]? = some (vp_cell cA (n, .inl g))
  rw [show vp_cell cA (n, .inl g) = vp_cell cA (n, .inl f) from ?_]
  · exact h0
  · rw [vp_cell_i, vp_cell_i]
    unfold arrV
    congr 1
    apply congrArg
    funext j
    show Value.int (g j.val) = Value.int (f j.val)
    rw [h j.val j.isLt]

section IFN
variable {p : Program} {l : Launch} {e : Env} {R : Room} {s : State} {m : MethodId} {args : Array Value} {below : List Frame} {meth : Method} {c : Code} {H : Heap} {locs : List Loc} {cells slots : Nat} {Q : State → Prop}
variable {cc : ByteArray} {pc : Nat} {ls : Array Slot} {rest : List Value}
theorem x_ifN_le (hexec : p.tables.exec = Jvm.exec) (hb : c.code = cc) {a : Nat} {off : Int} {tgt : Nat} (ha : a < 2 ^ 31) (hdg : decode cc pc = .ok (.ifCond .le off, 3)) (ht : (pc : Int) + off = (tgt : Int))
    (kt : a = 0 → W p l e R s m args below meth c H locs cells slots Q (F0 m tgt ls rest)) (kf : 0 < a → W p l e R s m args below meth c H locs cells slots Q (F0 m (pc + 3) ls rest)) : W p l e R s m args below meth c H locs cells slots Q (F0 m pc ls (.int (nI a) :: rest)) :=
  lv_if_le hexec hb hdg ht (fun h => kt (by rcases Nat.eq_zero_or_pos a with q | q; exact q; exact absurd h (nI_nle q ha))) (fun h => kf (by rcases Nat.eq_zero_or_pos a with q | q; exact absurd (by rw [q, nI_0]; exact Int32.le_refl 0) h; exact q))
end IFN
/-- arcs laid into the rooms -/
def laI (F G : Nat → Nat) (pr : Int64) (C2 : Nat → Nat) (O2 : Nat → Int32) (i : Nat) : Prop := OPI C2 O2 ∧ (∀ S : Nat → Bool, ct C2 S = cn (fun e => lb pr e && (S (F e) != S (G e))) i) ∧ ∀ p, C2 p ≤ 2 * i
theorem ct_0 (S : Nat → Bool) : ct (fun _ => 0) S = 0 := by
  refine zero_sm (fun i _ => ?_)
  unfold ctr
  split
  · refine zero_sm (fun j _ => ?_)
    split <;> rfl
  · rfl
theorem laI_0 {F G : Nat → Nat} {pr : Int64} {O2 : Nat → Int32} (h : ∀ j, j < 28 → O2 j = nI 0) : laI F G pr (fun _ => 0) O2 0 := ⟨OPI_0 h, fun S => ct_0 S, fun _ => Nat.le_refl 0⟩
theorem laI_f {F G : Nat → Nat} {pr : Int64} {C2 : Nat → Nat} {O2 : Nat → Int32} {i : Nat} (h : laI F G pr C2 O2 i) (c : lb pr i = false) : laI F G pr C2 O2 (i + 1) := by
  refine ⟨h.1, fun S => ?_, fun p => by have := h.2.2 p; omega⟩
  rw [h.2.1 S]; simp [cn, c]
theorem up_le {C : Nat → Nat} {k b : Nat} (h : ∀ p, C p ≤ b) : ∀ p, va_up C k (C k + 1) p ≤ b + 1 := fun p => by
  by_cases e : p = k
  · subst e; rw [va_up_s]; have := h p; omega
  · rw [va_up_o _ e]; have := h p; omega
theorem laI_t {F G : Nat → Nat} {pr : Int64} {C2 : Nat → Nat} {O2 O4 : Nat → Int32} {i : Nat} (hF : ∀ k, F k < 14) (hG : ∀ k, G k < 14) (h : laI F G pr C2 O2 i) (c : lb pr i = true) {C3 C4 : Nat → Nat} (e3 : C3 = va_up C2 (F i * 28 + G i) (C2 (F i * 28 + G i) + 1)) (e4 : C4 = va_up C3 (G i * 28 + F i) (C3 (G i * 28 + F i) + 1)) (hO : OPI C4 O4) : laI F G pr C4 O4 (i + 1) := by
  have l1 := hF i
  have l2 := hG i
  refine ⟨hO, fun S => ?_, ?_⟩
  · have a := ct_up C2 S (v := C2 (F i * 28 + G i) + 1) (d := 1) (i := F i) (j := G i) (by omega) (by omega) rfl
    rw [← e3] at a
    have b := ct_up C3 S (v := C3 (G i * 28 + F i) + 1) (d := 1) (i := G i) (j := F i) (by omega) (by omega) rfl
    rw [← e4] at b
    rw [b, a, h.2.1 S]
    simp only [cn, c, Bool.true_and]
    cases S (F i) <;> cases S (G i) <;> simp
  · have a := up_le (k := F i * 28 + G i) h.2.2
    rw [← e3] at a
    have b := up_le (k := G i * 28 + F i) a
    rw [← e4] at b
    intro p; have := b p; omega
/-- nodes laid into the rooms -/
def lnF (N : Nat → Int32) (S : Nat → Bool) (v : Nat) : Nat := (S v && !S (v + 14)).toNat + cn (fun w => bt (N v) w && (S (v + 14) && !S w)) 14
def lnI (N : Nat → Int32) (C2 : Nat → Nat) (O2 : Nat → Int32) (u : Nat) : Prop := OPI C2 O2 ∧ (∀ S : Nat → Bool, ct C2 S = sm (lnF N S) u) ∧ ∀ p, C2 p ≤ 15 * u
def lnJ (N : Nat → Int32) (C2 : Nat → Nat) (O2 : Nat → Int32) (u j : Nat) : Prop := OPI C2 O2 ∧ (∀ S : Nat → Bool, ct C2 S = sm (lnF N S) u + ((S u && !S (u + 14)).toNat + cn (fun w => bt (N u) w && (S (u + 14) && !S w)) j)) ∧ ∀ p, C2 p ≤ 15 * u + 1 + j
theorem lnI_0 {N : Nat → Int32} {O2 : Nat → Int32} (h : ∀ j, j < 28 → O2 j = nI 0) : lnI N (fun _ => 0) O2 0 := ⟨OPI_0 h, fun S => ct_0 S, fun _ => Nat.le_refl 0⟩
theorem lnJ_0 {N : Nat → Int32} {C2 : Nat → Nat} {O2 O3 : Nat → Int32} {u : Nat} (hu : u < 14) (h : lnI N C2 O2 u) (hO : OPI (va_up C2 (u * 28 + (u + 14)) (C2 (u * 28 + (u + 14)) + 1)) O3) : lnJ N (va_up C2 (u * 28 + (u + 14)) (C2 (u * 28 + (u + 14)) + 1)) O3 u 0 := by
  refine ⟨hO, fun S => ?_, fun p => ?_⟩
  · rw [ct_up C2 S (d := 1) (by omega) (by omega) rfl, h.2.1 S]
    cases S u <;> cases S (u + 14) <;> simp [cn]
  · have := up_le (k := u * 28 + (u + 14)) h.2.2 p; omega
theorem lnJ_f {N : Nat → Int32} {C2 : Nat → Nat} {O2 : Nat → Int32} {u j : Nat} (h : lnJ N C2 O2 u j) (c : bt (N u) j = false) : lnJ N C2 O2 u (j + 1) := by
  refine ⟨h.1, fun S => ?_, fun p => by have := h.2.2 p; omega⟩
  rw [h.2.1 S]; simp [cn, c]
theorem lnJ_t {N : Nat → Int32} {C2 : Nat → Nat} {O2 O3 : Nat → Int32} {u j : Nat} (hu : u < 14) (hj : j < 14) (h : lnJ N C2 O2 u j) (c : bt (N u) j = true) (hO : OPI (va_up C2 ((u + 14) * 28 + j) (C2 ((u + 14) * 28 + j) + 1)) O3) : lnJ N (va_up C2 ((u + 14) * 28 + j) (C2 ((u + 14) * 28 + j) + 1)) O3 u (j + 1) := by
  refine ⟨hO, fun S => ?_, fun p => ?_⟩
  · rw [ct_up C2 S (d := 1) (by omega) (by omega) rfl, h.2.1 S]
    simp only [cn, c, Bool.true_and]
    cases S j <;> cases S (u + 14) <;> simp <;> omega
  · have := up_le (k := (u + 14) * 28 + j) h.2.2 p; omega
theorem lnI_n {N : Nat → Int32} {C2 : Nat → Nat} {O2 : Nat → Int32} {u j : Nat} (h : lnJ N C2 O2 u j) (hj : j = 14) : lnI N C2 O2 (u + 1) := by
  subst hj
  refine ⟨h.1, fun S => ?_, fun p => by have := h.2.2 p; omega⟩
  rw [h.2.1 S]; rfl
