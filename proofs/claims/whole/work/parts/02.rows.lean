/-! ===== 02.rows: the contracts' form, calls, rows with natural numbers as indices ===== -/
def bI (b : Bool) : Int32 := if b then 1 else 0
theorem bI_0 (b : Bool) : bI b = 0 ↔ b = false := by cases b <;> decide
theorem bI_n (b : Bool) : ¬ bI b = 0 ↔ b = true := by cases b <;> decide
theorem bI_nar (b : Bool) : narrow .boolean (.int (bI b)) = .int (bI b) := by cases b <;> rfl
theorem bI_vp (b : Bool) : vp_nar .boolean (bI b) = bI b := by cases b <;> rfl
theorem bI_nI (b : Bool) : bI b = nI b.toNat := by cases b <;> rfl
/-- the places of a world's cells -/
def ow (ws : va_W) : Nat → Prop := fun q => ∃ (k : Nat) (e : va_E), ws[k]? = some (q, e)
theorem va_D.mine {A : Nat → Prop} {ws : va_W} (h : va_D A ws) : va_D (ow ws) ws := ⟨h.1, fun k q hk => ⟨k, q.2, hk⟩⟩
theorem va_D.addr {A : Nat → Prop} {ws ws' : va_W} (h : va_D A ws) (e : ws'.map Prod.fst = ws.map Prod.fst) : va_D A ws' := by
  have key : ∀ (k : Nat) (q : Nat × va_E), ws'[k]? = some q → ∃ q0, ws[k]? = some q0 ∧ q0.1 = q.1 := by
    intro k q hk
    have h1 : (ws'.map Prod.fst)[k]? = some q.1 := by rw [List.getElem?_map, hk]; rfl
    rw [e, List.getElem?_map] at h1
    cases hq : ws[k]? with
    | none => rw [hq] at h1; cases h1
    | some q0 => rw [hq] at h1; exact ⟨q0, rfl, Option.some.inj h1⟩
  refine ⟨fun i j x y hi hj hxy => ?_, fun k q hk => ?_⟩
  · obtain ⟨x0, a1, a2⟩ := key i x hi
    obtain ⟨y0, b1, b2⟩ := key j y hj
    exact h.1 i j x0 y0 a1 b1 (a2.trans (hxy.trans b2.symm))
  · obtain ⟨q0, a1, a2⟩ := key k q hk
    rw [← a2]; exact h.2 k q0 a1
/-- some places of a list get new entries -/
def repl : List Nat → va_W → va_W → va_W
  | i :: is, x :: xs, ws => repl is xs (ws.set i x)
  | _, _, ws => ws
theorem repl_get : ∀ (is : List Nat) (xs ws : va_W) (k : Nat) (q : Nat × va_E), is.length = xs.length → (repl is xs ws)[k]? = some q → (∃ j : Nat, xs[j]? = some q) ∨ (k ∉ is ∧ ws[k]? = some q)
  | [], [], ws, k, q, _, h => Or.inr ⟨List.not_mem_nil, h⟩
  | i :: is, x :: xs, ws, k, q, hl, h => by
    rcases repl_get is xs (ws.set i x) k q (by simpa using hl) h with ⟨j, hj⟩ | ⟨hk, hq⟩
    · exact Or.inl ⟨j + 1, by rw [List.getElem?_cons_succ]; exact hj⟩
    · by_cases hki : k = i
      · subst hki
        rw [List.getElem?_set] at hq
        simp at hq
        exact Or.inl ⟨0, by simp [hq.2]⟩
      · rw [List.getElem?_set_ne (Ne.symm hki)] at hq
        exact Or.inr ⟨fun hm => (List.mem_cons.mp hm).elim hki hk, hq⟩
theorem repl_P {A : Nat → Prop} {D : va_G} {cl : List vw_C} {ws wc w1 : va_W} {H H1 : Heap} (hP : va_P D cl ws H) (hD : va_D A ws) (is : List Nat) (hC : is.map (fun i => ws[i]?) = wc.map some) (hl : is.length = w1.length)
    (hk : ∀ q : Nat, q < H.size → ¬ ow wc q → H1[q]? = H[q]?) (hP1 : va_P D cl w1 H1) : va_P D cl (repl is w1 ws) H1 := by
  intro k q hq
  rcases repl_get is w1 ws k q hl hq with ⟨j, hj⟩ | ⟨hki, hw⟩
  · exact hP1 j q hj
  · refine (hP k q hw).kept (hk q.1 (hP k q hw).lt ?_)
    rintro ⟨j, e, hj⟩
    have h1 : (is.map (fun i => ws[i]?))[j]? = some (some (q.1, e)) := by rw [hC, List.getElem?_map, hj]; rfl
    rw [List.getElem?_map] at h1
    cases hi : is[j]? with
    | none => rw [hi] at h1; cases h1
    | some i =>
      rw [hi] at h1
      have h2 : ws[i]? = some (q.1, e) := Option.some.inj h1
      have := hD.1 k i q (q.1, e) hw h2 rfl
      subst this
      exact hki (List.mem_of_getElem? hi)
theorem ow_sub {A : Nat → Prop} {ws wc : va_W} (hD : va_D A ws) (is : List Nat) (hC : is.map (fun i => ws[i]?) = wc.map some) : ∀ q, ow wc q → A q := by
  rintro q ⟨j, e, hj⟩
  have h1 : (is.map (fun i => ws[i]?))[j]? = some (some (q, e)) := by rw [hC, List.getElem?_map, hj]; rfl
  rw [List.getElem?_map] at h1
  cases hi : is[j]? with
  | none => rw [hi] at h1; cases h1
  | some i => rw [hi] at h1; exact hD.2 i (q, e) (Option.some.inj h1)
theorem NW_nest {w : Cond} (h : w ∈ NW) : ∃ a i x t, w = .methodLinkNest a i x t := by
  have h0 : NW.all (fun w => match w with | .methodLinkNest .. => true | _ => false) = true := by decide +kernel
  have h1 := List.all_eq_true.mp h0 w h
  cases w <;> first | exact ⟨_, _, _, _, rfl⟩ | simp at h1
/-- what stays: classes, array classes, links among nest mates -/
def KK (dC : Nat → ClassId) (dI : Nat → Nat → Nat) (cI cJ cZ : ClassId) (U : State) : Prop := va_K (dC, dI) cls [(cI, .int), (cJ, .long), (cZ, .boolean)] U ∧ ∀ w ∈ NW, va_Nw w U
theorem KK.warm {dC : Nat → ClassId} {dI : Nat → Nat → Nat} {cI cJ cZ : ClassId} {s U : State} (hW : s.WarmedH U.vm) (h : KK dC dI cI cJ cZ s) : KK dC dI cI cJ cZ U := by
  refine ⟨va_K.moved hW.alike h.1, fun w hw => ?_⟩
  obtain ⟨a, i, x, t, rfl⟩ := NW_nest hw
  exact va_Nw.warmM hW (h.2 _ hw)
theorem KK.blind {dC : Nat → ClassId} {dI : Nat → Nat → Nat} {cI cJ cZ : ClassId} {U : State} (g : JFrame) (mk : MethodId) (a : Array Value) (h : KK dC dI cI cJ cZ U) : KK dC dI cI cJ cZ (U.calling g mk a) := by
  refine ⟨va_K.moved (u := U) (U := U.calling g mk a) (Vm.Alike.refl U.vm) h.1, fun w hw => ?_⟩
  obtain ⟨a', i, x, t, rfl⟩ := NW_nest hw
  exact va_Nw.same (u := U) (U := U.calling g mk a) rfl rfl (h.2 _ hw)
abbrev rmk (f lo : Nat) : Room := { frames := f, cells := 0, slots := 0, locals := lo }
/-- starts: a method that reads, a method that writes -/
abbrev PR (dC : Nat → ClassId) (dI : Nat → Nat → Nat) (cI cJ cZ : ClassId) (av : List Value) (ws : va_W) : Array Value → State → Prop := va_Pc av (fun U => va_P (dC, dI) cls ws U.heap ∧ KK dC dI cI cJ cZ U)
abbrev PM (dC : Nat → ClassId) (dI : Nat → Nat → Nat) (cI cJ cZ : ClassId) (av : List Value) (ws : va_W) : Array Value → State → Prop := va_Pc av (fun U => va_P (dC, dI) cls ws U.heap ∧ KK dC dI cI cJ cZ U ∧ va_D (fun _ => True) ws)
section PRE
variable {dC : Nat → ClassId} {dI : Nat → Nat → Nat} {cI cJ cZ : ClassId} {s : State} {H : Heap} {av : List Value} {ws : va_W}
theorem pre_R (hP : va_P (dC, dI) cls ws H) (hK : KK dC dI cI cJ cZ s) : PreS s H (PR dC dI cI cJ cZ av ws) av :=
  ⟨fun a U g mk q => ⟨q.1, q.2.1, q.2.2.blind g mk a⟩, fun U hU hW => ⟨rfl, by rw [hU]; exact hP, hK.warm hW⟩⟩
theorem pre_M {A : Nat → Prop} (hP : va_P (dC, dI) cls ws H) (hK : KK dC dI cI cJ cZ s) (hD : va_D A ws) : PreS s H (PM dC dI cI cJ cZ av ws) av :=
  ⟨fun a U g mk q => ⟨q.1, q.2.1, q.2.2.1.blind g mk a, q.2.2.2⟩, fun U hU hW => ⟨rfl, by rw [hU]; exact hP, hK.warm hW, hD.weaken (fun _ _ _ _ => trivial)⟩⟩
theorem preV_R {b q0 ci : Nat} {q : vw_C} {fs : List Value} (hP : va_P (dC, dI) cls ws H) (hK : KK dC dI cI cJ cZ s) (hc : cls[ci]? = some q) (he : ws[q0]? = some (b, .inr (ci, fs))) : PreV s H q.1 b (PR dC dI cI cJ cZ (.ref b :: av) ws) av :=
  ⟨(pre_R hP hK).1, va_recv hK.1 hP hc he, (pre_R (av := .ref b :: av) hP hK).2⟩
theorem preV_M {A : Nat → Prop} {b q0 ci : Nat} {q : vw_C} {fs : List Value} (hP : va_P (dC, dI) cls ws H) (hK : KK dC dI cI cJ cZ s) (hD : va_D A ws) (hc : cls[ci]? = some q) (he : ws[q0]? = some (b, .inr (ci, fs))) : PreV s H q.1 b (PM dC dI cI cJ cZ (.ref b :: av) ws) av :=
  ⟨(pre_M hP hK hD).1, va_recv hK.1 hP hc he, (pre_M (av := .ref b :: av) hP hK hD).2⟩
end PRE
theorem gd_TT {c : Cond} (hc : c ∈ TT) : GoodIn TT (c :: TT) := fun w hw => (List.mem_cons.mp hw).elim (fun e => e ▸ ⟨hc, TT_good hc⟩) (fun h => ⟨h, TT_good h⟩)
section CALLS
variable {p : Program} {l : Launch} {e : Env} {R : Room} {s : State} {m : MethodId} {args : Array Value} {below : List Frame} {meth : Method} {c : Code} {H : Heap} {locs : List Loc} {cells slots : Nat} {Q : State → Prop}
variable {y : MethodName} {bytes cc : ByteArray} {maxL nL n index f lo pc : Nat} {ret : Option FieldType} {Pc : Array Value → State → Prop} {Qc : Array Value → State → Outcome → State → Prop} {free : Addr → Prop} {own : String} {b : Addr} {As rest st0 : List Value} {ls : Array Slot}
theorem k_S (S : CallFix p m c cc nL s args TT own) (hM : Met l y (Cond.code y bytes maxL ret :: TT) (rmk f lo) Pc Qc 0 0 free) (hl : Cond.methodLink own index y ∈ TT) (hst : Cond.static y ∈ TT) (hini : Cond.initialized y.cls ∈ TT) (hco : Cond.code y bytes maxL ret ∈ TT)
    (hd : y.cls ≠ "java/lang/invoke/MethodHandle" ∧ y.cls ≠ "java/lang/invoke/VarHandle" ∧ (parseMethodDescriptor y.desc).map (fun d => d.parameters.length) = some n) (hR : f + 1 ≤ R.frames ∧ 8 + (maxL + 11) + lo ≤ R.locals) (hp : PreS s H Pc As)
    (hn : As.length = n) (hsize : ls.size = nL) (hstack : st0 = As.reverse ++ rest) (hW : (rest.map fun v => v.category).sum ≤ 8) (hdg : decode cc pc = .ok (.invokestatic index, 3)) (hf : cells ≤ R.cells ∧ slots ≤ R.slots) :
    va_Run p l e R s m args below meth c H locs cells slots 0 0 (F0 m pc ls st0) rest (Qc As.toArray) free :=
  va_runS S hM ⟨callB_of n S.2.2.2.2 (gd_TT hco) rfl rfl rfl (S.2.2.2.2 _ hini) (S.2.2.2.2 _ hl) hd hR, S.2.2.2.2 _ hst⟩ hp rfl hn hsize hstack (lv_room (pc := pc) (ls := ls) (m := m) (rest := st0) hW) hdg hf
theorem k_SN {host : String} {dC : Nat → ClassId} {dI : Nat → Nat → Nat} {cI cJ cZ : ClassId} (S : CallFix p m c cc nL s args TT own) (hM : Met l y (Cond.code y bytes maxL ret :: TT) (rmk f lo) Pc Qc 0 0 free) (hK : KK dC dI cI cJ cZ s) (hl : Cond.methodLinkNest own index y host ∈ NW) (hst : Cond.static y ∈ TT) (hini : Cond.initialized y.cls ∈ TT) (hco : Cond.code y bytes maxL ret ∈ TT)
    (hd : y.cls ≠ "java/lang/invoke/MethodHandle" ∧ y.cls ≠ "java/lang/invoke/VarHandle" ∧ (parseMethodDescriptor y.desc).map (fun d => d.parameters.length) = some n) (hR : f + 1 ≤ R.frames ∧ 8 + (maxL + 11) + lo ≤ R.locals) (hp : PreS s H Pc As)
    (hn : As.length = n) (hsize : ls.size = nL) (hstack : st0 = As.reverse ++ rest) (hW : (rest.map fun v => v.category).sum ≤ 8) (hdg : decode cc pc = .ok (.invokestatic index, 3)) (hf : cells ≤ R.cells ∧ slots ≤ R.slots) :
    va_Run p l e R s m args below meth c H locs cells slots 0 0 (F0 m pc ls st0) rest (Qc As.toArray) free :=
  va_runSN S hM ⟨va_cnB n S.2.2.2.2 (gd_TT hco) rfl rfl rfl (hK.2 _ hl) (S.2.2.2.2 _ hini) hd hR, S.2.2.2.2 _ hst, trivial⟩ hp rfl hn hsize hstack (lv_room (pc := pc) (ls := ls) (m := m) (rest := st0) hW) hdg hf
theorem k_V {C : String} (S : CallFix p m c cc nL s args TT own) (hM : Met l y (Cond.code y bytes maxL ret :: TT) (rmk f lo) Pc Qc 0 0 free) (hl : Cond.methodLink own index y ∈ TT) (him : Cond.instanceMethod y ∈ TT) (hse : Cond.selects C y y ∈ TT) (hini : Cond.initialized y.cls ∈ TT) (hco : Cond.code y bytes maxL ret ∈ TT)
    (hd : y.cls ≠ "java/lang/invoke/MethodHandle" ∧ y.cls ≠ "java/lang/invoke/VarHandle" ∧ (parseMethodDescriptor y.desc).map (fun d => d.parameters.length) = some n) (hR : f + 1 ≤ R.frames ∧ 8 + (maxL + 11) + lo ≤ R.locals) (hp : PreV s H C b Pc As)
    (hn : As.length = n) (hsize : ls.size = nL) (hstack : st0 = As.reverse ++ .ref b :: rest) (hW : (rest.map fun v => v.category).sum ≤ 8) (hdg : decode cc pc = .ok (.invokevirtual index, 3)) (hf : cells ≤ R.cells ∧ slots ≤ R.slots) :
    va_Run p l e R s m args below meth c H locs cells slots 0 0 (F0 m pc ls st0) rest (Qc (Value.ref b :: As).toArray) free :=
  va_runV S hM ⟨callB_of n S.2.2.2.2 (gd_TT hco) rfl rfl rfl (S.2.2.2.2 _ hini) (S.2.2.2.2 _ hl) hd hR, S.2.2.2.2 _ him, S.2.2.2.2 _ hse⟩ hp rfl hn hsize hstack (lv_room (pc := pc) (ls := ls) (m := m) (rest := st0) hW) hdg hf
variable {D : va_G} {cl : List vw_C} {A0 : Nat → Prop} {H0 : Heap} {ws wc : va_W} {a : Array Value}
/-- behind a call that writes: its cells are new, the others as they were -/
theorem x_cv {S : Type} {post : S → Prop} {w1 : S → va_W} (hr : va_Run p l e R s m args below meth c H locs cells slots 0 0 (F0 m pc ls st0) rest (va_Qv post (fun u t => va_P D cl (w1 u) t.heap) (ow wc) a) (ow wc)) (hP : va_P D cl ws H) (hD : va_D A0 ws) (hS : va_S A0 H0 H locs) (is : List Nat) (hC : is.map (fun i => ws[i]?) = wc.map some) (hl : ∀ u, is.length = (w1 u).length)
    (kk : ∀ (u : S) (H1 : Heap) (locs1 : List Loc), post u → va_P D cl (repl is (w1 u) ws) H1 → va_S A0 H0 H1 locs1 → W p l e R s m args below meth c H1 locs1 cells slots Q (F0 m (pc + 3) ls rest)) : W p l e R s m args below meth c H locs cells slots Q (F0 m pc ls st0) := by
  refine va_callv hr hS (fun q _ h => ow_sub hD is hC q h) (ow_sub hD is hC) (fun u t H1 locs1 ht _ hp hB _ hk hS1 => ?_)
  exact kk u H1 locs1 hp (repl_P hP hD is hC (hl u) hk (by rw [← ht]; exact hB)) hS1
theorem x_ci {S : Type} {post : Int32 → S → Prop} {w1 : S → va_W} (hr : va_Run p l e R s m args below meth c H locs cells slots 0 0 (F0 m pc ls st0) rest (va_Qi post (fun u t => va_P D cl (w1 u) t.heap) (ow wc) a) (ow wc)) (hP : va_P D cl ws H) (hD : va_D A0 ws) (hS : va_S A0 H0 H locs) (is : List Nat) (hC : is.map (fun i => ws[i]?) = wc.map some) (hl : ∀ u, is.length = (w1 u).length)
    (kk : ∀ (r : Int32) (u : S) (H1 : Heap) (locs1 : List Loc), post r u → va_P D cl (repl is (w1 u) ws) H1 → va_S A0 H0 H1 locs1 → W p l e R s m args below meth c H1 locs1 cells slots Q (F0 m (pc + 3) ls (.int r :: rest))) : W p l e R s m args below meth c H locs cells slots Q (F0 m pc ls st0) := by
  refine va_calli hr hS (fun q _ h => ow_sub hD is hC q h) (ow_sub hD is hC) (fun r u t H1 locs1 ht _ hp hB _ hk hS1 => ?_)
  exact kk r u H1 locs1 hp (repl_P hP hD is hC (hl u) hk (by rw [← ht]; exact hB)) hS1
theorem x_cl {S : Type} {post : Int64 → S → Prop} {w1 : S → va_W} (hr : va_Run p l e R s m args below meth c H locs cells slots 0 0 (F0 m pc ls st0) rest (va_Ql post (fun u t => va_P D cl (w1 u) t.heap) (ow wc) a) (ow wc)) (hP : va_P D cl ws H) (hD : va_D A0 ws) (hS : va_S A0 H0 H locs) (is : List Nat) (hC : is.map (fun i => ws[i]?) = wc.map some) (hl : ∀ u, is.length = (w1 u).length)
    (kk : ∀ (r : Int64) (u : S) (H1 : Heap) (locs1 : List Loc), post r u → va_P D cl (repl is (w1 u) ws) H1 → va_S A0 H0 H1 locs1 → W p l e R s m args below meth c H1 locs1 cells slots Q (F0 m (pc + 3) ls (.long r :: rest))) : W p l e R s m args below meth c H locs cells slots Q (F0 m pc ls st0) := by
  refine va_calll hr hS (fun q _ h => ow_sub hD is hC q h) (ow_sub hD is hC) (fun r u t H1 locs1 ht _ hp hB _ hk hS1 => ?_)
  exact kk r u H1 locs1 hp (repl_P hP hD is hC (hl u) hk (by rw [← ht]; exact hB)) hS1
end CALLS
section NUMS
variable {p : Program} {l : Launch} {e : Env} {R : Room} {s : State} {m : MethodId} {args : Array Value} {below : List Frame} {meth : Method} {c : Code} {H : Heap} {locs : List Loc} {cells slots : Nat} {Q : State → Prop}
variable {cc : ByteArray} {pc : Nat} {ls : Array Slot} {rest : List Value} {D : va_G} {cl : List vw_C} {A : Nat → Prop} {a : Nat} {tys : List (ClassId × FieldType)} {ws : va_W} {H0 : Heap}
/-- the value on top by another name -/
theorem xe_i {x y : Int32} (h : x = y) (k : W p l e R s m args below meth c H locs cells slots Q (F0 m pc ls (.int y :: rest))) : W p l e R s m args below meth c H locs cells slots Q (F0 m pc ls (.int x :: rest)) := h ▸ k
theorem xe_l {x y : Int64} (h : x = y) (k : W p l e R s m args below meth c H locs cells slots Q (F0 m pc ls (.long y :: rest))) : W p l e R s m args below meth c H locs cells slots Q (F0 m pc ls (.long x :: rest)) := h ▸ k
theorem x_iald (hexec : p.tables.exec = Jvm.exec) (hb : c.code = cc) (hK : va_K D cl tys s) (hP : va_P D cl ws H) (q0 t0 : Nat) {cA : ClassId} {n : Nat} {f : Nat → Int32} (ha : ws[q0]? = some (a, .inl (cA, n, .inl f))) (ht : tys[t0]? = some (cA, .int)) {j : Nat} (hj : j < n) (hn : n < 2 ^ 31) (hdg : decode cc pc = .ok (.iaload, 1))
    (kk : W p l e R s m args below meth c H locs cells slots Q (F0 m (pc + 1) ls (.int (f j) :: rest))) : W p l e R s m args below meth c H locs cells slots Q (F0 m pc ls (.int (nI j) :: .ref a :: rest)) := by
  refine va_iald hexec hb hK hP q0 t0 ha ht (vp_in_nI hj hn) hdg ?_
  rw [nI_clamp (Nat.lt_trans hj hn)]; exact kk
theorem x_zald (hexec : p.tables.exec = Jvm.exec) (hb : c.code = cc) (hK : va_K D cl tys s) (hP : va_P D cl ws H) (q0 t0 : Nat) {cA : ClassId} {n : Nat} {f : Nat → Int32} (ha : ws[q0]? = some (a, .inl (cA, n, .inl f))) (ht : tys[t0]? = some (cA, .boolean)) {j : Nat} (hj : j < n) (hn : n < 2 ^ 31) (hdg : decode cc pc = .ok (.baload, 1))
    (kk : W p l e R s m args below meth c H locs cells slots Q (F0 m (pc + 1) ls (.int (f j) :: rest))) : W p l e R s m args below meth c H locs cells slots Q (F0 m pc ls (.int (nI j) :: .ref a :: rest)) := by
  refine va_zald hexec hb hK hP q0 t0 ha ht (vp_in_nI hj hn) hdg ?_
  rw [nI_clamp (Nat.lt_trans hj hn)]; exact kk
theorem x_lald (hexec : p.tables.exec = Jvm.exec) (hb : c.code = cc) (hK : va_K D cl tys s) (hP : va_P D cl ws H) (q0 t0 : Nat) {cA : ClassId} {n : Nat} {f : Nat → Int64} (ha : ws[q0]? = some (a, .inl (cA, n, .inr (.inl f)))) (ht : tys[t0]? = some (cA, .long)) {j : Nat} (hj : j < n) (hn : n < 2 ^ 31) (hdg : decode cc pc = .ok (.laload, 1))
    (kk : W p l e R s m args below meth c H locs cells slots Q (F0 m (pc + 1) ls (.long (f j) :: rest))) : W p l e R s m args below meth c H locs cells slots Q (F0 m pc ls (.int (nI j) :: .ref a :: rest)) := by
  refine va_lald hexec hb hK hP q0 t0 ha ht (vp_in_nI hj hn) hdg ?_
  rw [nI_clamp (Nat.lt_trans hj hn)]; exact kk
theorem x_iast (hexec : p.tables.exec = Jvm.exec) (hb : c.code = cc) (hK : va_K D cl tys s) (hP : va_P D cl ws H) (hD : va_D A ws) (hS : va_S A H0 H locs) (q0 t0 : Nat) {cA : ClassId} {n : Nat} {f : Nat → Int32} (ha : ws[q0]? = some (a, .inl (cA, n, .inl f))) (ht : tys[t0]? = some (cA, .int)) {j : Nat} {x : Int32} {g : Nat → Int32} (hg : va_up f j x = g) (hj : j < n) (hn : n < 2 ^ 31) (hdg : decode cc pc = .ok (.iastore, 1))
    (kk : ∀ (H1 : Heap) (locs1 : List Loc), va_P D cl (ws.set q0 (a, .inl (cA, n, .inl g))) H1 → va_D A (ws.set q0 (a, .inl (cA, n, .inl g))) → va_S A H0 H1 locs1 → W p l e R s m args below meth c H1 locs1 cells slots Q (F0 m (pc + 1) ls rest)) : W p l e R s m args below meth c H locs cells slots Q (F0 m pc ls (.int x :: .int (nI j) :: .ref a :: rest)) := by
  subst hg
  refine va_iast hexec hb hK hP hD hS q0 t0 ha ht (vp_in_nI hj hn) hdg ?_
  rw [nI_clamp (Nat.lt_trans hj hn)]; exact kk
theorem x_zast (hexec : p.tables.exec = Jvm.exec) (hb : c.code = cc) (hK : va_K D cl tys s) (hP : va_P D cl ws H) (hD : va_D A ws) (hS : va_S A H0 H locs) (q0 t0 : Nat) {cA : ClassId} {n : Nat} {f : Nat → Int32} (ha : ws[q0]? = some (a, .inl (cA, n, .inl f))) (ht : tys[t0]? = some (cA, .boolean)) {j : Nat} {b : Bool} {g : Nat → Int32} (hg : va_up f j (bI b) = g) (hj : j < n) (hn : n < 2 ^ 31) (hdg : decode cc pc = .ok (.bastore, 1))
    (kk : ∀ (H1 : Heap) (locs1 : List Loc), va_P D cl (ws.set q0 (a, .inl (cA, n, .inl g))) H1 → va_D A (ws.set q0 (a, .inl (cA, n, .inl g))) → va_S A H0 H1 locs1 → W p l e R s m args below meth c H1 locs1 cells slots Q (F0 m (pc + 1) ls rest)) : W p l e R s m args below meth c H locs cells slots Q (F0 m pc ls (.int (bI b) :: .int (nI j) :: .ref a :: rest)) := by
  subst hg
  refine va_zast hexec hb hK hP hD hS q0 t0 ha ht (vp_in_nI hj hn) hdg ?_
  rw [nI_clamp (Nat.lt_trans hj hn), bI_vp]; exact kk
theorem x_last (hexec : p.tables.exec = Jvm.exec) (hb : c.code = cc) (hK : va_K D cl tys s) (hP : va_P D cl ws H) (hD : va_D A ws) (hS : va_S A H0 H locs) (q0 t0 : Nat) {cA : ClassId} {n : Nat} {f : Nat → Int64} (ha : ws[q0]? = some (a, .inl (cA, n, .inr (.inl f)))) (ht : tys[t0]? = some (cA, .long)) {j : Nat} {x : Int64} {g : Nat → Int64} (hg : va_up f j x = g) (hj : j < n) (hn : n < 2 ^ 31) (hdg : decode cc pc = .ok (.lastore, 1))
    (kk : ∀ (H1 : Heap) (locs1 : List Loc), va_P D cl (ws.set q0 (a, .inl (cA, n, .inr (.inl g)))) H1 → va_D A (ws.set q0 (a, .inl (cA, n, .inr (.inl g)))) → va_S A H0 H1 locs1 → W p l e R s m args below meth c H1 locs1 cells slots Q (F0 m (pc + 1) ls rest)) : W p l e R s m args below meth c H locs cells slots Q (F0 m pc ls (.long x :: .int (nI j) :: .ref a :: rest)) := by
  subst hg
  refine va_last hexec hb hK hP hD hS q0 t0 ha ht (vp_in_nI hj hn) hdg ?_
  rw [nI_clamp (Nat.lt_trans hj hn)]; exact kk
/-- branches on natural numbers -/
theorem x_cmp_ge (hexec : p.tables.exec = Jvm.exec) (hb : c.code = cc) {a b : Nat} {off : Int} {tgt : Nat} (ha : a < 2 ^ 31) (hb2 : b < 2 ^ 31) (hdg : decode cc pc = .ok (.if_icmp .ge off, 3)) (ht : (pc : Int) + off = (tgt : Int))
    (kt : b ≤ a → W p l e R s m args below meth c H locs cells slots Q (F0 m tgt ls rest)) (kf : a < b → W p l e R s m args below meth c H locs cells slots Q (F0 m (pc + 3) ls rest)) : W p l e R s m args below meth c H locs cells slots Q (F0 m pc ls (.int (nI b) :: .int (nI a) :: rest)) :=
  lv_icmp_ge hexec hb hdg ht (fun h => kt ((nI_leI hb2 ha).mp h)) (fun h => kf (Nat.lt_of_not_le fun q => h ((nI_leI hb2 ha).mpr q)))
theorem x_cmp_lt (hexec : p.tables.exec = Jvm.exec) (hb : c.code = cc) {a b : Nat} {off : Int} {tgt : Nat} (ha : a < 2 ^ 31) (hb2 : b < 2 ^ 31) (hdg : decode cc pc = .ok (.if_icmp .lt off, 3)) (ht : (pc : Int) + off = (tgt : Int))
    (kt : a < b → W p l e R s m args below meth c H locs cells slots Q (F0 m tgt ls rest)) (kf : b ≤ a → W p l e R s m args below meth c H locs cells slots Q (F0 m (pc + 3) ls rest)) : W p l e R s m args below meth c H locs cells slots Q (F0 m pc ls (.int (nI b) :: .int (nI a) :: rest)) :=
  lv_icmp_lt hexec hb hdg ht (fun h => kt ((nI_ltI ha hb2).mp h)) (fun h => kf (Nat.le_of_not_lt fun q => h ((nI_ltI ha hb2).mpr q)))
theorem x_cmp_gt (hexec : p.tables.exec = Jvm.exec) (hb : c.code = cc) {a b : Nat} {off : Int} {tgt : Nat} (ha : a < 2 ^ 31) (hb2 : b < 2 ^ 31) (hdg : decode cc pc = .ok (.if_icmp .gt off, 3)) (ht : (pc : Int) + off = (tgt : Int))
    (kt : b < a → W p l e R s m args below meth c H locs cells slots Q (F0 m tgt ls rest)) (kf : a ≤ b → W p l e R s m args below meth c H locs cells slots Q (F0 m (pc + 3) ls rest)) : W p l e R s m args below meth c H locs cells slots Q (F0 m pc ls (.int (nI b) :: .int (nI a) :: rest)) :=
  lv_icmp_gt hexec hb hdg ht (fun h => kt ((nI_ltI hb2 ha).mp h)) (fun h => kf (Nat.le_of_not_lt fun q => h ((nI_ltI hb2 ha).mpr q)))
theorem x_cmp_le (hexec : p.tables.exec = Jvm.exec) (hb : c.code = cc) {a b : Nat} {off : Int} {tgt : Nat} (ha : a < 2 ^ 31) (hb2 : b < 2 ^ 31) (hdg : decode cc pc = .ok (.if_icmp .le off, 3)) (ht : (pc : Int) + off = (tgt : Int))
    (kt : a ≤ b → W p l e R s m args below meth c H locs cells slots Q (F0 m tgt ls rest)) (kf : b < a → W p l e R s m args below meth c H locs cells slots Q (F0 m (pc + 3) ls rest)) : W p l e R s m args below meth c H locs cells slots Q (F0 m pc ls (.int (nI b) :: .int (nI a) :: rest)) :=
  lv_icmp_le hexec hb hdg ht (fun h => kt ((nI_leI ha hb2).mp h)) (fun h => kf (Nat.lt_of_not_le fun q => h ((nI_leI ha hb2).mpr q)))
theorem x_cmp_eq (hexec : p.tables.exec = Jvm.exec) (hb : c.code = cc) {a b : Nat} {off : Int} {tgt : Nat} (ha : a < 2 ^ 31) (hb2 : b < 2 ^ 31) (hdg : decode cc pc = .ok (.if_icmp .eq off, 3)) (ht : (pc : Int) + off = (tgt : Int))
    (kt : a = b → W p l e R s m args below meth c H locs cells slots Q (F0 m tgt ls rest)) (kf : a ≠ b → W p l e R s m args below meth c H locs cells slots Q (F0 m (pc + 3) ls rest)) : W p l e R s m args below meth c H locs cells slots Q (F0 m pc ls (.int (nI b) :: .int (nI a) :: rest)) :=
  lv_icmp_eq hexec hb hdg ht (fun h => kt ((nI_eq ha hb2).mp h)) (fun h => kf fun q => h ((nI_eq ha hb2).mpr q))
theorem x_cmp_ne (hexec : p.tables.exec = Jvm.exec) (hb : c.code = cc) {a b : Nat} {off : Int} {tgt : Nat} (ha : a < 2 ^ 31) (hb2 : b < 2 ^ 31) (hdg : decode cc pc = .ok (.if_icmp .ne off, 3)) (ht : (pc : Int) + off = (tgt : Int))
    (kt : a ≠ b → W p l e R s m args below meth c H locs cells slots Q (F0 m tgt ls rest)) (kf : a = b → W p l e R s m args below meth c H locs cells slots Q (F0 m (pc + 3) ls rest)) : W p l e R s m args below meth c H locs cells slots Q (F0 m pc ls (.int (nI b) :: .int (nI a) :: rest)) :=
  lv_icmp_ne hexec hb hdg ht (fun h => kt fun q => h ((nI_eq ha hb2).mpr q)) (fun h => kf ((nI_eq ha hb2).mp h))
/-- branches on a truth -/
theorem x_if_eq (hexec : p.tables.exec = Jvm.exec) (hb : c.code = cc) {b : Bool} {off : Int} {tgt : Nat} (hdg : decode cc pc = .ok (.ifCond .eq off, 3)) (ht : (pc : Int) + off = (tgt : Int))
    (kt : b = false → W p l e R s m args below meth c H locs cells slots Q (F0 m tgt ls rest)) (kf : b = true → W p l e R s m args below meth c H locs cells slots Q (F0 m (pc + 3) ls rest)) : W p l e R s m args below meth c H locs cells slots Q (F0 m pc ls (.int (bI b) :: rest)) :=
  lv_if_eq hexec hb hdg ht (fun h => kt ((bI_0 b).mp h)) (fun h => kf ((bI_n b).mp h))
theorem x_if_ne (hexec : p.tables.exec = Jvm.exec) (hb : c.code = cc) {b : Bool} {off : Int} {tgt : Nat} (hdg : decode cc pc = .ok (.ifCond .ne off, 3)) (ht : (pc : Int) + off = (tgt : Int))
    (kt : b = true → W p l e R s m args below meth c H locs cells slots Q (F0 m tgt ls rest)) (kf : b = false → W p l e R s m args below meth c H locs cells slots Q (F0 m (pc + 3) ls rest)) : W p l e R s m args below meth c H locs cells slots Q (F0 m pc ls (.int (bI b) :: rest)) :=
  lv_if_ne hexec hb hdg ht (fun h => kt ((bI_n b).mp h)) (fun h => kf ((bI_0 b).mp h))
end NUMS
