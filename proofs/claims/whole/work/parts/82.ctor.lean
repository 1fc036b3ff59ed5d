/-! ===== 82.ctor: methods that make cells ===== -/
abbrev rmc (f lo cs ss : Nat) : Room := { frames := f, cells := cs, slots := ss, locals := lo }
abbrev PC (dC : Nat → ClassId) (dI : Nat → Nat → Nat) (cI cJ cZ : ClassId) (av : List Value) (sz : Nat) (ws : va_W) : Array Value → State → Prop := va_Pc av (fun U => U.heap.size = sz ∧ va_P (dC, dI) cls ws U.heap ∧ KK dC dI cI cJ cZ U ∧ va_D (fun _ => True) ws)
section CTOR
variable {dC : Nat → ClassId} {dI : Nat → Nat → Nat} {cI cJ cZ : ClassId}
theorem pre_C {s : State} {H : Heap} {av : List Value} {ws : va_W} {A : Nat → Prop} (hP : va_P (dC, dI) cls ws H) (hK : KK dC dI cI cJ cZ s) (hD : va_D A ws) : PreS s H (PC dC dI cI cJ cZ av H.size ws) av :=
  ⟨fun a U g mk q => ⟨q.1, q.2.1, q.2.2.1, q.2.2.2.1.blind g mk a, q.2.2.2.2⟩, fun U hU hW => ⟨rfl, by rw [hU], by rw [hU]; exact hP, hK.warm hW, hD.weaken (fun _ _ _ _ => trivial)⟩⟩
variable {p : Program} {l : Launch} {e : Env} {R : Room} {s : State} {m : MethodId} {args : Array Value} {below : List Frame} {meth : Method} {c : Code} {H : Heap} {locs : List Loc} {cells slots : Nat} {Q : State → Prop}
variable {y : MethodName} {bytes cc : ByteArray} {maxL nL index f lo pc mc ms : Nat} {Pc : Array Value → State → Prop} {Qc : Array Value → State → Outcome → State → Prop} {free : Addr → Prop} {own : String} {b : Addr} {rest st0 : List Value} {ls : Array Slot}
theorem k_IN {host : String} (S : CallFix p m c cc nL s args TT own) (hM : Met l y (Cond.code y bytes maxL none :: TT) (rmc f lo mc ms) Pc Qc mc ms free) (hK : KK dC dI cI cJ cZ s) (hl : Cond.methodLinkNest own index y host ∈ NW) (him : Cond.instanceMethod y ∈ TT) (hini : Cond.initialized y.cls ∈ TT) (hco : Cond.code y bytes maxL none ∈ TT) (hy : y.name = "<init>")
    (hd : y.cls ≠ "java/lang/invoke/MethodHandle" ∧ y.cls ≠ "java/lang/invoke/VarHandle" ∧ (parseMethodDescriptor y.desc).map (fun d => d.parameters.length) = some 0) (hR : f + 1 ≤ R.frames ∧ 8 + (maxL + 11) + lo ≤ R.locals) (hp : PreS s H Pc [.ref b])
    (hsize : ls.size = nL) (hstack : st0 = .ref b :: rest) (hW : (rest.map fun v => v.category).sum ≤ 8) (hdg : decode cc pc = .ok (.invokespecial index, 3)) (hf : cells + mc ≤ R.cells ∧ slots + ms ≤ R.slots) :
    va_Run p l e R s m args below meth c H locs cells slots mc ms (F0 m pc ls st0) rest (Qc ([Value.ref b] : List Value).toArray) free :=
  va_runIN (As := []) S hM ⟨va_cnB 0 S.2.2.2.2 (gd_TT hco) rfl rfl rfl (hK.2 _ hl) (S.2.2.2.2 _ hini) hd hR, hy, S.2.2.2.2 _ him⟩ hp rfl rfl hsize hstack (lv_room (pc := pc) (ls := ls) (m := m) (rest := st0) hW) hdg hf
theorem k_I (S : CallFix p m c cc nL s args TT own) (hM : Met l y (Cond.code y bytes maxL none :: TT) (rmc f lo mc ms) Pc Qc mc ms free) (hl : Cond.methodLink own index y ∈ TT) (him : Cond.instanceMethod y ∈ TT) (hini : Cond.initialized y.cls ∈ TT) (hco : Cond.code y bytes maxL none ∈ TT) (hy : y.name = "<init>")
    (hd : y.cls ≠ "java/lang/invoke/MethodHandle" ∧ y.cls ≠ "java/lang/invoke/VarHandle" ∧ (parseMethodDescriptor y.desc).map (fun d => d.parameters.length) = some 0) (hR : f + 1 ≤ R.frames ∧ 8 + (maxL + 11) + lo ≤ R.locals) (hp : PreS s H Pc [.ref b])
    (hsize : ls.size = nL) (hstack : st0 = .ref b :: rest) (hW : (rest.map fun v => v.category).sum ≤ 8) (hdg : decode cc pc = .ok (.invokespecial index, 3)) (hf : cells + mc ≤ R.cells ∧ slots + ms ≤ R.slots) :
    va_Run p l e R s m args below meth c H locs cells slots mc ms (F0 m pc ls st0) rest (Qc ([Value.ref b] : List Value).toArray) free :=
  va_runI (As := []) S hM ⟨callB_of 0 S.2.2.2.2 (gd_TT hco) rfl rfl rfl (S.2.2.2.2 _ hini) (S.2.2.2.2 _ hl) hd hR, hy, S.2.2.2.2 _ him⟩ hp rfl rfl hsize hstack (lv_room (pc := pc) (ls := ls) (m := m) (rest := st0) hW) hdg hf
variable {D : va_G} {cl : List vw_C} {A0 : Nat → Prop} {H0 : Heap} {ws wc wr : va_W} {a : Array Value}
/-- behind a call that makes cells -/
theorem x_cn {S : Type} {post : S → Prop} {w1 : S → va_W} (hr : va_Run p l e R s m args below meth c H locs cells slots mc ms (F0 m pc ls st0) rest (va_Qv post (fun u t => va_P D cl (w1 u) t.heap ∧ va_D (va_A wc H.size) (w1 u)) (va_A wc H.size) a) (va_A wc H.size)) (hP : va_P D cl ws H) (hD : va_D A0 ws) (hS : va_S A0 H0 H locs) (hA : ∀ q, H0.size ≤ q → A0 q) (isC isR : List Nat) (hC : isC.map (fun i => ws[i]?) = wc.map some) (hRr : isR.map (fun i => ws[i]?) = wr.map some) (hn : va_nd isR = true) (hdis : ∀ i ∈ isR, i ∉ isC)
    (kk : ∀ (u : S) (H1 : Heap) (locs1 : List Loc), post u → va_P D cl (wr ++ w1 u) H1 → va_D A0 (wr ++ w1 u) → va_S A0 H0 H1 locs1 → W p l e R s m args below meth c H1 locs1 (cells + mc) (slots + ms) Q (F0 m (pc + 3) ls rest)) : W p l e R s m args below meth c H locs cells slots Q (F0 m pc ls st0) := by
  have hFc := va_free hD hS hA isC hC
  refine va_callv hr hS (fun q _ h => hFc q h) hFc (fun u t H1 locs1 ht _ hp hB _ hk hS1 => ?_)
  obtain ⟨hP1, hD1⟩ := hB
  rw [ht] at hP1
  obtain ⟨h1, h2⟩ := va_join hP hD isC isR hC hRr hn hdis hk hFc hP1 hD1
  exact kk u H1 locs1 hp h1 h2 hS1
/-- a new row, its class one of the three -/
theorem x_na (hexec : p.tables.exec = Jvm.exec) (hb : c.code = cc) {atype : ArrayType} (harr : (Cond.arrayClass (newarray.typeOf atype)).before args s = true) {ty : FieldType} (hty : newarray.typeOf atype = ty) (hK : KK dC dI cI cJ cZ s) (hP : va_P (dC, dI) cls ws H) (hD : va_D A0 ws) (hS : va_S A0 H0 H locs) (hA : ∀ q, H0.size ≤ q → A0 q)
    (t0 : Nat) {cT : ClassId} (ht : ([(cI, .int), (cJ, .long), (cZ, .boolean)] : List (ClassId × FieldType))[t0]? = some (cT, ty)) (hra : ∀ k : ClassId, va_RA s k ty → s.vm.findClass ("[" ++ ty.toString) = some k)
    {n : Int32} {N' : Nat} {a0 : vp_A} (ha : ∀ cA : ClassId, vp_cell cA a0 = arrV cA N' (fun _ => defaultValue ty)) (hn : ¬ n < 0) (hN : n.toNatClampNeg = N') (hbytes : N' * componentBytes ty ≤ 536870912) (hcells : cells + 1 ≤ R.cells) (hslots : slots + N' ≤ R.slots) (hdg : decode cc pc = .ok (.newarray atype, 2))
    (kk : ∀ (q : Nat) (H1 : Heap), va_P (dC, dI) cls (ws ++ [(q, .inl (cT, a0))]) H1 → va_D A0 (ws ++ [(q, .inl (cT, a0))]) → va_S A0 H0 H1 locs →
      W p l e R s m args below meth c H1 locs (cells + 1) (slots + N') Q (F0 m (pc + 2) ls (.ref q :: rest))) : W p l e R s m args below meth c H locs cells slots Q (F0 m pc ls (.int n :: rest)) := by
  refine va_newa hexec hb harr hty hK.1 hP hD hS hA ha hn hN hbytes hcells hslots hdg (fun q cA H1 hK1 hP1 hD1 hS1 => ?_)
  have e1 := hra cA (hK1.2 3 (cA, ty) rfl).2
  have e2 := hra cT (hK.1.2 t0 (cT, ty) ht).2
  have e : cA = cT := Option.some.inj (e1.symm.trans e2)
  rw [e] at hP1 hD1
  exact kk q H1 hP1 hD1 hS1
end CTOR
