theorem d_JA_fill_0 : decode prog_14_method_103_code 0 = .ok (.iconst 0, 1) := by decide +kernel
theorem d_JA_fill_1 : decode prog_14_method_103_code 1 = .ok (.istore_n 2, 1) := by decide +kernel
theorem d_JA_fill_2 : decode prog_14_method_103_code 2 = .ok (.aload_n 0, 1) := by decide +kernel
theorem d_JA_fill_3 : decode prog_14_method_103_code 3 = .ok (.arraylength, 1) := by decide +kernel
theorem d_JA_fill_4 : decode prog_14_method_103_code 4 = .ok (.istore_n 3, 1) := by decide +kernel
theorem d_JA_fill_5 : decode prog_14_method_103_code 5 = .ok (.iload_n 2, 1) := by decide +kernel
theorem d_JA_fill_6 : decode prog_14_method_103_code 6 = .ok (.iload_n 3, 1) := by decide +kernel
theorem d_JA_fill_7 : decode prog_14_method_103_code 7 = .ok (.if_icmp .ge 13, 3) := by decide +kernel
theorem d_JA_fill_10 : decode prog_14_method_103_code 10 = .ok (.aload_n 0, 1) := by decide +kernel
theorem d_JA_fill_11 : decode prog_14_method_103_code 11 = .ok (.iload_n 2, 1) := by decide +kernel
theorem d_JA_fill_12 : decode prog_14_method_103_code 12 = .ok (.iload_n 1, 1) := by decide +kernel
theorem d_JA_fill_13 : decode prog_14_method_103_code 13 = .ok (.iastore, 1) := by decide +kernel
theorem d_JA_fill_14 : decode prog_14_method_103_code 14 = .ok (.iinc 2 1, 3) := by decide +kernel
theorem d_JA_fill_17 : decode prog_14_method_103_code 17 = .ok (.goto (-12), 3) := by decide +kernel
theorem d_JA_fill_20 : decode prog_14_method_103_code 20 = .ok (.return_, 1) := by decide +kernel
theorem fill_s {g : Nat → Int32} {x : Int32} {i : Nat} (h : ∀ j, j < i → g j = x) : ∀ j, j < i + 1 → va_up g i x j = x := by
  intro j hj
  by_cases e : j = i
  · simp [va_up, e]
  · simp only [va_up, if_neg e]; exact h j (by omega)
set_option maxHeartbeats 4000000 in
set_option maxRecDepth 100000 in
theorem c_JA_fill (l : Launch) (dC : Nat → ClassId) (dI : Nat → Nat → Nat) (cI cJ cZ : ClassId) (a nn : Nat) (f : Nat → Int32) (x : Int32) (hnn : nn ≤ 100000) : Met l ⟨"java/util/Arrays", "fill", "([II)V"⟩ (Cond.code ⟨"java/util/Arrays", "fill", "([II)V"⟩ prog_14_method_103_code 4 none :: TT) (rmk 0 0) (PM dC dI cI cJ cZ [.ref a, .int x] [(a, .inl (cI, nn, .inl f))]) (va_Qv (S := Nat → Int32) (fun u => ∀ j, j < nn → u j = x) (fun u t => va_P (dC, dI) cls ([(a, .inl (cI, nn, .inl u))]) t.heap) (ow [(a, .inl (cI, nn, .inl f))])) 0 0 (ow [(a, .inl (cI, nn, .inl f))]) := by
  refine Met.ofW (cc := prog_14_method_103_code) (maxL := 4) (ret := none) (by decide) rfl ?_
  intro p e s m args below meth c s₁ B hml hv
  obtain ⟨rfl, hP, hK, hD0⟩ := hv
  have hx := B.exec
  have hb := B.bytes
  have hr := B.returns
  have hts : ∀ w ∈ TT, w.before _ s = true := fun w h => atoms_spec (ws := (Cond.code ⟨"java/util/Arrays", "fill", "([II)V"⟩ prog_14_method_103_code 4 none :: TT)) B.pre w (List.mem_cons_of_mem _ h)
  have hown : s.vm.findClass "java/util/Arrays" = some m.cls := findClass_of_methodNamed B.named
  have hlocks := B.notSynchronized
  have hD := hD0.mine
  have hS : va_S (ow [(a, .inl (cI, nn, .inl f))]) s.heap s.heap [] := va_S.rf
  have hl := lv_entry ([.ref a, .int x]) (n := 4) (Nat.le_of_ble_eq_true rfl)
  rw [lg_entry_eq]
  generalize (lg_sl ([.ref a, .int x]) ++ List.replicate (4 - (lg_sl ([.ref a, .int x])).length) Slot.unset).toArray = ls at hl ⊢
  have hl : lv_has ls 4 [(0, .ref a), (1, .int x)] := hl
  refine lv_iconst (v := (nI 0)) hx hb d_JA_fill_0 (by decide) ?_
  refine lv_istore_n (lv' := [(2, .int (nI 0)), (0, .ref a), (1, .int x)]) hx hb d_JA_fill_1 rfl hl (by decide) rfl (fun ls hl => ?_)
  refine lv_aload_n hx hb d_JA_fill_2 rfl (lv_at hl 1 rfl) ?_
  refine va_alen (v := nI nn) hx hb hK.1 hP 0 0 rfl rfl rfl d_JA_fill_3 ?_
  refine lv_istore_n (lv' := [(3, .int (nI nn)), (2, .int (nI 0)), (0, .ref a), (1, .int x)]) hx hb d_JA_fill_4 rfl hl (by decide) rfl (fun ls hl => ?_)
  have L5_1 : ∀ (n : Nat) (g : Nat → Int32) (i : Nat) (hn : nn - i < n) (hi : i ≤ nn) (hg : ∀ j, j < i → g j = x) (H : Heap) (locs : List Loc) (hP : va_P (dC, dI) cls [(a, .inl (cI, nn, .inl g))] H) (hD : va_D (ow [(a, .inl (cI, nn, .inl f))]) [(a, .inl (cI, nn, .inl g))]) (hS : va_S (ow [(a, .inl (cI, nn, .inl f))]) s.heap H locs) (ls : Array Slot) (hl : lv_has ls 4 [(0, .ref a), (1, .int x), (2, .int (nI i)), (3, .int (nI nn))]), W p l e (headSpec (Cond.code ⟨"java/util/Arrays", "fill", "([II)V"⟩ prog_14_method_103_code 4 none :: TT) (rmk 0 0)).room s m ([.ref a, .int x] : List Value).toArray below meth c H locs 0 0 (MQ below (va_Qv (S := Nat → Int32) (fun u => ∀ j, j < nn → u j = x) (fun u t => va_P (dC, dI) cls ([(a, .inl (cI, nn, .inl u))]) t.heap) (ow [(a, .inl (cI, nn, .inl f))])) ([.ref a, .int x] : List Value).toArray s 0 0 (ow [(a, .inl (cI, nn, .inl f))])) (F0 m 5 ls []) := by
    intro n_5
    induction n_5 with
    | zero =>
      intro g i hn_5
      exact absurd hn_5 (Nat.not_lt_zero _)
    | succ n_5 ih_5 =>
      intro g i hn_5 hi hg H locs hP hD hS ls hl
      refine lv_iload_n hx hb d_JA_fill_5 rfl (lv_at hl 2 rfl) ?_
      refine lv_iload_n hx hb d_JA_fill_6 rfl (lv_at hl 3 rfl) ?_
      refine x_cmp_ge (a := i) (b := nn) (tgt := 20) hx hb (by omega) (by omega) d_JA_fill_7 (by decide) (fun c_2 => ?_) (fun c_2 => ?_)
      · skip
        exact W.vret hx hb hr (fun t ht _ => ⟨⟨(g), rfl, (fun j hj => hg j (by omega)), by show va_P (dC, dI) cls _ t.heap; rw [ht]; exact hP⟩, hS.F ht⟩) hS.2.2 d_JA_fill_20
      · skip
        refine lv_aload_n hx hb d_JA_fill_10 rfl (lv_at hl 0 rfl) ?_
        refine lv_iload_n hx hb d_JA_fill_11 rfl (lv_at hl 2 rfl) ?_
        refine lv_iload_n hx hb d_JA_fill_12 rfl (lv_at hl 1 rfl) ?_
        refine x_iast (g := (va_up g i x)) hx hb hK.1 hP hD hS 0 0 rfl rfl rfl (by omega) (by omega) d_JA_fill_13 (fun H locs hP hD hS => ?_)
        have hP : va_P (dC, dI) cls [(a, .inl (cI, nn, .inl (va_up g i x)))] H := hP
        have hD : va_D (ow [(a, .inl (cI, nn, .inl f))]) [(a, .inl (cI, nn, .inl (va_up g i x)))] := hD
        refine lv_iinc (v := (nI (i + 1))) (lv' := [(2, .int (nI (i + 1))), (0, .ref a), (1, .int x), (3, .int (nI nn))]) hx hb d_JA_fill_14 hl (k := 2) rfl (nI_1 _) (by decide) rfl (fun ls hl => ?_)
        refine lv_goto (tgt := 5) hx hb d_JA_fill_17 (by decide) ?_
        exact ih_5 (va_up g i x) (i + 1) (by omega) (by first | assumption | omega) (fill_s hg) _ _ hP hD hS ls (lv_sub hl [1, 2, 0, 3] rfl)
  exact L5_1 ((nn - 0) + 1) f 0 (Nat.lt_succ_self _) (by first | assumption | omega) (fun j hj => absurd hj (Nat.not_lt_zero _)) _ _ hP hD hS ls (lv_sub hl [2, 3, 1, 0] rfl)

theorem d_JA_fill_JJV_0 : decode prog_14_method_101_code 0 = .ok (.iconst 0, 1) := by decide +kernel
theorem d_JA_fill_JJV_1 : decode prog_14_method_101_code 1 = .ok (.istore_n 3, 1) := by decide +kernel
theorem d_JA_fill_JJV_2 : decode prog_14_method_101_code 2 = .ok (.aload_n 0, 1) := by decide +kernel
theorem d_JA_fill_JJV_3 : decode prog_14_method_101_code 3 = .ok (.arraylength, 1) := by decide +kernel
theorem d_JA_fill_JJV_4 : decode prog_14_method_101_code 4 = .ok (.istore 4, 2) := by decide +kernel
theorem d_JA_fill_JJV_6 : decode prog_14_method_101_code 6 = .ok (.iload_n 3, 1) := by decide +kernel
theorem d_JA_fill_JJV_7 : decode prog_14_method_101_code 7 = .ok (.iload 4, 2) := by decide +kernel
theorem d_JA_fill_JJV_9 : decode prog_14_method_101_code 9 = .ok (.if_icmp .ge 13, 3) := by decide +kernel
theorem d_JA_fill_JJV_12 : decode prog_14_method_101_code 12 = .ok (.aload_n 0, 1) := by decide +kernel
theorem d_JA_fill_JJV_13 : decode prog_14_method_101_code 13 = .ok (.iload_n 3, 1) := by decide +kernel
theorem d_JA_fill_JJV_14 : decode prog_14_method_101_code 14 = .ok (.lload_n 1, 1) := by decide +kernel
theorem d_JA_fill_JJV_15 : decode prog_14_method_101_code 15 = .ok (.lastore, 1) := by decide +kernel
theorem d_JA_fill_JJV_16 : decode prog_14_method_101_code 16 = .ok (.iinc 3 1, 3) := by decide +kernel
theorem d_JA_fill_JJV_19 : decode prog_14_method_101_code 19 = .ok (.goto (-13), 3) := by decide +kernel
theorem d_JA_fill_JJV_22 : decode prog_14_method_101_code 22 = .ok (.return_, 1) := by decide +kernel
theorem fill_l {g : Nat → Int64} {x : Int64} {i : Nat} (h : ∀ j, j < i → g j = x) : ∀ j, j < i + 1 → va_up g i x j = x := by
  intro j hj
  by_cases e : j = i
  · simp [va_up, e]
  · simp only [va_up, if_neg e]; exact h j (by omega)
set_option maxHeartbeats 4000000 in
set_option maxRecDepth 100000 in
theorem c_JA_fill_JJV (l : Launch) (dC : Nat → ClassId) (dI : Nat → Nat → Nat) (cI cJ cZ : ClassId) (a nn : Nat) (f : Nat → Int64) (x : Int64) (hnn : nn ≤ 100000) : Met l ⟨"java/util/Arrays", "fill", "([JJ)V"⟩ (Cond.code ⟨"java/util/Arrays", "fill", "([JJ)V"⟩ prog_14_method_101_code 5 none :: TT) (rmk 0 0) (PM dC dI cI cJ cZ [.ref a, .long x] [(a, .inl (cJ, nn, .inr (.inl f)))]) (va_Qv (S := Nat → Int64) (fun u => ∀ j, j < nn → u j = x) (fun u t => va_P (dC, dI) cls ([(a, .inl (cJ, nn, .inr (.inl u)))]) t.heap) (ow [(a, .inl (cJ, nn, .inr (.inl f)))])) 0 0 (ow [(a, .inl (cJ, nn, .inr (.inl f)))]) := by
  refine Met.ofW (cc := prog_14_method_101_code) (maxL := 5) (ret := none) (by decide) rfl ?_
  intro p e s m args below meth c s₁ B hml hv
  obtain ⟨rfl, hP, hK, hD0⟩ := hv
  have hx := B.exec
  have hb := B.bytes
  have hr := B.returns
  have hts : ∀ w ∈ TT, w.before _ s = true := fun w h => atoms_spec (ws := (Cond.code ⟨"java/util/Arrays", "fill", "([JJ)V"⟩ prog_14_method_101_code 5 none :: TT)) B.pre w (List.mem_cons_of_mem _ h)
  have hown : s.vm.findClass "java/util/Arrays" = some m.cls := findClass_of_methodNamed B.named
  have hlocks := B.notSynchronized
  have hD := hD0.mine
  have hS : va_S (ow [(a, .inl (cJ, nn, .inr (.inl f)))]) s.heap s.heap [] := va_S.rf
  have hl := lv_entry ([.ref a, .long x]) (n := 5) (Nat.le_of_ble_eq_true rfl)
  rw [lg_entry_eq]
  generalize (lg_sl ([.ref a, .long x]) ++ List.replicate (5 - (lg_sl ([.ref a, .long x])).length) Slot.unset).toArray = ls at hl ⊢
  have hl : lv_has ls 5 [(0, .ref a), (1, .long x)] := hl
  refine lv_iconst (v := (nI 0)) hx hb d_JA_fill_JJV_0 (by decide) ?_
  refine lv_istore_n (lv' := [(3, .int (nI 0)), (0, .ref a), (1, .long x)]) hx hb d_JA_fill_JJV_1 rfl hl (by decide) rfl (fun ls hl => ?_)
  refine lv_aload_n hx hb d_JA_fill_JJV_2 rfl (lv_at hl 1 rfl) ?_
  refine va_alen (v := nI nn) hx hb hK.1 hP 0 1 rfl rfl rfl d_JA_fill_JJV_3 ?_
  refine lv_istore (lv' := [(4, .int (nI nn)), (3, .int (nI 0)), (0, .ref a), (1, .long x)]) hx hb d_JA_fill_JJV_4 hl (by decide) rfl (fun ls hl => ?_)
  have L6_1 : ∀ (n : Nat) (g : Nat → Int64) (i : Nat) (hn : nn - i < n) (hi : i ≤ nn) (hg : ∀ j, j < i → g j = x) (H : Heap) (locs : List Loc) (hP : va_P (dC, dI) cls [(a, .inl (cJ, nn, .inr (.inl g)))] H) (hD : va_D (ow [(a, .inl (cJ, nn, .inr (.inl f)))]) [(a, .inl (cJ, nn, .inr (.inl g)))]) (hS : va_S (ow [(a, .inl (cJ, nn, .inr (.inl f)))]) s.heap H locs) (ls : Array Slot) (hl : lv_has ls 5 [(0, .ref a), (1, .long x), (3, .int (nI i)), (4, .int (nI nn))]), W p l e (headSpec (Cond.code ⟨"java/util/Arrays", "fill", "([JJ)V"⟩ prog_14_method_101_code 5 none :: TT) (rmk 0 0)).room s m ([.ref a, .long x] : List Value).toArray below meth c H locs 0 0 (MQ below (va_Qv (S := Nat → Int64) (fun u => ∀ j, j < nn → u j = x) (fun u t => va_P (dC, dI) cls ([(a, .inl (cJ, nn, .inr (.inl u)))]) t.heap) (ow [(a, .inl (cJ, nn, .inr (.inl f)))])) ([.ref a, .long x] : List Value).toArray s 0 0 (ow [(a, .inl (cJ, nn, .inr (.inl f)))])) (F0 m 6 ls []) := by
    intro n_6
    induction n_6 with
    | zero =>
      intro g i hn_6
      exact absurd hn_6 (Nat.not_lt_zero _)
    | succ n_6 ih_6 =>
      intro g i hn_6 hi hg H locs hP hD hS ls hl
      refine lv_iload_n hx hb d_JA_fill_JJV_6 rfl (lv_at hl 2 rfl) ?_
      refine lv_iload hx hb d_JA_fill_JJV_7 (lv_at hl 3 rfl) ?_
      refine x_cmp_ge (a := i) (b := nn) (tgt := 22) hx hb (by omega) (by omega) d_JA_fill_JJV_9 (by decide) (fun c_2 => ?_) (fun c_2 => ?_)
      · skip
        exact W.vret hx hb hr (fun t ht _ => ⟨⟨(g), rfl, (fun j hj => hg j (by omega)), by show va_P (dC, dI) cls _ t.heap; rw [ht]; exact hP⟩, hS.F ht⟩) hS.2.2 d_JA_fill_JJV_22
      · skip
        refine lv_aload_n hx hb d_JA_fill_JJV_12 rfl (lv_at hl 0 rfl) ?_
        refine lv_iload_n hx hb d_JA_fill_JJV_13 rfl (lv_at hl 2 rfl) ?_
        refine lv_lload_n hx hb d_JA_fill_JJV_14 rfl (lv_at hl 1 rfl) ?_
        refine x_last (g := (va_up g i x)) hx hb hK.1 hP hD hS 0 1 rfl rfl rfl (by omega) (by omega) d_JA_fill_JJV_15 (fun H locs hP hD hS => ?_)
        have hP : va_P (dC, dI) cls [(a, .inl (cJ, nn, .inr (.inl (va_up g i x))))] H := hP
        have hD : va_D (ow [(a, .inl (cJ, nn, .inr (.inl f)))]) [(a, .inl (cJ, nn, .inr (.inl (va_up g i x))))] := hD
        refine lv_iinc (v := (nI (i + 1))) (lv' := [(3, .int (nI (i + 1))), (0, .ref a), (1, .long x), (4, .int (nI nn))]) hx hb d_JA_fill_JJV_16 hl (k := 2) rfl (nI_1 _) (by decide) rfl (fun ls hl => ?_)
        refine lv_goto (tgt := 6) hx hb d_JA_fill_JJV_19 (by decide) ?_
        exact ih_6 (va_up g i x) (i + 1) (by omega) (by first | assumption | omega) (fill_l hg) _ _ hP hD hS ls (lv_sub hl [1, 2, 0, 3] rfl)
  exact L6_1 ((nn - 0) + 1) f 0 (Nat.lt_succ_self _) (by first | assumption | omega) (fun j hj => absurd hj (Nat.not_lt_zero _)) _ _ hP hD hS ls (lv_sub hl [2, 3, 1, 0] rfl)
