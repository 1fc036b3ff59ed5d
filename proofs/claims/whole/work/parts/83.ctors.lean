/-! ===== 83.ctors: constructors ===== -/
theorem d_GP_init_0 : decode prog_5_method_1_code 0 = .ok (.aload_n 0, 1) := by decide +kernel
theorem d_GP_init_1 : decode prog_5_method_1_code 1 = .ok (.invokespecial 3, 3) := by decide +kernel
theorem d_GP_init_4 : decode prog_5_method_1_code 4 = .ok (.aload_n 0, 1) := by decide +kernel
theorem d_GP_init_5 : decode prog_5_method_1_code 5 = .ok (.bipush 41, 2) := by decide +kernel
theorem d_GP_init_7 : decode prog_5_method_1_code 7 = .ok (.newarray .long, 2) := by decide +kernel
theorem d_GP_init_9 : decode prog_5_method_1_code 9 = .ok (.putfield 9, 3) := by decide +kernel
theorem d_GP_init_12 : decode prog_5_method_1_code 12 = .ok (.return_, 1) := by decide +kernel
set_option maxHeartbeats 4000000 in
set_option maxRecDepth 100000 in
theorem c_GP_init (l : Launch) (dC : Nat → ClassId) (dI : Nat → Nat → Nat) (cI cJ cZ : ClassId) (o sz : Nat) : Met l ⟨"CutPoints$Groups", "<init>", "()V"⟩ (Cond.code ⟨"CutPoints$Groups", "<init>", "()V"⟩ prog_5_method_1_code 1 none :: TT) (rmc 1 12 1 41) (PC dC dI cI cJ cZ [.ref o] sz [(o, .inr (3, [.null, .int (nI 0)]))]) (va_Qv (S := Nat) (fun _ => True) (fun u9 t9 => va_P (dC, dI) cls [(o, .inr (3, [.ref u9, .int (nI 0)])), (u9, .inl (cJ, 41, .inr (.inl (fun _ => 0))))] t9.heap ∧ va_D (va_A [(o, .inr (3, [.null, .int (nI 0)]))] sz) [(o, .inr (3, [.ref u9, .int (nI 0)])), (u9, .inl (cJ, 41, .inr (.inl (fun _ => 0))))]) (va_A [(o, .inr (3, [.null, .int (nI 0)]))] sz)) 1 41 (va_A [(o, .inr (3, [.null, .int (nI 0)]))] sz) := by
  refine Met.ofW (cc := prog_5_method_1_code) (maxL := 1) (ret := none) (by decide) rfl ?_
  intro p e s m args below meth c s₁ BB9 hml hv
  obtain ⟨rfl, hsz, hP, hK, hD0⟩ := hv
  have hx := BB9.exec
  have hb := BB9.bytes
  have hr := BB9.returns
  have hts : ∀ w ∈ TT, w.before _ s = true := fun w h => atoms_spec (ws := (Cond.code ⟨"CutPoints$Groups", "<init>", "()V"⟩ prog_5_method_1_code 1 none :: TT)) BB9.pre w (List.mem_cons_of_mem _ h)
  have hown : s.vm.findClass "CutPoints$Groups" = some m.cls := findClass_of_methodNamed BB9.named
  have hlocks := BB9.notSynchronized
  have hin : meth.name = "<init>" := (name_of_methodNamed BB9.named BB9.method).1
  subst hsz
  have hD := hD0.self (sz := s.heap.size)
  generalize hAe : va_A [(o, .inr (3, [.null, .int (nI 0)]))] s.heap.size = A at hD ⊢
  have hA : ∀ q : Nat, s.heap.size ≤ q → A q := fun q h => by rw [← hAe]; exact Or.inr h
  have hS : va_S A s.heap s.heap [] := va_S.rf
  have hP : va_P (dC, dI) cls [(o, .inr (3, [.null, .int (nI 0)]))] s.heap := hP
  have hl := lv_entry ([.ref o]) (n := 1) (Nat.le_of_ble_eq_true rfl)
  rw [lg_entry_eq]
  generalize (lg_sl ([.ref o]) ++ List.replicate (1 - (lg_sl ([.ref o])).length) Slot.unset).toArray = ls at hl ⊢
  have hl : lv_has ls 1 [(0, .ref o)] := hl
  refine lv_aload_n hx hb d_GP_init_0 rfl (lv_at hl 0 rfl) ?_
  refine W.objInit hx hb hown (hts _ wml_GP_3) (hts _ wim_OB_init) (hts _ wcode_OB_init) rfl (by rw [hml]; exact hl.1) rfl d_GP_init_1 (Nat.le_of_ble_eq_true rfl) (Nat.le_of_ble_eq_true rfl) ?_
  refine W.eq (g2 := F0 m 4 ls []) rfl ?_
  refine lv_aload_n hx hb d_GP_init_4 rfl (lv_at hl 0 rfl) ?_
  refine lv_bipush (v := (nI 41)) hx hb d_GP_init_5 (by decide) ?_
  have h_c : 1 ≤ 1 := by decide
  have h_s : 41 ≤ 41 := by decide
  refine x_na (atype := .long) (ty := .long) (a0 := (41, .inr (.inl (fun _ => 0)))) hx hb (hts _ warr_long) rfl hK hP hD hS hA 1 rfl (fun _ h9 => h9) (fun _ => rfl) (by decide +kernel) (by decide +kernel) (by decide +kernel) h_c h_s d_GP_init_7 (fun q7 H hP hD hS => ?_)
  have hP : va_P (dC, dI) cls [(o, .inr (3, [.null, .int (nI 0)])), (q7, .inl (cJ, 41, .inr (.inl (fun _ => 0))))] H := hP
  have hD : va_D A [(o, .inr (3, [.null, .int (nI 0)])), (q7, .inl (cJ, 41, .inr (.inl (fun _ => 0))))] := hD
  refine W.widen (k := 1) (n := 41) (by omega) (by omega) ?_
  refine va_putF (D := (dC, dI)) (ci := 3) (v := .ref q7) (ty := .array .long) (C := R_GP) (T := F_GP) (N := 2) hx hb hts in_GP t_GP t_GP_ok n_GP hown hK.1 hP hD hS 0 rfl rfl 0 (by decide) (hts _ wfl_GP_9) (fun _ h9 => h9) rfl hin rfl (by decide +kernel) rfl rfl (Nat.le_of_ble_eq_true rfl) d_GP_init_9 (fun H locs hP hD hS => ?_)
  have hP : va_P (dC, dI) cls [(o, .inr (3, [.ref q7, .int (nI 0)])), (q7, .inl (cJ, 41, .inr (.inl (fun _ => 0))))] H := hP
  have hD : va_D A [(o, .inr (3, [.ref q7, .int (nI 0)])), (q7, .inl (cJ, 41, .inr (.inl (fun _ => 0))))] := hD
  exact W.vret hx hb hr (fun t9 ht9 _ => ⟨⟨(q7), rfl, trivial, ⟨by show va_P (dC, dI) cls _ t9.heap; rw [ht9]; exact hP, hD⟩⟩, hS.F ht9⟩) hS.2.2 d_GP_init_12

theorem d_GR_init_0 : decode prog_4_method_1_code 0 = .ok (.aload_n 0, 1) := by decide +kernel
theorem d_GR_init_1 : decode prog_4_method_1_code 1 = .ok (.invokespecial 3, 3) := by decide +kernel
theorem d_GR_init_4 : decode prog_4_method_1_code 4 = .ok (.aload_n 0, 1) := by decide +kernel
theorem d_GR_init_5 : decode prog_4_method_1_code 5 = .ok (.bipush 41, 2) := by decide +kernel
theorem d_GR_init_7 : decode prog_4_method_1_code 7 = .ok (.newarray .int, 2) := by decide +kernel
theorem d_GR_init_9 : decode prog_4_method_1_code 9 = .ok (.putfield 9, 3) := by decide +kernel
theorem d_GR_init_12 : decode prog_4_method_1_code 12 = .ok (.aload_n 0, 1) := by decide +kernel
theorem d_GR_init_13 : decode prog_4_method_1_code 13 = .ok (.bipush 41, 2) := by decide +kernel
theorem d_GR_init_15 : decode prog_4_method_1_code 15 = .ok (.newarray .int, 2) := by decide +kernel
theorem d_GR_init_17 : decode prog_4_method_1_code 17 = .ok (.putfield 15, 3) := by decide +kernel
theorem d_GR_init_20 : decode prog_4_method_1_code 20 = .ok (.return_, 1) := by decide +kernel
set_option maxHeartbeats 4000000 in
set_option maxRecDepth 100000 in
theorem c_GR_init (l : Launch) (dC : Nat → ClassId) (dI : Nat → Nat → Nat) (cI cJ cZ : ClassId) (o sz : Nat) : Met l ⟨"CutPoints$Graph", "<init>", "()V"⟩ (Cond.code ⟨"CutPoints$Graph", "<init>", "()V"⟩ prog_4_method_1_code 1 none :: TT) (rmc 1 12 2 82) (PC dC dI cI cJ cZ [.ref o] sz [(o, .inr (1, [.null, .null, .int (nI 0), .int (nI 0), .long 0]))]) (va_Qv (S := Nat × Nat) (fun _ => True) (fun u9 t9 => va_P (dC, dI) cls [(o, .inr (1, [.ref u9.1, .ref u9.2, .int (nI 0), .int (nI 0), .long 0])), (u9.1, .inl (cI, 41, .inl (nF (fun _ => 0)))), (u9.2, .inl (cI, 41, .inl (nF (fun _ => 0))))] t9.heap ∧ va_D (va_A [(o, .inr (1, [.null, .null, .int (nI 0), .int (nI 0), .long 0]))] sz) [(o, .inr (1, [.ref u9.1, .ref u9.2, .int (nI 0), .int (nI 0), .long 0])), (u9.1, .inl (cI, 41, .inl (nF (fun _ => 0)))), (u9.2, .inl (cI, 41, .inl (nF (fun _ => 0))))]) (va_A [(o, .inr (1, [.null, .null, .int (nI 0), .int (nI 0), .long 0]))] sz)) 2 82 (va_A [(o, .inr (1, [.null, .null, .int (nI 0), .int (nI 0), .long 0]))] sz) := by
  refine Met.ofW (cc := prog_4_method_1_code) (maxL := 1) (ret := none) (by decide) rfl ?_
  intro p e s m args below meth c s₁ BB9 hml hv
  obtain ⟨rfl, hsz, hP, hK, hD0⟩ := hv
  have hx := BB9.exec
  have hb := BB9.bytes
  have hr := BB9.returns
  have hts : ∀ w ∈ TT, w.before _ s = true := fun w h => atoms_spec (ws := (Cond.code ⟨"CutPoints$Graph", "<init>", "()V"⟩ prog_4_method_1_code 1 none :: TT)) BB9.pre w (List.mem_cons_of_mem _ h)
  have hown : s.vm.findClass "CutPoints$Graph" = some m.cls := findClass_of_methodNamed BB9.named
  have hlocks := BB9.notSynchronized
  have hin : meth.name = "<init>" := (name_of_methodNamed BB9.named BB9.method).1
  subst hsz
  have hD := hD0.self (sz := s.heap.size)
  generalize hAe : va_A [(o, .inr (1, [.null, .null, .int (nI 0), .int (nI 0), .long 0]))] s.heap.size = A at hD ⊢
  have hA : ∀ q : Nat, s.heap.size ≤ q → A q := fun q h => by rw [← hAe]; exact Or.inr h
  have hS : va_S A s.heap s.heap [] := va_S.rf
  have hP : va_P (dC, dI) cls [(o, .inr (1, [.null, .null, .int (nI 0), .int (nI 0), .long 0]))] s.heap := hP
  have hl := lv_entry ([.ref o]) (n := 1) (Nat.le_of_ble_eq_true rfl)
  rw [lg_entry_eq]
  generalize (lg_sl ([.ref o]) ++ List.replicate (1 - (lg_sl ([.ref o])).length) Slot.unset).toArray = ls at hl ⊢
  have hl : lv_has ls 1 [(0, .ref o)] := hl
  refine lv_aload_n hx hb d_GR_init_0 rfl (lv_at hl 0 rfl) ?_
  refine W.objInit hx hb hown (hts _ wml_GR_3) (hts _ wim_OB_init) (hts _ wcode_OB_init) rfl (by rw [hml]; exact hl.1) rfl d_GR_init_1 (Nat.le_of_ble_eq_true rfl) (Nat.le_of_ble_eq_true rfl) ?_
  refine W.eq (g2 := F0 m 4 ls []) rfl ?_
  refine lv_aload_n hx hb d_GR_init_4 rfl (lv_at hl 0 rfl) ?_
  refine lv_bipush (v := (nI 41)) hx hb d_GR_init_5 (by decide) ?_
  have h_c : 1 ≤ 2 := by decide
  have h_s : 41 ≤ 82 := by decide
  refine x_na (atype := .int) (ty := .int) (a0 := (41, .inl (nF (fun _ => 0)))) hx hb (hts _ warr_int) rfl hK hP hD hS hA 0 rfl (fun _ h9 => h9) (fun _ => rfl) (by decide +kernel) (by decide +kernel) (by decide +kernel) h_c h_s d_GR_init_7 (fun q7 H hP hD hS => ?_)
  have hP : va_P (dC, dI) cls [(o, .inr (1, [.null, .null, .int (nI 0), .int (nI 0), .long 0])), (q7, .inl (cI, 41, .inl (nF (fun _ => 0))))] H := hP
  have hD : va_D A [(o, .inr (1, [.null, .null, .int (nI 0), .int (nI 0), .long 0])), (q7, .inl (cI, 41, .inl (nF (fun _ => 0))))] := hD
  refine W.widen (k := 1) (n := 41) (by omega) (by omega) ?_
  refine va_putF (D := (dC, dI)) (ci := 1) (v := .ref q7) (ty := .array .int) (C := R_GR) (T := F_GR) (N := 5) hx hb hts in_GR t_GR t_GR_ok n_GR hown hK.1 hP hD hS 0 rfl rfl 0 (by decide) (hts _ wfl_GR_9) (fun _ h9 => h9) rfl hin rfl (by decide +kernel) rfl rfl (Nat.le_of_ble_eq_true rfl) d_GR_init_9 (fun H locs hP hD hS => ?_)
  have hP : va_P (dC, dI) cls [(o, .inr (1, [.ref q7, .null, .int (nI 0), .int (nI 0), .long 0])), (q7, .inl (cI, 41, .inl (nF (fun _ => 0))))] H := hP
  have hD : va_D A [(o, .inr (1, [.ref q7, .null, .int (nI 0), .int (nI 0), .long 0])), (q7, .inl (cI, 41, .inl (nF (fun _ => 0))))] := hD
  refine lv_aload_n hx hb d_GR_init_12 rfl (lv_at hl 0 rfl) ?_
  refine lv_bipush (v := (nI 41)) hx hb d_GR_init_13 (by decide) ?_
  have h_c : 2 ≤ 2 := by decide
  have h_s : 82 ≤ 82 := by decide
  refine x_na (atype := .int) (ty := .int) (a0 := (41, .inl (nF (fun _ => 0)))) hx hb (hts _ warr_int) rfl hK hP hD hS hA 0 rfl (fun _ h9 => h9) (fun _ => rfl) (by decide +kernel) (by decide +kernel) (by decide +kernel) h_c h_s d_GR_init_15 (fun q15 H hP hD hS => ?_)
  have hP : va_P (dC, dI) cls [(o, .inr (1, [.ref q7, .null, .int (nI 0), .int (nI 0), .long 0])), (q7, .inl (cI, 41, .inl (nF (fun _ => 0)))), (q15, .inl (cI, 41, .inl (nF (fun _ => 0))))] H := hP
  have hD : va_D A [(o, .inr (1, [.ref q7, .null, .int (nI 0), .int (nI 0), .long 0])), (q7, .inl (cI, 41, .inl (nF (fun _ => 0)))), (q15, .inl (cI, 41, .inl (nF (fun _ => 0))))] := hD
  refine W.widen (k := 2) (n := 82) (by omega) (by omega) ?_
  refine va_putF (D := (dC, dI)) (ci := 1) (v := .ref q15) (ty := .array .int) (C := R_GR) (T := F_GR) (N := 5) hx hb hts in_GR t_GR t_GR_ok n_GR hown hK.1 hP hD hS 0 rfl rfl 1 (by decide) (hts _ wfl_GR_15) (fun _ h9 => h9) rfl hin rfl (by decide +kernel) rfl rfl (Nat.le_of_ble_eq_true rfl) d_GR_init_17 (fun H locs hP hD hS => ?_)
  have hP : va_P (dC, dI) cls [(o, .inr (1, [.ref q7, .ref q15, .int (nI 0), .int (nI 0), .long 0])), (q7, .inl (cI, 41, .inl (nF (fun _ => 0)))), (q15, .inl (cI, 41, .inl (nF (fun _ => 0))))] H := hP
  have hD : va_D A [(o, .inr (1, [.ref q7, .ref q15, .int (nI 0), .int (nI 0), .long 0])), (q7, .inl (cI, 41, .inl (nF (fun _ => 0)))), (q15, .inl (cI, 41, .inl (nF (fun _ => 0))))] := hD
  exact W.vret hx hb hr (fun t9 ht9 _ => ⟨⟨(q7, q15), rfl, trivial, ⟨by show va_P (dC, dI) cls _ t9.heap; rw [ht9]; exact hP, hD⟩⟩, hS.F ht9⟩) hS.2.2 d_GR_init_20

theorem d_SK_init_0 : decode prog_6_method_1_code 0 = .ok (.aload_n 0, 1) := by decide +kernel
theorem d_SK_init_1 : decode prog_6_method_1_code 1 = .ok (.invokespecial 3, 3) := by decide +kernel
theorem d_SK_init_4 : decode prog_6_method_1_code 4 = .ok (.aload_n 0, 1) := by decide +kernel
theorem d_SK_init_5 : decode prog_6_method_1_code 5 = .ok (.bipush 14, 2) := by decide +kernel
theorem d_SK_init_7 : decode prog_6_method_1_code 7 = .ok (.newarray .int, 2) := by decide +kernel
theorem d_SK_init_9 : decode prog_6_method_1_code 9 = .ok (.putfield 9, 3) := by decide +kernel
theorem d_SK_init_12 : decode prog_6_method_1_code 12 = .ok (.aload_n 0, 1) := by decide +kernel
theorem d_SK_init_13 : decode prog_6_method_1_code 13 = .ok (.bipush 14, 2) := by decide +kernel
theorem d_SK_init_15 : decode prog_6_method_1_code 15 = .ok (.newarray .int, 2) := by decide +kernel
theorem d_SK_init_17 : decode prog_6_method_1_code 17 = .ok (.putfield 15, 3) := by decide +kernel
theorem d_SK_init_20 : decode prog_6_method_1_code 20 = .ok (.aload_n 0, 1) := by decide +kernel
theorem d_SK_init_21 : decode prog_6_method_1_code 21 = .ok (.bipush 14, 2) := by decide +kernel
theorem d_SK_init_23 : decode prog_6_method_1_code 23 = .ok (.newarray .int, 2) := by decide +kernel
theorem d_SK_init_25 : decode prog_6_method_1_code 25 = .ok (.putfield 18, 3) := by decide +kernel
theorem d_SK_init_28 : decode prog_6_method_1_code 28 = .ok (.aload_n 0, 1) := by decide +kernel
theorem d_SK_init_29 : decode prog_6_method_1_code 29 = .ok (.bipush 14, 2) := by decide +kernel
theorem d_SK_init_31 : decode prog_6_method_1_code 31 = .ok (.newarray .long, 2) := by decide +kernel
theorem d_SK_init_33 : decode prog_6_method_1_code 33 = .ok (.putfield 21, 3) := by decide +kernel
theorem d_SK_init_36 : decode prog_6_method_1_code 36 = .ok (.aload_n 0, 1) := by decide +kernel
theorem d_SK_init_37 : decode prog_6_method_1_code 37 = .ok (.new 25, 3) := by decide +kernel
theorem d_SK_init_40 : decode prog_6_method_1_code 40 = .ok (.dup, 1) := by decide +kernel
theorem d_SK_init_41 : decode prog_6_method_1_code 41 = .ok (.invokespecial 27, 3) := by decide +kernel
theorem d_SK_init_44 : decode prog_6_method_1_code 44 = .ok (.putfield 28, 3) := by decide +kernel
theorem d_SK_init_47 : decode prog_6_method_1_code 47 = .ok (.return_, 1) := by decide +kernel
set_option maxHeartbeats 4000000 in
set_option maxRecDepth 100000 in
theorem c_SK_init (l : Launch) (dC : Nat → ClassId) (dI : Nat → Nat → Nat) (cI cJ cZ : ClassId) (o sz : Nat) : Met l ⟨"CutPoints$Sketch", "<init>", "()V"⟩ (Cond.code ⟨"CutPoints$Sketch", "<init>", "()V"⟩ prog_6_method_1_code 1 none :: TT) (rmc 2 32 6 99) (PC dC dI cI cJ cZ [.ref o] sz [(o, .inr (2, [.null, .null, .null, .null, .null, .int (nI 0), .long 0]))]) (va_Qv (S := Nat × Nat × Nat × Nat × Nat × Nat) (fun _ => True) (fun u9 t9 => va_P (dC, dI) cls [(o, .inr (2, [.ref u9.1, .ref u9.2.1, .ref u9.2.2.1, .ref u9.2.2.2.1, .ref u9.2.2.2.2.1, .int (nI 0), .long 0])), (u9.1, .inl (cI, 14, .inl (fun _ => 0))), (u9.2.1, .inl (cI, 14, .inl (fun _ => 0))), (u9.2.2.1, .inl (cI, 14, .inl (fun _ => 0))), (u9.2.2.2.1, .inl (cJ, 14, .inr (.inl (fun _ => 0)))), (u9.2.2.2.2.1, .inr (3, [.ref u9.2.2.2.2.2, .int (nI 0)])), (u9.2.2.2.2.2, .inl (cJ, 41, .inr (.inl (fun _ => 0))))] t9.heap ∧ va_D (va_A [(o, .inr (2, [.null, .null, .null, .null, .null, .int (nI 0), .long 0]))] sz) [(o, .inr (2, [.ref u9.1, .ref u9.2.1, .ref u9.2.2.1, .ref u9.2.2.2.1, .ref u9.2.2.2.2.1, .int (nI 0), .long 0])), (u9.1, .inl (cI, 14, .inl (fun _ => 0))), (u9.2.1, .inl (cI, 14, .inl (fun _ => 0))), (u9.2.2.1, .inl (cI, 14, .inl (fun _ => 0))), (u9.2.2.2.1, .inl (cJ, 14, .inr (.inl (fun _ => 0)))), (u9.2.2.2.2.1, .inr (3, [.ref u9.2.2.2.2.2, .int (nI 0)])), (u9.2.2.2.2.2, .inl (cJ, 41, .inr (.inl (fun _ => 0))))]) (va_A [(o, .inr (2, [.null, .null, .null, .null, .null, .int (nI 0), .long 0]))] sz)) 6 99 (va_A [(o, .inr (2, [.null, .null, .null, .null, .null, .int (nI 0), .long 0]))] sz) := by
  refine Met.ofW (cc := prog_6_method_1_code) (maxL := 1) (ret := none) (by decide) rfl ?_
  intro p e s m args below meth c s₁ BB9 hml hv
  obtain ⟨rfl, hsz, hP, hK, hD0⟩ := hv
  have hx := BB9.exec
  have hb := BB9.bytes
  have hr := BB9.returns
  have hts : ∀ w ∈ TT, w.before _ s = true := fun w h => atoms_spec (ws := (Cond.code ⟨"CutPoints$Sketch", "<init>", "()V"⟩ prog_6_method_1_code 1 none :: TT)) BB9.pre w (List.mem_cons_of_mem _ h)
  have hown : s.vm.findClass "CutPoints$Sketch" = some m.cls := findClass_of_methodNamed BB9.named
  have hlocks := BB9.notSynchronized
  have hin : meth.name = "<init>" := (name_of_methodNamed BB9.named BB9.method).1
  subst hsz
  have hD := hD0.self (sz := s.heap.size)
  generalize hAe : va_A [(o, .inr (2, [.null, .null, .null, .null, .null, .int (nI 0), .long 0]))] s.heap.size = A at hD ⊢
  have hA : ∀ q : Nat, s.heap.size ≤ q → A q := fun q h => by rw [← hAe]; exact Or.inr h
  have hS : va_S A s.heap s.heap [] := va_S.rf
  have hP : va_P (dC, dI) cls [(o, .inr (2, [.null, .null, .null, .null, .null, .int (nI 0), .long 0]))] s.heap := hP
  have hl := lv_entry ([.ref o]) (n := 1) (Nat.le_of_ble_eq_true rfl)
  rw [lg_entry_eq]
  generalize (lg_sl ([.ref o]) ++ List.replicate (1 - (lg_sl ([.ref o])).length) Slot.unset).toArray = ls at hl ⊢
  have hl : lv_has ls 1 [(0, .ref o)] := hl
  refine lv_aload_n hx hb d_SK_init_0 rfl (lv_at hl 0 rfl) ?_
  refine W.objInit hx hb hown (hts _ wml_SK_3) (hts _ wim_OB_init) (hts _ wcode_OB_init) rfl (by rw [hml]; exact hl.1) rfl d_SK_init_1 (Nat.le_of_ble_eq_true rfl) (Nat.le_of_ble_eq_true rfl) ?_
  refine W.eq (g2 := F0 m 4 ls []) rfl ?_
  refine lv_aload_n hx hb d_SK_init_4 rfl (lv_at hl 0 rfl) ?_
  refine lv_bipush (v := (nI 14)) hx hb d_SK_init_5 (by decide) ?_
  have h_c : 1 ≤ 6 := by decide
  have h_s : 14 ≤ 99 := by decide
  refine x_na (atype := .int) (ty := .int) (a0 := (14, .inl (fun _ => 0))) hx hb (hts _ warr_int) rfl hK hP hD hS hA 0 rfl (fun _ h9 => h9) (fun _ => rfl) (by decide +kernel) (by decide +kernel) (by decide +kernel) h_c h_s d_SK_init_7 (fun q7 H hP hD hS => ?_)
  have hP : va_P (dC, dI) cls [(o, .inr (2, [.null, .null, .null, .null, .null, .int (nI 0), .long 0])), (q7, .inl (cI, 14, .inl (fun _ => 0)))] H := hP
  have hD : va_D A [(o, .inr (2, [.null, .null, .null, .null, .null, .int (nI 0), .long 0])), (q7, .inl (cI, 14, .inl (fun _ => 0)))] := hD
  refine W.widen (k := 1) (n := 14) (by omega) (by omega) ?_
  refine va_putF (D := (dC, dI)) (ci := 2) (v := .ref q7) (ty := .array .int) (C := R_SK) (T := F_SK) (N := 7) hx hb hts in_SK t_SK t_SK_ok n_SK hown hK.1 hP hD hS 0 rfl rfl 0 (by decide) (hts _ wfl_SK_9) (fun _ h9 => h9) rfl hin rfl (by decide +kernel) rfl rfl (Nat.le_of_ble_eq_true rfl) d_SK_init_9 (fun H locs hP hD hS => ?_)
  have hP : va_P (dC, dI) cls [(o, .inr (2, [.ref q7, .null, .null, .null, .null, .int (nI 0), .long 0])), (q7, .inl (cI, 14, .inl (fun _ => 0)))] H := hP
  have hD : va_D A [(o, .inr (2, [.ref q7, .null, .null, .null, .null, .int (nI 0), .long 0])), (q7, .inl (cI, 14, .inl (fun _ => 0)))] := hD
  refine lv_aload_n hx hb d_SK_init_12 rfl (lv_at hl 0 rfl) ?_
  refine lv_bipush (v := (nI 14)) hx hb d_SK_init_13 (by decide) ?_
  have h_c : 2 ≤ 6 := by decide
  have h_s : 28 ≤ 99 := by decide
  refine x_na (atype := .int) (ty := .int) (a0 := (14, .inl (fun _ => 0))) hx hb (hts _ warr_int) rfl hK hP hD hS hA 0 rfl (fun _ h9 => h9) (fun _ => rfl) (by decide +kernel) (by decide +kernel) (by decide +kernel) h_c h_s d_SK_init_15 (fun q15 H hP hD hS => ?_)
  have hP : va_P (dC, dI) cls [(o, .inr (2, [.ref q7, .null, .null, .null, .null, .int (nI 0), .long 0])), (q7, .inl (cI, 14, .inl (fun _ => 0))), (q15, .inl (cI, 14, .inl (fun _ => 0)))] H := hP
  have hD : va_D A [(o, .inr (2, [.ref q7, .null, .null, .null, .null, .int (nI 0), .long 0])), (q7, .inl (cI, 14, .inl (fun _ => 0))), (q15, .inl (cI, 14, .inl (fun _ => 0)))] := hD
  refine W.widen (k := 2) (n := 28) (by omega) (by omega) ?_
  refine va_putF (D := (dC, dI)) (ci := 2) (v := .ref q15) (ty := .array .int) (C := R_SK) (T := F_SK) (N := 7) hx hb hts in_SK t_SK t_SK_ok n_SK hown hK.1 hP hD hS 0 rfl rfl 1 (by decide) (hts _ wfl_SK_15) (fun _ h9 => h9) rfl hin rfl (by decide +kernel) rfl rfl (Nat.le_of_ble_eq_true rfl) d_SK_init_17 (fun H locs hP hD hS => ?_)
  have hP : va_P (dC, dI) cls [(o, .inr (2, [.ref q7, .ref q15, .null, .null, .null, .int (nI 0), .long 0])), (q7, .inl (cI, 14, .inl (fun _ => 0))), (q15, .inl (cI, 14, .inl (fun _ => 0)))] H := hP
  have hD : va_D A [(o, .inr (2, [.ref q7, .ref q15, .null, .null, .null, .int (nI 0), .long 0])), (q7, .inl (cI, 14, .inl (fun _ => 0))), (q15, .inl (cI, 14, .inl (fun _ => 0)))] := hD
  refine lv_aload_n hx hb d_SK_init_20 rfl (lv_at hl 0 rfl) ?_
  refine lv_bipush (v := (nI 14)) hx hb d_SK_init_21 (by decide) ?_
  have h_c : 3 ≤ 6 := by decide
  have h_s : 42 ≤ 99 := by decide
  refine x_na (atype := .int) (ty := .int) (a0 := (14, .inl (fun _ => 0))) hx hb (hts _ warr_int) rfl hK hP hD hS hA 0 rfl (fun _ h9 => h9) (fun _ => rfl) (by decide +kernel) (by decide +kernel) (by decide +kernel) h_c h_s d_SK_init_23 (fun q23 H hP hD hS => ?_)
  have hP : va_P (dC, dI) cls [(o, .inr (2, [.ref q7, .ref q15, .null, .null, .null, .int (nI 0), .long 0])), (q7, .inl (cI, 14, .inl (fun _ => 0))), (q15, .inl (cI, 14, .inl (fun _ => 0))), (q23, .inl (cI, 14, .inl (fun _ => 0)))] H := hP
  have hD : va_D A [(o, .inr (2, [.ref q7, .ref q15, .null, .null, .null, .int (nI 0), .long 0])), (q7, .inl (cI, 14, .inl (fun _ => 0))), (q15, .inl (cI, 14, .inl (fun _ => 0))), (q23, .inl (cI, 14, .inl (fun _ => 0)))] := hD
  refine W.widen (k := 3) (n := 42) (by omega) (by omega) ?_
  refine va_putF (D := (dC, dI)) (ci := 2) (v := .ref q23) (ty := .array .int) (C := R_SK) (T := F_SK) (N := 7) hx hb hts in_SK t_SK t_SK_ok n_SK hown hK.1 hP hD hS 0 rfl rfl 2 (by decide) (hts _ wfl_SK_18) (fun _ h9 => h9) rfl hin rfl (by decide +kernel) rfl rfl (Nat.le_of_ble_eq_true rfl) d_SK_init_25 (fun H locs hP hD hS => ?_)
  have hP : va_P (dC, dI) cls [(o, .inr (2, [.ref q7, .ref q15, .ref q23, .null, .null, .int (nI 0), .long 0])), (q7, .inl (cI, 14, .inl (fun _ => 0))), (q15, .inl (cI, 14, .inl (fun _ => 0))), (q23, .inl (cI, 14, .inl (fun _ => 0)))] H := hP
  have hD : va_D A [(o, .inr (2, [.ref q7, .ref q15, .ref q23, .null, .null, .int (nI 0), .long 0])), (q7, .inl (cI, 14, .inl (fun _ => 0))), (q15, .inl (cI, 14, .inl (fun _ => 0))), (q23, .inl (cI, 14, .inl (fun _ => 0)))] := hD
  refine lv_aload_n hx hb d_SK_init_28 rfl (lv_at hl 0 rfl) ?_
  refine lv_bipush (v := (nI 14)) hx hb d_SK_init_29 (by decide) ?_
  have h_c : 4 ≤ 6 := by decide
  have h_s : 56 ≤ 99 := by decide
  refine x_na (atype := .long) (ty := .long) (a0 := (14, .inr (.inl (fun _ => 0)))) hx hb (hts _ warr_long) rfl hK hP hD hS hA 1 rfl (fun _ h9 => h9) (fun _ => rfl) (by decide +kernel) (by decide +kernel) (by decide +kernel) h_c h_s d_SK_init_31 (fun q31 H hP hD hS => ?_)
  have hP : va_P (dC, dI) cls [(o, .inr (2, [.ref q7, .ref q15, .ref q23, .null, .null, .int (nI 0), .long 0])), (q7, .inl (cI, 14, .inl (fun _ => 0))), (q15, .inl (cI, 14, .inl (fun _ => 0))), (q23, .inl (cI, 14, .inl (fun _ => 0))), (q31, .inl (cJ, 14, .inr (.inl (fun _ => 0))))] H := hP
  have hD : va_D A [(o, .inr (2, [.ref q7, .ref q15, .ref q23, .null, .null, .int (nI 0), .long 0])), (q7, .inl (cI, 14, .inl (fun _ => 0))), (q15, .inl (cI, 14, .inl (fun _ => 0))), (q23, .inl (cI, 14, .inl (fun _ => 0))), (q31, .inl (cJ, 14, .inr (.inl (fun _ => 0))))] := hD
  refine W.widen (k := 4) (n := 56) (by omega) (by omega) ?_
  refine va_putF (D := (dC, dI)) (ci := 2) (v := .ref q31) (ty := .array .long) (C := R_SK) (T := F_SK) (N := 7) hx hb hts in_SK t_SK t_SK_ok n_SK hown hK.1 hP hD hS 0 rfl rfl 3 (by decide) (hts _ wfl_SK_21) (fun _ h9 => h9) rfl hin rfl (by decide +kernel) rfl rfl (Nat.le_of_ble_eq_true rfl) d_SK_init_33 (fun H locs hP hD hS => ?_)
  have hP : va_P (dC, dI) cls [(o, .inr (2, [.ref q7, .ref q15, .ref q23, .ref q31, .null, .int (nI 0), .long 0])), (q7, .inl (cI, 14, .inl (fun _ => 0))), (q15, .inl (cI, 14, .inl (fun _ => 0))), (q23, .inl (cI, 14, .inl (fun _ => 0))), (q31, .inl (cJ, 14, .inr (.inl (fun _ => 0))))] H := hP
  have hD : va_D A [(o, .inr (2, [.ref q7, .ref q15, .ref q23, .ref q31, .null, .int (nI 0), .long 0])), (q7, .inl (cI, 14, .inl (fun _ => 0))), (q15, .inl (cI, 14, .inl (fun _ => 0))), (q23, .inl (cI, 14, .inl (fun _ => 0))), (q31, .inl (cJ, 14, .inr (.inl (fun _ => 0))))] := hD
  refine lv_aload_n hx hb d_SK_init_36 rfl (lv_at hl 0 rfl) ?_
  have h_c : 5 ≤ 6 := by decide
  have h_s : 58 ≤ 99 := by decide
  refine va_new (ci := 3) (fs := [.null, .int (nI 0)]) (C := R_GP) (T := F_GP) (N := 2) hx hb hts in_GP t_GP t_GP_ok hown (hts _ wcl_SK_25) (hts _ winst_GP) (hts _ wini_GP) hK.1 hP hD hS hA rfl (fun j hj => by rcases (show j = 0 ∨ j = 1 by omega) with rfl | rfl <;> rfl) h_c h_s d_SK_init_37 (fun q37 H hP hD hS => ?_)
  have hP : va_P (dC, dI) cls [(o, .inr (2, [.ref q7, .ref q15, .ref q23, .ref q31, .null, .int (nI 0), .long 0])), (q7, .inl (cI, 14, .inl (fun _ => 0))), (q15, .inl (cI, 14, .inl (fun _ => 0))), (q23, .inl (cI, 14, .inl (fun _ => 0))), (q31, .inl (cJ, 14, .inr (.inl (fun _ => 0)))), (q37, .inr (3, [.null, .int (nI 0)]))] H := hP
  have hD : va_D A [(o, .inr (2, [.ref q7, .ref q15, .ref q23, .ref q31, .null, .int (nI 0), .long 0])), (q7, .inl (cI, 14, .inl (fun _ => 0))), (q15, .inl (cI, 14, .inl (fun _ => 0))), (q23, .inl (cI, 14, .inl (fun _ => 0))), (q31, .inl (cJ, 14, .inr (.inl (fun _ => 0)))), (q37, .inr (3, [.null, .int (nI 0)]))] := hD
  refine W.widen (k := 5) (n := 58) (by omega) (by omega) ?_
  refine lv_dup hx hb d_SK_init_40 rfl ?_
  have h_c : 6 ≤ 6 := by decide
  have h_s : 99 ≤ 99 := by decide
  refine x_cn (wr := [(o, .inr (2, [.ref q7, .ref q15, .ref q23, .ref q31, .null, .int (nI 0), .long 0])), (q7, .inl (cI, 14, .inl (fun _ => 0))), (q15, .inl (cI, 14, .inl (fun _ => 0))), (q23, .inl (cI, 14, .inl (fun _ => 0))), (q31, .inl (cJ, 14, .inr (.inl (fun _ => 0))))]) (w1 := fun (u9 : Nat) => [(q37, .inr (3, [.ref u9, .int (nI 0)])), (u9, .inl (cJ, 41, .inr (.inl (fun _ => 0))))]) (k_IN (rest := [.ref q37, .ref o]) ⟨hx, hb, hml, hown, hts⟩ (c_GP_init l dC dI cI cJ cZ q37 H.size) hK wmn_SK_27 wim_GP_init wini_GP wcode_GP_init rfl (by decide +kernel) ⟨(Nat.le_of_ble_eq_true rfl), (Nat.le_of_ble_eq_true rfl)⟩ (pre_C (hP.sub (ws' := [(q37, .inr (3, [.null, .int (nI 0)]))]) [5] rfl) hK (hD.sub (ws' := [(q37, .inr (3, [.null, .int (nI 0)]))]) [5] (by decide) rfl)) hl.1 rfl (Nat.le_of_ble_eq_true rfl) d_SK_init_41 ⟨h_c, h_s⟩) hP hD hS hA [5] [0, 1, 2, 3, 4] rfl rfl (by decide) (by decide) (fun u41 H locs _ hP hD hS => ?_)
  obtain ⟨q7_41, rfl⟩ : ∃ z, z = u41 := ⟨_, rfl⟩
  have hP : va_P (dC, dI) cls [(o, .inr (2, [.ref q7, .ref q15, .ref q23, .ref q31, .null, .int (nI 0), .long 0])), (q7, .inl (cI, 14, .inl (fun _ => 0))), (q15, .inl (cI, 14, .inl (fun _ => 0))), (q23, .inl (cI, 14, .inl (fun _ => 0))), (q31, .inl (cJ, 14, .inr (.inl (fun _ => 0)))), (q37, .inr (3, [.ref q7_41, .int (nI 0)])), (q7_41, .inl (cJ, 41, .inr (.inl (fun _ => 0))))] H := hP
  have hD : va_D A [(o, .inr (2, [.ref q7, .ref q15, .ref q23, .ref q31, .null, .int (nI 0), .long 0])), (q7, .inl (cI, 14, .inl (fun _ => 0))), (q15, .inl (cI, 14, .inl (fun _ => 0))), (q23, .inl (cI, 14, .inl (fun _ => 0))), (q31, .inl (cJ, 14, .inr (.inl (fun _ => 0)))), (q37, .inr (3, [.ref q7_41, .int (nI 0)])), (q7_41, .inl (cJ, 41, .inr (.inl (fun _ => 0))))] := hD
  refine W.widen (k := 6) (n := 99) (by omega) (by omega) ?_
  refine va_putF (D := (dC, dI)) (ci := 2) (v := .ref q37) (ty := .object "CutPoints$Groups") (C := R_SK) (T := F_SK) (N := 7) hx hb hts in_SK t_SK t_SK_ok n_SK hown hK.1 hP hD hS 0 rfl rfl 4 (by decide) (hts _ wfl_SK_28) (fun _ h9 => h9) rfl hin rfl (by decide +kernel) rfl rfl (Nat.le_of_ble_eq_true rfl) d_SK_init_44 (fun H locs hP hD hS => ?_)
  have hP : va_P (dC, dI) cls [(o, .inr (2, [.ref q7, .ref q15, .ref q23, .ref q31, .ref q37, .int (nI 0), .long 0])), (q7, .inl (cI, 14, .inl (fun _ => 0))), (q15, .inl (cI, 14, .inl (fun _ => 0))), (q23, .inl (cI, 14, .inl (fun _ => 0))), (q31, .inl (cJ, 14, .inr (.inl (fun _ => 0)))), (q37, .inr (3, [.ref q7_41, .int (nI 0)])), (q7_41, .inl (cJ, 41, .inr (.inl (fun _ => 0))))] H := hP
  have hD : va_D A [(o, .inr (2, [.ref q7, .ref q15, .ref q23, .ref q31, .ref q37, .int (nI 0), .long 0])), (q7, .inl (cI, 14, .inl (fun _ => 0))), (q15, .inl (cI, 14, .inl (fun _ => 0))), (q23, .inl (cI, 14, .inl (fun _ => 0))), (q31, .inl (cJ, 14, .inr (.inl (fun _ => 0)))), (q37, .inr (3, [.ref q7_41, .int (nI 0)])), (q7_41, .inl (cJ, 41, .inr (.inl (fun _ => 0))))] := hD
  exact W.vret hx hb hr (fun t9 ht9 _ => ⟨⟨(q7, q15, q23, q31, q37, q7_41), rfl, trivial, ⟨by show va_P (dC, dI) cls _ t9.heap; rw [ht9]; exact hP, hD⟩⟩, hS.F ht9⟩) hS.2.2 d_SK_init_47

theorem d_FL_init_0 : decode prog_3_method_1_code 0 = .ok (.aload_n 0, 1) := by decide +kernel
theorem d_FL_init_1 : decode prog_3_method_1_code 1 = .ok (.invokespecial 3, 3) := by decide +kernel
theorem d_FL_init_4 : decode prog_3_method_1_code 4 = .ok (.aload_n 0, 1) := by decide +kernel
theorem d_FL_init_5 : decode prog_3_method_1_code 5 = .ok (.sipush 784, 3) := by decide +kernel
theorem d_FL_init_8 : decode prog_3_method_1_code 8 = .ok (.newarray .int, 2) := by decide +kernel
theorem d_FL_init_10 : decode prog_3_method_1_code 10 = .ok (.putfield 11, 3) := by decide +kernel
theorem d_FL_init_13 : decode prog_3_method_1_code 13 = .ok (.aload_n 0, 1) := by decide +kernel
theorem d_FL_init_14 : decode prog_3_method_1_code 14 = .ok (.bipush 28, 2) := by decide +kernel
theorem d_FL_init_16 : decode prog_3_method_1_code 16 = .ok (.newarray .int, 2) := by decide +kernel
theorem d_FL_init_18 : decode prog_3_method_1_code 18 = .ok (.putfield 15, 3) := by decide +kernel
theorem d_FL_init_21 : decode prog_3_method_1_code 21 = .ok (.aload_n 0, 1) := by decide +kernel
theorem d_FL_init_22 : decode prog_3_method_1_code 22 = .ok (.bipush 28, 2) := by decide +kernel
theorem d_FL_init_24 : decode prog_3_method_1_code 24 = .ok (.newarray .int, 2) := by decide +kernel
theorem d_FL_init_26 : decode prog_3_method_1_code 26 = .ok (.putfield 18, 3) := by decide +kernel
theorem d_FL_init_29 : decode prog_3_method_1_code 29 = .ok (.return_, 1) := by decide +kernel
set_option maxHeartbeats 4000000 in
set_option maxRecDepth 100000 in
theorem c_FL_init (l : Launch) (dC : Nat → ClassId) (dI : Nat → Nat → Nat) (cI cJ cZ : ClassId) (o sz : Nat) : Met l ⟨"CutPoints$Flow", "<init>", "()V"⟩ (Cond.code ⟨"CutPoints$Flow", "<init>", "()V"⟩ prog_3_method_1_code 1 none :: TT) (rmc 1 12 3 840) (PC dC dI cI cJ cZ [.ref o] sz [(o, .inr (4, [.null, .null, .null, .int (nI 0)]))]) (va_Qv (S := Nat × Nat × Nat) (fun _ => True) (fun u9 t9 => va_P (dC, dI) cls [(o, .inr (4, [.ref u9.1, .ref u9.2.1, .ref u9.2.2, .int (nI 0)])), (u9.1, .inl (cI, 784, .inl (nF (fun _ => 0)))), (u9.2.1, .inl (cI, 28, .inl (fun _ => 0))), (u9.2.2, .inl (cI, 28, .inl (nF (fun _ => 0))))] t9.heap ∧ va_D (va_A [(o, .inr (4, [.null, .null, .null, .int (nI 0)]))] sz) [(o, .inr (4, [.ref u9.1, .ref u9.2.1, .ref u9.2.2, .int (nI 0)])), (u9.1, .inl (cI, 784, .inl (nF (fun _ => 0)))), (u9.2.1, .inl (cI, 28, .inl (fun _ => 0))), (u9.2.2, .inl (cI, 28, .inl (nF (fun _ => 0))))]) (va_A [(o, .inr (4, [.null, .null, .null, .int (nI 0)]))] sz)) 3 840 (va_A [(o, .inr (4, [.null, .null, .null, .int (nI 0)]))] sz) := by
  refine Met.ofW (cc := prog_3_method_1_code) (maxL := 1) (ret := none) (by decide) rfl ?_
  intro p e s m args below meth c s₁ BB9 hml hv
  obtain ⟨rfl, hsz, hP, hK, hD0⟩ := hv
  have hx := BB9.exec
  have hb := BB9.bytes
  have hr := BB9.returns
  have hts : ∀ w ∈ TT, w.before _ s = true := fun w h => atoms_spec (ws := (Cond.code ⟨"CutPoints$Flow", "<init>", "()V"⟩ prog_3_method_1_code 1 none :: TT)) BB9.pre w (List.mem_cons_of_mem _ h)
  have hown : s.vm.findClass "CutPoints$Flow" = some m.cls := findClass_of_methodNamed BB9.named
  have hlocks := BB9.notSynchronized
  have hin : meth.name = "<init>" := (name_of_methodNamed BB9.named BB9.method).1
  subst hsz
  have hD := hD0.self (sz := s.heap.size)
  generalize hAe : va_A [(o, .inr (4, [.null, .null, .null, .int (nI 0)]))] s.heap.size = A at hD ⊢
  have hA : ∀ q : Nat, s.heap.size ≤ q → A q := fun q h => by rw [← hAe]; exact Or.inr h
  have hS : va_S A s.heap s.heap [] := va_S.rf
  have hP : va_P (dC, dI) cls [(o, .inr (4, [.null, .null, .null, .int (nI 0)]))] s.heap := hP
  have hl := lv_entry ([.ref o]) (n := 1) (Nat.le_of_ble_eq_true rfl)
  rw [lg_entry_eq]
  generalize (lg_sl ([.ref o]) ++ List.replicate (1 - (lg_sl ([.ref o])).length) Slot.unset).toArray = ls at hl ⊢
  have hl : lv_has ls 1 [(0, .ref o)] := hl
  refine lv_aload_n hx hb d_FL_init_0 rfl (lv_at hl 0 rfl) ?_
  refine W.objInit hx hb hown (hts _ wml_FL_3) (hts _ wim_OB_init) (hts _ wcode_OB_init) rfl (by rw [hml]; exact hl.1) rfl d_FL_init_1 (Nat.le_of_ble_eq_true rfl) (Nat.le_of_ble_eq_true rfl) ?_
  refine W.eq (g2 := F0 m 4 ls []) rfl ?_
  refine lv_aload_n hx hb d_FL_init_4 rfl (lv_at hl 0 rfl) ?_
  refine lv_sipush (v := (nI 784)) hx hb d_FL_init_5 (by decide) ?_
  have h_c : 1 ≤ 3 := by decide
  have h_s : 784 ≤ 840 := by decide
  refine x_na (atype := .int) (ty := .int) (a0 := (784, .inl (nF (fun _ => 0)))) hx hb (hts _ warr_int) rfl hK hP hD hS hA 0 rfl (fun _ h9 => h9) (fun _ => rfl) (by decide +kernel) (by decide +kernel) (by decide +kernel) h_c h_s d_FL_init_8 (fun q8 H hP hD hS => ?_)
  have hP : va_P (dC, dI) cls [(o, .inr (4, [.null, .null, .null, .int (nI 0)])), (q8, .inl (cI, 784, .inl (nF (fun _ => 0))))] H := hP
  have hD : va_D A [(o, .inr (4, [.null, .null, .null, .int (nI 0)])), (q8, .inl (cI, 784, .inl (nF (fun _ => 0))))] := hD
  refine W.widen (k := 1) (n := 784) (by omega) (by omega) ?_
  refine va_putF (D := (dC, dI)) (ci := 4) (v := .ref q8) (ty := .array .int) (C := R_FL) (T := F_FL) (N := 4) hx hb hts in_FL t_FL t_FL_ok n_FL hown hK.1 hP hD hS 0 rfl rfl 0 (by decide) (hts _ wfl_FL_11) (fun _ h9 => h9) rfl hin rfl (by decide +kernel) rfl rfl (Nat.le_of_ble_eq_true rfl) d_FL_init_10 (fun H locs hP hD hS => ?_)
  have hP : va_P (dC, dI) cls [(o, .inr (4, [.ref q8, .null, .null, .int (nI 0)])), (q8, .inl (cI, 784, .inl (nF (fun _ => 0))))] H := hP
  have hD : va_D A [(o, .inr (4, [.ref q8, .null, .null, .int (nI 0)])), (q8, .inl (cI, 784, .inl (nF (fun _ => 0))))] := hD
  refine lv_aload_n hx hb d_FL_init_13 rfl (lv_at hl 0 rfl) ?_
  refine lv_bipush (v := (nI 28)) hx hb d_FL_init_14 (by decide) ?_
  have h_c : 2 ≤ 3 := by decide
  have h_s : 812 ≤ 840 := by decide
  refine x_na (atype := .int) (ty := .int) (a0 := (28, .inl (fun _ => 0))) hx hb (hts _ warr_int) rfl hK hP hD hS hA 0 rfl (fun _ h9 => h9) (fun _ => rfl) (by decide +kernel) (by decide +kernel) (by decide +kernel) h_c h_s d_FL_init_16 (fun q16 H hP hD hS => ?_)
  have hP : va_P (dC, dI) cls [(o, .inr (4, [.ref q8, .null, .null, .int (nI 0)])), (q8, .inl (cI, 784, .inl (nF (fun _ => 0)))), (q16, .inl (cI, 28, .inl (fun _ => 0)))] H := hP
  have hD : va_D A [(o, .inr (4, [.ref q8, .null, .null, .int (nI 0)])), (q8, .inl (cI, 784, .inl (nF (fun _ => 0)))), (q16, .inl (cI, 28, .inl (fun _ => 0)))] := hD
  refine W.widen (k := 2) (n := 812) (by omega) (by omega) ?_
  refine va_putF (D := (dC, dI)) (ci := 4) (v := .ref q16) (ty := .array .int) (C := R_FL) (T := F_FL) (N := 4) hx hb hts in_FL t_FL t_FL_ok n_FL hown hK.1 hP hD hS 0 rfl rfl 1 (by decide) (hts _ wfl_FL_15) (fun _ h9 => h9) rfl hin rfl (by decide +kernel) rfl rfl (Nat.le_of_ble_eq_true rfl) d_FL_init_18 (fun H locs hP hD hS => ?_)
  have hP : va_P (dC, dI) cls [(o, .inr (4, [.ref q8, .ref q16, .null, .int (nI 0)])), (q8, .inl (cI, 784, .inl (nF (fun _ => 0)))), (q16, .inl (cI, 28, .inl (fun _ => 0)))] H := hP
  have hD : va_D A [(o, .inr (4, [.ref q8, .ref q16, .null, .int (nI 0)])), (q8, .inl (cI, 784, .inl (nF (fun _ => 0)))), (q16, .inl (cI, 28, .inl (fun _ => 0)))] := hD
  refine lv_aload_n hx hb d_FL_init_21 rfl (lv_at hl 0 rfl) ?_
  refine lv_bipush (v := (nI 28)) hx hb d_FL_init_22 (by decide) ?_
  have h_c : 3 ≤ 3 := by decide
  have h_s : 840 ≤ 840 := by decide
  refine x_na (atype := .int) (ty := .int) (a0 := (28, .inl (nF (fun _ => 0)))) hx hb (hts _ warr_int) rfl hK hP hD hS hA 0 rfl (fun _ h9 => h9) (fun _ => rfl) (by decide +kernel) (by decide +kernel) (by decide +kernel) h_c h_s d_FL_init_24 (fun q24 H hP hD hS => ?_)
  have hP : va_P (dC, dI) cls [(o, .inr (4, [.ref q8, .ref q16, .null, .int (nI 0)])), (q8, .inl (cI, 784, .inl (nF (fun _ => 0)))), (q16, .inl (cI, 28, .inl (fun _ => 0))), (q24, .inl (cI, 28, .inl (nF (fun _ => 0))))] H := hP
  have hD : va_D A [(o, .inr (4, [.ref q8, .ref q16, .null, .int (nI 0)])), (q8, .inl (cI, 784, .inl (nF (fun _ => 0)))), (q16, .inl (cI, 28, .inl (fun _ => 0))), (q24, .inl (cI, 28, .inl (nF (fun _ => 0))))] := hD
  refine W.widen (k := 3) (n := 840) (by omega) (by omega) ?_
  refine va_putF (D := (dC, dI)) (ci := 4) (v := .ref q24) (ty := .array .int) (C := R_FL) (T := F_FL) (N := 4) hx hb hts in_FL t_FL t_FL_ok n_FL hown hK.1 hP hD hS 0 rfl rfl 2 (by decide) (hts _ wfl_FL_18) (fun _ h9 => h9) rfl hin rfl (by decide +kernel) rfl rfl (Nat.le_of_ble_eq_true rfl) d_FL_init_26 (fun H locs hP hD hS => ?_)
  have hP : va_P (dC, dI) cls [(o, .inr (4, [.ref q8, .ref q16, .ref q24, .int (nI 0)])), (q8, .inl (cI, 784, .inl (nF (fun _ => 0)))), (q16, .inl (cI, 28, .inl (fun _ => 0))), (q24, .inl (cI, 28, .inl (nF (fun _ => 0))))] H := hP
  have hD : va_D A [(o, .inr (4, [.ref q8, .ref q16, .ref q24, .int (nI 0)])), (q8, .inl (cI, 784, .inl (nF (fun _ => 0)))), (q16, .inl (cI, 28, .inl (fun _ => 0))), (q24, .inl (cI, 28, .inl (nF (fun _ => 0))))] := hD
  exact W.vret hx hb hr (fun t9 ht9 _ => ⟨⟨(q8, q16, q24), rfl, trivial, ⟨by show va_P (dC, dI) cls _ t9.heap; rw [ht9]; exact hP, hD⟩⟩, hS.F ht9⟩) hS.2.2 d_FL_init_29

theorem d_CO_init_0 : decode prog_2_method_1_code 0 = .ok (.aload_n 0, 1) := by decide +kernel
theorem d_CO_init_1 : decode prog_2_method_1_code 1 = .ok (.invokespecial 3, 3) := by decide +kernel
theorem d_CO_init_4 : decode prog_2_method_1_code 4 = .ok (.aload_n 0, 1) := by decide +kernel
theorem d_CO_init_5 : decode prog_2_method_1_code 5 = .ok (.bipush 14, 2) := by decide +kernel
theorem d_CO_init_7 : decode prog_2_method_1_code 7 = .ok (.newarray .int, 2) := by decide +kernel
theorem d_CO_init_9 : decode prog_2_method_1_code 9 = .ok (.putfield 9, 3) := by decide +kernel
theorem d_CO_init_12 : decode prog_2_method_1_code 12 = .ok (.return_, 1) := by decide +kernel
set_option maxHeartbeats 4000000 in
set_option maxRecDepth 100000 in
theorem c_CO_init (l : Launch) (dC : Nat → ClassId) (dI : Nat → Nat → Nat) (cI cJ cZ : ClassId) (o sz : Nat) : Met l ⟨"CutPoints$Compass", "<init>", "()V"⟩ (Cond.code ⟨"CutPoints$Compass", "<init>", "()V"⟩ prog_2_method_1_code 1 none :: TT) (rmc 1 12 1 14) (PC dC dI cI cJ cZ [.ref o] sz [(o, .inr (5, [.null]))]) (va_Qv (S := Nat) (fun _ => True) (fun u9 t9 => va_P (dC, dI) cls [(o, .inr (5, [.ref u9])), (u9, .inl (cI, 14, .inl (fun _ => 0)))] t9.heap ∧ va_D (va_A [(o, .inr (5, [.null]))] sz) [(o, .inr (5, [.ref u9])), (u9, .inl (cI, 14, .inl (fun _ => 0)))]) (va_A [(o, .inr (5, [.null]))] sz)) 1 14 (va_A [(o, .inr (5, [.null]))] sz) := by
  refine Met.ofW (cc := prog_2_method_1_code) (maxL := 1) (ret := none) (by decide) rfl ?_
  intro p e s m args below meth c s₁ BB9 hml hv
  obtain ⟨rfl, hsz, hP, hK, hD0⟩ := hv
  have hx := BB9.exec
  have hb := BB9.bytes
  have hr := BB9.returns
  have hts : ∀ w ∈ TT, w.before _ s = true := fun w h => atoms_spec (ws := (Cond.code ⟨"CutPoints$Compass", "<init>", "()V"⟩ prog_2_method_1_code 1 none :: TT)) BB9.pre w (List.mem_cons_of_mem _ h)
  have hown : s.vm.findClass "CutPoints$Compass" = some m.cls := findClass_of_methodNamed BB9.named
  have hlocks := BB9.notSynchronized
  have hin : meth.name = "<init>" := (name_of_methodNamed BB9.named BB9.method).1
  subst hsz
  have hD := hD0.self (sz := s.heap.size)
  generalize hAe : va_A [(o, .inr (5, [.null]))] s.heap.size = A at hD ⊢
  have hA : ∀ q : Nat, s.heap.size ≤ q → A q := fun q h => by rw [← hAe]; exact Or.inr h
  have hS : va_S A s.heap s.heap [] := va_S.rf
  have hP : va_P (dC, dI) cls [(o, .inr (5, [.null]))] s.heap := hP
  have hl := lv_entry ([.ref o]) (n := 1) (Nat.le_of_ble_eq_true rfl)
  rw [lg_entry_eq]
  generalize (lg_sl ([.ref o]) ++ List.replicate (1 - (lg_sl ([.ref o])).length) Slot.unset).toArray = ls at hl ⊢
  have hl : lv_has ls 1 [(0, .ref o)] := hl
  refine lv_aload_n hx hb d_CO_init_0 rfl (lv_at hl 0 rfl) ?_
  refine W.objInit hx hb hown (hts _ wml_CO_3) (hts _ wim_OB_init) (hts _ wcode_OB_init) rfl (by rw [hml]; exact hl.1) rfl d_CO_init_1 (Nat.le_of_ble_eq_true rfl) (Nat.le_of_ble_eq_true rfl) ?_
  refine W.eq (g2 := F0 m 4 ls []) rfl ?_
  refine lv_aload_n hx hb d_CO_init_4 rfl (lv_at hl 0 rfl) ?_
  refine lv_bipush (v := (nI 14)) hx hb d_CO_init_5 (by decide) ?_
  have h_c : 1 ≤ 1 := by decide
  have h_s : 14 ≤ 14 := by decide
  refine x_na (atype := .int) (ty := .int) (a0 := (14, .inl (fun _ => 0))) hx hb (hts _ warr_int) rfl hK hP hD hS hA 0 rfl (fun _ h9 => h9) (fun _ => rfl) (by decide +kernel) (by decide +kernel) (by decide +kernel) h_c h_s d_CO_init_7 (fun q7 H hP hD hS => ?_)
  have hP : va_P (dC, dI) cls [(o, .inr (5, [.null])), (q7, .inl (cI, 14, .inl (fun _ => 0)))] H := hP
  have hD : va_D A [(o, .inr (5, [.null])), (q7, .inl (cI, 14, .inl (fun _ => 0)))] := hD
  refine W.widen (k := 1) (n := 14) (by omega) (by omega) ?_
  refine va_putF (D := (dC, dI)) (ci := 5) (v := .ref q7) (ty := .array .int) (C := R_CO) (T := F_CO) (N := 1) hx hb hts in_CO t_CO t_CO_ok n_CO hown hK.1 hP hD hS 0 rfl rfl 0 (by decide) (hts _ wfl_CO_9) (fun _ h9 => h9) rfl hin rfl (by decide +kernel) rfl rfl (Nat.le_of_ble_eq_true rfl) d_CO_init_9 (fun H locs hP hD hS => ?_)
  have hP : va_P (dC, dI) cls [(o, .inr (5, [.ref q7])), (q7, .inl (cI, 14, .inl (fun _ => 0)))] H := hP
  have hD : va_D A [(o, .inr (5, [.ref q7])), (q7, .inl (cI, 14, .inl (fun _ => 0)))] := hD
  exact W.vret hx hb hr (fun t9 ht9 _ => ⟨⟨(q7), rfl, trivial, ⟨by show va_P (dC, dI) cls _ t9.heap; rw [ht9]; exact hP, hD⟩⟩, hS.F ht9⟩) hS.2.2 d_CO_init_12

theorem d_SP_init_0 : decode prog_7_method_1_code 0 = .ok (.aload_n 0, 1) := by decide +kernel
theorem d_SP_init_1 : decode prog_7_method_1_code 1 = .ok (.invokespecial 5, 3) := by decide +kernel
theorem d_SP_init_4 : decode prog_7_method_1_code 4 = .ok (.aload_n 0, 1) := by decide +kernel
theorem d_SP_init_5 : decode prog_7_method_1_code 5 = .ok (.new 11, 3) := by decide +kernel
theorem d_SP_init_8 : decode prog_7_method_1_code 8 = .ok (.dup, 1) := by decide +kernel
theorem d_SP_init_9 : decode prog_7_method_1_code 9 = .ok (.invokespecial 13, 3) := by decide +kernel
theorem d_SP_init_12 : decode prog_7_method_1_code 12 = .ok (.putfield 14, 3) := by decide +kernel
theorem d_SP_init_15 : decode prog_7_method_1_code 15 = .ok (.aload_n 0, 1) := by decide +kernel
theorem d_SP_init_16 : decode prog_7_method_1_code 16 = .ok (.sipush 1274, 3) := by decide +kernel
theorem d_SP_init_19 : decode prog_7_method_1_code 19 = .ok (.newarray .long, 2) := by decide +kernel
theorem d_SP_init_21 : decode prog_7_method_1_code 21 = .ok (.putfield 18, 3) := by decide +kernel
theorem d_SP_init_24 : decode prog_7_method_1_code 24 = .ok (.aload_n 0, 1) := by decide +kernel
theorem d_SP_init_25 : decode prog_7_method_1_code 25 = .ok (.bipush 92, 2) := by decide +kernel
theorem d_SP_init_27 : decode prog_7_method_1_code 27 = .ok (.newarray .int, 2) := by decide +kernel
theorem d_SP_init_29 : decode prog_7_method_1_code 29 = .ok (.putfield 22, 3) := by decide +kernel
theorem d_SP_init_32 : decode prog_7_method_1_code 32 = .ok (.aload_n 0, 1) := by decide +kernel
theorem d_SP_init_33 : decode prog_7_method_1_code 33 = .ok (.bipush 14, 2) := by decide +kernel
theorem d_SP_init_35 : decode prog_7_method_1_code 35 = .ok (.newarray .long, 2) := by decide +kernel
theorem d_SP_init_37 : decode prog_7_method_1_code 37 = .ok (.putfield 26, 3) := by decide +kernel
theorem d_SP_init_40 : decode prog_7_method_1_code 40 = .ok (.return_, 1) := by decide +kernel
set_option maxHeartbeats 4000000 in
set_option maxRecDepth 100000 in
theorem c_SP_init (l : Launch) (dC : Nat → ClassId) (dI : Nat → Nat → Nat) (cI cJ cZ : ClassId) (o sz : Nat) : Met l ⟨"CutPoints$Splitter", "<init>", "()V"⟩ (Cond.code ⟨"CutPoints$Splitter", "<init>", "()V"⟩ prog_7_method_1_code 1 none :: TT) (rmc 2 32 5 1423) (PC dC dI cI cJ cZ [.ref o] sz [(o, .inr (6, [.null, .null, .null, .int (nI 0), .null, .int (nI 0), .long 0]))]) (va_Qv (S := Nat × Nat × Nat × Nat × Nat) (fun _ => True) (fun u9 t9 => va_P (dC, dI) cls [(o, .inr (6, [.ref u9.1, .ref u9.2.2.1, .ref u9.2.2.2.1, .int (nI 0), .ref u9.2.2.2.2, .int (nI 0), .long 0])), (u9.1, .inr (3, [.ref u9.2.1, .int (nI 0)])), (u9.2.1, .inl (cJ, 41, .inr (.inl (fun _ => 0)))), (u9.2.2.1, .inl (cJ, 1274, .inr (.inl (fun _ => 0)))), (u9.2.2.2.1, .inl (cI, 92, .inl (nF (fun _ => 0)))), (u9.2.2.2.2, .inl (cJ, 14, .inr (.inl (fun _ => 0))))] t9.heap ∧ va_D (va_A [(o, .inr (6, [.null, .null, .null, .int (nI 0), .null, .int (nI 0), .long 0]))] sz) [(o, .inr (6, [.ref u9.1, .ref u9.2.2.1, .ref u9.2.2.2.1, .int (nI 0), .ref u9.2.2.2.2, .int (nI 0), .long 0])), (u9.1, .inr (3, [.ref u9.2.1, .int (nI 0)])), (u9.2.1, .inl (cJ, 41, .inr (.inl (fun _ => 0)))), (u9.2.2.1, .inl (cJ, 1274, .inr (.inl (fun _ => 0)))), (u9.2.2.2.1, .inl (cI, 92, .inl (nF (fun _ => 0)))), (u9.2.2.2.2, .inl (cJ, 14, .inr (.inl (fun _ => 0))))]) (va_A [(o, .inr (6, [.null, .null, .null, .int (nI 0), .null, .int (nI 0), .long 0]))] sz)) 5 1423 (va_A [(o, .inr (6, [.null, .null, .null, .int (nI 0), .null, .int (nI 0), .long 0]))] sz) := by
  refine Met.ofW (cc := prog_7_method_1_code) (maxL := 1) (ret := none) (by decide) rfl ?_
  intro p e s m args below meth c s₁ BB9 hml hv
  obtain ⟨rfl, hsz, hP, hK, hD0⟩ := hv
  have hx := BB9.exec
  have hb := BB9.bytes
  have hr := BB9.returns
  have hts : ∀ w ∈ TT, w.before _ s = true := fun w h => atoms_spec (ws := (Cond.code ⟨"CutPoints$Splitter", "<init>", "()V"⟩ prog_7_method_1_code 1 none :: TT)) BB9.pre w (List.mem_cons_of_mem _ h)
  have hown : s.vm.findClass "CutPoints$Splitter" = some m.cls := findClass_of_methodNamed BB9.named
  have hlocks := BB9.notSynchronized
  have hin : meth.name = "<init>" := (name_of_methodNamed BB9.named BB9.method).1
  subst hsz
  have hD := hD0.self (sz := s.heap.size)
  generalize hAe : va_A [(o, .inr (6, [.null, .null, .null, .int (nI 0), .null, .int (nI 0), .long 0]))] s.heap.size = A at hD ⊢
  have hA : ∀ q : Nat, s.heap.size ≤ q → A q := fun q h => by rw [← hAe]; exact Or.inr h
  have hS : va_S A s.heap s.heap [] := va_S.rf
  have hP : va_P (dC, dI) cls [(o, .inr (6, [.null, .null, .null, .int (nI 0), .null, .int (nI 0), .long 0]))] s.heap := hP
  have hl := lv_entry ([.ref o]) (n := 1) (Nat.le_of_ble_eq_true rfl)
  rw [lg_entry_eq]
  generalize (lg_sl ([.ref o]) ++ List.replicate (1 - (lg_sl ([.ref o])).length) Slot.unset).toArray = ls at hl ⊢
  have hl : lv_has ls 1 [(0, .ref o)] := hl
  refine lv_aload_n hx hb d_SP_init_0 rfl (lv_at hl 0 rfl) ?_
  refine W.objInit hx hb hown (hts _ wml_SP_5) (hts _ wim_OB_init) (hts _ wcode_OB_init) rfl (by rw [hml]; exact hl.1) rfl d_SP_init_1 (Nat.le_of_ble_eq_true rfl) (Nat.le_of_ble_eq_true rfl) ?_
  refine W.eq (g2 := F0 m 4 ls []) rfl ?_
  refine lv_aload_n hx hb d_SP_init_4 rfl (lv_at hl 0 rfl) ?_
  have h_c : 1 ≤ 5 := by decide
  have h_s : 2 ≤ 1423 := by decide
  refine va_new (ci := 3) (fs := [.null, .int (nI 0)]) (C := R_GP) (T := F_GP) (N := 2) hx hb hts in_GP t_GP t_GP_ok hown (hts _ wcl_SP_11) (hts _ winst_GP) (hts _ wini_GP) hK.1 hP hD hS hA rfl (fun j hj => by rcases (show j = 0 ∨ j = 1 by omega) with rfl | rfl <;> rfl) h_c h_s d_SP_init_5 (fun q5 H hP hD hS => ?_)
  have hP : va_P (dC, dI) cls [(o, .inr (6, [.null, .null, .null, .int (nI 0), .null, .int (nI 0), .long 0])), (q5, .inr (3, [.null, .int (nI 0)]))] H := hP
  have hD : va_D A [(o, .inr (6, [.null, .null, .null, .int (nI 0), .null, .int (nI 0), .long 0])), (q5, .inr (3, [.null, .int (nI 0)]))] := hD
  refine W.widen (k := 1) (n := 2) (by omega) (by omega) ?_
  refine lv_dup hx hb d_SP_init_8 rfl ?_
  have h_c : 2 ≤ 5 := by decide
  have h_s : 43 ≤ 1423 := by decide
  refine x_cn (wr := [(o, .inr (6, [.null, .null, .null, .int (nI 0), .null, .int (nI 0), .long 0]))]) (w1 := fun (u9 : Nat) => [(q5, .inr (3, [.ref u9, .int (nI 0)])), (u9, .inl (cJ, 41, .inr (.inl (fun _ => 0))))]) (k_IN (rest := [.ref q5, .ref o]) ⟨hx, hb, hml, hown, hts⟩ (c_GP_init l dC dI cI cJ cZ q5 H.size) hK wmn_SP_13 wim_GP_init wini_GP wcode_GP_init rfl (by decide +kernel) ⟨(Nat.le_of_ble_eq_true rfl), (Nat.le_of_ble_eq_true rfl)⟩ (pre_C (hP.sub (ws' := [(q5, .inr (3, [.null, .int (nI 0)]))]) [1] rfl) hK (hD.sub (ws' := [(q5, .inr (3, [.null, .int (nI 0)]))]) [1] (by decide) rfl)) hl.1 rfl (Nat.le_of_ble_eq_true rfl) d_SP_init_9 ⟨h_c, h_s⟩) hP hD hS hA [1] [0] rfl rfl (by decide) (by decide) (fun u9 H locs _ hP hD hS => ?_)
  obtain ⟨q7_9, rfl⟩ : ∃ z, z = u9 := ⟨_, rfl⟩
  have hP : va_P (dC, dI) cls [(o, .inr (6, [.null, .null, .null, .int (nI 0), .null, .int (nI 0), .long 0])), (q5, .inr (3, [.ref q7_9, .int (nI 0)])), (q7_9, .inl (cJ, 41, .inr (.inl (fun _ => 0))))] H := hP
  have hD : va_D A [(o, .inr (6, [.null, .null, .null, .int (nI 0), .null, .int (nI 0), .long 0])), (q5, .inr (3, [.ref q7_9, .int (nI 0)])), (q7_9, .inl (cJ, 41, .inr (.inl (fun _ => 0))))] := hD
  refine W.widen (k := 2) (n := 43) (by omega) (by omega) ?_
  refine va_putF (D := (dC, dI)) (ci := 6) (v := .ref q5) (ty := .object "CutPoints$Groups") (C := R_SP) (T := F_SP) (N := 7) hx hb hts in_SP t_SP t_SP_ok n_SP hown hK.1 hP hD hS 0 rfl rfl 0 (by decide) (hts _ wfl_SP_14) (fun _ h9 => h9) rfl hin rfl (by decide +kernel) rfl rfl (Nat.le_of_ble_eq_true rfl) d_SP_init_12 (fun H locs hP hD hS => ?_)
  have hP : va_P (dC, dI) cls [(o, .inr (6, [.ref q5, .null, .null, .int (nI 0), .null, .int (nI 0), .long 0])), (q5, .inr (3, [.ref q7_9, .int (nI 0)])), (q7_9, .inl (cJ, 41, .inr (.inl (fun _ => 0))))] H := hP
  have hD : va_D A [(o, .inr (6, [.ref q5, .null, .null, .int (nI 0), .null, .int (nI 0), .long 0])), (q5, .inr (3, [.ref q7_9, .int (nI 0)])), (q7_9, .inl (cJ, 41, .inr (.inl (fun _ => 0))))] := hD
  refine lv_aload_n hx hb d_SP_init_15 rfl (lv_at hl 0 rfl) ?_
  refine lv_sipush (v := (nI 1274)) hx hb d_SP_init_16 (by decide) ?_
  have h_c : 3 ≤ 5 := by decide
  have h_s : 1317 ≤ 1423 := by decide
  refine x_na (atype := .long) (ty := .long) (a0 := (1274, .inr (.inl (fun _ => 0)))) hx hb (hts _ warr_long) rfl hK hP hD hS hA 1 rfl (fun _ h9 => h9) (fun _ => rfl) (by decide +kernel) (by decide +kernel) (by decide +kernel) h_c h_s d_SP_init_19 (fun q19 H hP hD hS => ?_)
  have hP : va_P (dC, dI) cls [(o, .inr (6, [.ref q5, .null, .null, .int (nI 0), .null, .int (nI 0), .long 0])), (q5, .inr (3, [.ref q7_9, .int (nI 0)])), (q7_9, .inl (cJ, 41, .inr (.inl (fun _ => 0)))), (q19, .inl (cJ, 1274, .inr (.inl (fun _ => 0))))] H := hP
  have hD : va_D A [(o, .inr (6, [.ref q5, .null, .null, .int (nI 0), .null, .int (nI 0), .long 0])), (q5, .inr (3, [.ref q7_9, .int (nI 0)])), (q7_9, .inl (cJ, 41, .inr (.inl (fun _ => 0)))), (q19, .inl (cJ, 1274, .inr (.inl (fun _ => 0))))] := hD
  refine W.widen (k := 3) (n := 1317) (by omega) (by omega) ?_
  refine va_putF (D := (dC, dI)) (ci := 6) (v := .ref q19) (ty := .array .long) (C := R_SP) (T := F_SP) (N := 7) hx hb hts in_SP t_SP t_SP_ok n_SP hown hK.1 hP hD hS 0 rfl rfl 1 (by decide) (hts _ wfl_SP_18) (fun _ h9 => h9) rfl hin rfl (by decide +kernel) rfl rfl (Nat.le_of_ble_eq_true rfl) d_SP_init_21 (fun H locs hP hD hS => ?_)
  have hP : va_P (dC, dI) cls [(o, .inr (6, [.ref q5, .ref q19, .null, .int (nI 0), .null, .int (nI 0), .long 0])), (q5, .inr (3, [.ref q7_9, .int (nI 0)])), (q7_9, .inl (cJ, 41, .inr (.inl (fun _ => 0)))), (q19, .inl (cJ, 1274, .inr (.inl (fun _ => 0))))] H := hP
  have hD : va_D A [(o, .inr (6, [.ref q5, .ref q19, .null, .int (nI 0), .null, .int (nI 0), .long 0])), (q5, .inr (3, [.ref q7_9, .int (nI 0)])), (q7_9, .inl (cJ, 41, .inr (.inl (fun _ => 0)))), (q19, .inl (cJ, 1274, .inr (.inl (fun _ => 0))))] := hD
  refine lv_aload_n hx hb d_SP_init_24 rfl (lv_at hl 0 rfl) ?_
  refine lv_bipush (v := (nI 92)) hx hb d_SP_init_25 (by decide) ?_
  have h_c : 4 ≤ 5 := by decide
  have h_s : 1409 ≤ 1423 := by decide
  refine x_na (atype := .int) (ty := .int) (a0 := (92, .inl (nF (fun _ => 0)))) hx hb (hts _ warr_int) rfl hK hP hD hS hA 0 rfl (fun _ h9 => h9) (fun _ => rfl) (by decide +kernel) (by decide +kernel) (by decide +kernel) h_c h_s d_SP_init_27 (fun q27 H hP hD hS => ?_)
  have hP : va_P (dC, dI) cls [(o, .inr (6, [.ref q5, .ref q19, .null, .int (nI 0), .null, .int (nI 0), .long 0])), (q5, .inr (3, [.ref q7_9, .int (nI 0)])), (q7_9, .inl (cJ, 41, .inr (.inl (fun _ => 0)))), (q19, .inl (cJ, 1274, .inr (.inl (fun _ => 0)))), (q27, .inl (cI, 92, .inl (nF (fun _ => 0))))] H := hP
  have hD : va_D A [(o, .inr (6, [.ref q5, .ref q19, .null, .int (nI 0), .null, .int (nI 0), .long 0])), (q5, .inr (3, [.ref q7_9, .int (nI 0)])), (q7_9, .inl (cJ, 41, .inr (.inl (fun _ => 0)))), (q19, .inl (cJ, 1274, .inr (.inl (fun _ => 0)))), (q27, .inl (cI, 92, .inl (nF (fun _ => 0))))] := hD
  refine W.widen (k := 4) (n := 1409) (by omega) (by omega) ?_
  refine va_putF (D := (dC, dI)) (ci := 6) (v := .ref q27) (ty := .array .int) (C := R_SP) (T := F_SP) (N := 7) hx hb hts in_SP t_SP t_SP_ok n_SP hown hK.1 hP hD hS 0 rfl rfl 2 (by decide) (hts _ wfl_SP_22) (fun _ h9 => h9) rfl hin rfl (by decide +kernel) rfl rfl (Nat.le_of_ble_eq_true rfl) d_SP_init_29 (fun H locs hP hD hS => ?_)
  have hP : va_P (dC, dI) cls [(o, .inr (6, [.ref q5, .ref q19, .ref q27, .int (nI 0), .null, .int (nI 0), .long 0])), (q5, .inr (3, [.ref q7_9, .int (nI 0)])), (q7_9, .inl (cJ, 41, .inr (.inl (fun _ => 0)))), (q19, .inl (cJ, 1274, .inr (.inl (fun _ => 0)))), (q27, .inl (cI, 92, .inl (nF (fun _ => 0))))] H := hP
  have hD : va_D A [(o, .inr (6, [.ref q5, .ref q19, .ref q27, .int (nI 0), .null, .int (nI 0), .long 0])), (q5, .inr (3, [.ref q7_9, .int (nI 0)])), (q7_9, .inl (cJ, 41, .inr (.inl (fun _ => 0)))), (q19, .inl (cJ, 1274, .inr (.inl (fun _ => 0)))), (q27, .inl (cI, 92, .inl (nF (fun _ => 0))))] := hD
  refine lv_aload_n hx hb d_SP_init_32 rfl (lv_at hl 0 rfl) ?_
  refine lv_bipush (v := (nI 14)) hx hb d_SP_init_33 (by decide) ?_
  have h_c : 5 ≤ 5 := by decide
  have h_s : 1423 ≤ 1423 := by decide
  refine x_na (atype := .long) (ty := .long) (a0 := (14, .inr (.inl (fun _ => 0)))) hx hb (hts _ warr_long) rfl hK hP hD hS hA 1 rfl (fun _ h9 => h9) (fun _ => rfl) (by decide +kernel) (by decide +kernel) (by decide +kernel) h_c h_s d_SP_init_35 (fun q35 H hP hD hS => ?_)
  have hP : va_P (dC, dI) cls [(o, .inr (6, [.ref q5, .ref q19, .ref q27, .int (nI 0), .null, .int (nI 0), .long 0])), (q5, .inr (3, [.ref q7_9, .int (nI 0)])), (q7_9, .inl (cJ, 41, .inr (.inl (fun _ => 0)))), (q19, .inl (cJ, 1274, .inr (.inl (fun _ => 0)))), (q27, .inl (cI, 92, .inl (nF (fun _ => 0)))), (q35, .inl (cJ, 14, .inr (.inl (fun _ => 0))))] H := hP
  have hD : va_D A [(o, .inr (6, [.ref q5, .ref q19, .ref q27, .int (nI 0), .null, .int (nI 0), .long 0])), (q5, .inr (3, [.ref q7_9, .int (nI 0)])), (q7_9, .inl (cJ, 41, .inr (.inl (fun _ => 0)))), (q19, .inl (cJ, 1274, .inr (.inl (fun _ => 0)))), (q27, .inl (cI, 92, .inl (nF (fun _ => 0)))), (q35, .inl (cJ, 14, .inr (.inl (fun _ => 0))))] := hD
  refine W.widen (k := 5) (n := 1423) (by omega) (by omega) ?_
  refine va_putF (D := (dC, dI)) (ci := 6) (v := .ref q35) (ty := .array .long) (C := R_SP) (T := F_SP) (N := 7) hx hb hts in_SP t_SP t_SP_ok n_SP hown hK.1 hP hD hS 0 rfl rfl 4 (by decide) (hts _ wfl_SP_26) (fun _ h9 => h9) rfl hin rfl (by decide +kernel) rfl rfl (Nat.le_of_ble_eq_true rfl) d_SP_init_37 (fun H locs hP hD hS => ?_)
  have hP : va_P (dC, dI) cls [(o, .inr (6, [.ref q5, .ref q19, .ref q27, .int (nI 0), .ref q35, .int (nI 0), .long 0])), (q5, .inr (3, [.ref q7_9, .int (nI 0)])), (q7_9, .inl (cJ, 41, .inr (.inl (fun _ => 0)))), (q19, .inl (cJ, 1274, .inr (.inl (fun _ => 0)))), (q27, .inl (cI, 92, .inl (nF (fun _ => 0)))), (q35, .inl (cJ, 14, .inr (.inl (fun _ => 0))))] H := hP
  have hD : va_D A [(o, .inr (6, [.ref q5, .ref q19, .ref q27, .int (nI 0), .ref q35, .int (nI 0), .long 0])), (q5, .inr (3, [.ref q7_9, .int (nI 0)])), (q7_9, .inl (cJ, 41, .inr (.inl (fun _ => 0)))), (q19, .inl (cJ, 1274, .inr (.inl (fun _ => 0)))), (q27, .inl (cI, 92, .inl (nF (fun _ => 0)))), (q35, .inl (cJ, 14, .inr (.inl (fun _ => 0))))] := hD
  exact W.vret hx hb hr (fun t9 ht9 _ => ⟨⟨(q5, q7_9, q19, q27, q35), rfl, trivial, ⟨by show va_P (dC, dI) cls _ t9.heap; rw [ht9]; exact hP, hD⟩⟩, hS.F ht9⟩) hS.2.2 d_SP_init_40

theorem d_CP_init_0 : decode prog_1_method_1_code 0 = .ok (.aload_n 0, 1) := by decide +kernel
theorem d_CP_init_1 : decode prog_1_method_1_code 1 = .ok (.invokespecial 3, 3) := by decide +kernel
theorem d_CP_init_4 : decode prog_1_method_1_code 4 = .ok (.aload_n 0, 1) := by decide +kernel
theorem d_CP_init_5 : decode prog_1_method_1_code 5 = .ok (.new 9, 3) := by decide +kernel
theorem d_CP_init_8 : decode prog_1_method_1_code 8 = .ok (.dup, 1) := by decide +kernel
theorem d_CP_init_9 : decode prog_1_method_1_code 9 = .ok (.invokespecial 11, 3) := by decide +kernel
theorem d_CP_init_12 : decode prog_1_method_1_code 12 = .ok (.putfield 12, 3) := by decide +kernel
theorem d_CP_init_15 : decode prog_1_method_1_code 15 = .ok (.aload_n 0, 1) := by decide +kernel
theorem d_CP_init_16 : decode prog_1_method_1_code 16 = .ok (.new 16, 3) := by decide +kernel
theorem d_CP_init_19 : decode prog_1_method_1_code 19 = .ok (.dup, 1) := by decide +kernel
theorem d_CP_init_20 : decode prog_1_method_1_code 20 = .ok (.invokespecial 18, 3) := by decide +kernel
theorem d_CP_init_23 : decode prog_1_method_1_code 23 = .ok (.putfield 19, 3) := by decide +kernel
theorem d_CP_init_26 : decode prog_1_method_1_code 26 = .ok (.aload_n 0, 1) := by decide +kernel
theorem d_CP_init_27 : decode prog_1_method_1_code 27 = .ok (.new 16, 3) := by decide +kernel
theorem d_CP_init_30 : decode prog_1_method_1_code 30 = .ok (.dup, 1) := by decide +kernel
theorem d_CP_init_31 : decode prog_1_method_1_code 31 = .ok (.invokespecial 18, 3) := by decide +kernel
theorem d_CP_init_34 : decode prog_1_method_1_code 34 = .ok (.putfield 23, 3) := by decide +kernel
theorem d_CP_init_37 : decode prog_1_method_1_code 37 = .ok (.aload_n 0, 1) := by decide +kernel
theorem d_CP_init_38 : decode prog_1_method_1_code 38 = .ok (.new 26, 3) := by decide +kernel
theorem d_CP_init_41 : decode prog_1_method_1_code 41 = .ok (.dup, 1) := by decide +kernel
theorem d_CP_init_42 : decode prog_1_method_1_code 42 = .ok (.invokespecial 28, 3) := by decide +kernel
theorem d_CP_init_45 : decode prog_1_method_1_code 45 = .ok (.putfield 29, 3) := by decide +kernel
theorem d_CP_init_48 : decode prog_1_method_1_code 48 = .ok (.aload_n 0, 1) := by decide +kernel
theorem d_CP_init_49 : decode prog_1_method_1_code 49 = .ok (.new 33, 3) := by decide +kernel
theorem d_CP_init_52 : decode prog_1_method_1_code 52 = .ok (.dup, 1) := by decide +kernel
theorem d_CP_init_53 : decode prog_1_method_1_code 53 = .ok (.invokespecial 35, 3) := by decide +kernel
theorem d_CP_init_56 : decode prog_1_method_1_code 56 = .ok (.putfield 36, 3) := by decide +kernel
theorem d_CP_init_59 : decode prog_1_method_1_code 59 = .ok (.aload_n 0, 1) := by decide +kernel
theorem d_CP_init_60 : decode prog_1_method_1_code 60 = .ok (.new 40, 3) := by decide +kernel
theorem d_CP_init_63 : decode prog_1_method_1_code 63 = .ok (.dup, 1) := by decide +kernel
theorem d_CP_init_64 : decode prog_1_method_1_code 64 = .ok (.invokespecial 42, 3) := by decide +kernel
theorem d_CP_init_67 : decode prog_1_method_1_code 67 = .ok (.putfield 43, 3) := by decide +kernel
theorem d_CP_init_70 : decode prog_1_method_1_code 70 = .ok (.return_, 1) := by decide +kernel
set_option maxHeartbeats 4000000 in
set_option maxRecDepth 100000 in
theorem c_CP_init (l : Launch) (dC : Nat → ClassId) (dI : Nat → Nat → Nat) (cI cJ cZ : ClassId) (o sz : Nat) : Met l ⟨"CutPoints", "<init>", "()V"⟩ (Cond.code ⟨"CutPoints", "<init>", "()V"⟩ prog_1_method_1_code 1 none :: TT) (rmc 3 52 29 2588) (PC dC dI cI cJ cZ [.ref o] sz [(o, .inr (0, [.null, .null, .null, .null, .null, .null]))]) (va_Qv (S := Nat × Nat × Nat × Nat × Nat × Nat × Nat × Nat × Nat × Nat × Nat × Nat × Nat × Nat × Nat × Nat × Nat × Nat × Nat × Nat × Nat × Nat × Nat × Nat × Nat × Nat × Nat × Nat × Nat) (fun _ => True) (fun u9 t9 => va_P (dC, dI) cls [(o, .inr (0, [.ref u9.1, .ref u9.2.2.2.1, .ref u9.2.2.2.2.2.2.2.2.2.2.1, .ref u9.2.2.2.2.2.2.2.2.2.2.2.2.2.2.2.2.2.1, .ref u9.2.2.2.2.2.2.2.2.2.2.2.2.2.2.2.2.2.2.2.2.2.1, .ref u9.2.2.2.2.2.2.2.2.2.2.2.2.2.2.2.2.2.2.2.2.2.2.2.1])), (u9.1, .inr (1, [.ref u9.2.1, .ref u9.2.2.1, .int (nI 0), .int (nI 0), .long 0])), (u9.2.1, .inl (cI, 41, .inl (nF (fun _ => 0)))), (u9.2.2.1, .inl (cI, 41, .inl (nF (fun _ => 0)))), (u9.2.2.2.1, .inr (2, [.ref u9.2.2.2.2.1, .ref u9.2.2.2.2.2.1, .ref u9.2.2.2.2.2.2.1, .ref u9.2.2.2.2.2.2.2.1, .ref u9.2.2.2.2.2.2.2.2.1, .int (nI 0), .long 0])), (u9.2.2.2.2.1, .inl (cI, 14, .inl (fun _ => 0))), (u9.2.2.2.2.2.1, .inl (cI, 14, .inl (fun _ => 0))), (u9.2.2.2.2.2.2.1, .inl (cI, 14, .inl (fun _ => 0))), (u9.2.2.2.2.2.2.2.1, .inl (cJ, 14, .inr (.inl (fun _ => 0)))), (u9.2.2.2.2.2.2.2.2.1, .inr (3, [.ref u9.2.2.2.2.2.2.2.2.2.1, .int (nI 0)])), (u9.2.2.2.2.2.2.2.2.2.1, .inl (cJ, 41, .inr (.inl (fun _ => 0)))), (u9.2.2.2.2.2.2.2.2.2.2.1, .inr (2, [.ref u9.2.2.2.2.2.2.2.2.2.2.2.1, .ref u9.2.2.2.2.2.2.2.2.2.2.2.2.1, .ref u9.2.2.2.2.2.2.2.2.2.2.2.2.2.1, .ref u9.2.2.2.2.2.2.2.2.2.2.2.2.2.2.1, .ref u9.2.2.2.2.2.2.2.2.2.2.2.2.2.2.2.1, .int (nI 0), .long 0])), (u9.2.2.2.2.2.2.2.2.2.2.2.1, .inl (cI, 14, .inl (fun _ => 0))), (u9.2.2.2.2.2.2.2.2.2.2.2.2.1, .inl (cI, 14, .inl (fun _ => 0))), (u9.2.2.2.2.2.2.2.2.2.2.2.2.2.1, .inl (cI, 14, .inl (fun _ => 0))), (u9.2.2.2.2.2.2.2.2.2.2.2.2.2.2.1, .inl (cJ, 14, .inr (.inl (fun _ => 0)))), (u9.2.2.2.2.2.2.2.2.2.2.2.2.2.2.2.1, .inr (3, [.ref u9.2.2.2.2.2.2.2.2.2.2.2.2.2.2.2.2.1, .int (nI 0)])), (u9.2.2.2.2.2.2.2.2.2.2.2.2.2.2.2.2.1, .inl (cJ, 41, .inr (.inl (fun _ => 0)))), (u9.2.2.2.2.2.2.2.2.2.2.2.2.2.2.2.2.2.1, .inr (4, [.ref u9.2.2.2.2.2.2.2.2.2.2.2.2.2.2.2.2.2.2.1, .ref u9.2.2.2.2.2.2.2.2.2.2.2.2.2.2.2.2.2.2.2.1, .ref u9.2.2.2.2.2.2.2.2.2.2.2.2.2.2.2.2.2.2.2.2.1, .int (nI 0)])), (u9.2.2.2.2.2.2.2.2.2.2.2.2.2.2.2.2.2.2.1, .inl (cI, 784, .inl (nF (fun _ => 0)))), (u9.2.2.2.2.2.2.2.2.2.2.2.2.2.2.2.2.2.2.2.1, .inl (cI, 28, .inl (fun _ => 0))), (u9.2.2.2.2.2.2.2.2.2.2.2.2.2.2.2.2.2.2.2.2.1, .inl (cI, 28, .inl (nF (fun _ => 0)))), (u9.2.2.2.2.2.2.2.2.2.2.2.2.2.2.2.2.2.2.2.2.2.1, .inr (5, [.ref u9.2.2.2.2.2.2.2.2.2.2.2.2.2.2.2.2.2.2.2.2.2.2.1])), (u9.2.2.2.2.2.2.2.2.2.2.2.2.2.2.2.2.2.2.2.2.2.2.1, .inl (cI, 14, .inl (fun _ => 0))), (u9.2.2.2.2.2.2.2.2.2.2.2.2.2.2.2.2.2.2.2.2.2.2.2.1, .inr (6, [.ref u9.2.2.2.2.2.2.2.2.2.2.2.2.2.2.2.2.2.2.2.2.2.2.2.2.1, .ref u9.2.2.2.2.2.2.2.2.2.2.2.2.2.2.2.2.2.2.2.2.2.2.2.2.2.2.1, .ref u9.2.2.2.2.2.2.2.2.2.2.2.2.2.2.2.2.2.2.2.2.2.2.2.2.2.2.2.1, .int (nI 0), .ref u9.2.2.2.2.2.2.2.2.2.2.2.2.2.2.2.2.2.2.2.2.2.2.2.2.2.2.2.2, .int (nI 0), .long 0])), (u9.2.2.2.2.2.2.2.2.2.2.2.2.2.2.2.2.2.2.2.2.2.2.2.2.1, .inr (3, [.ref u9.2.2.2.2.2.2.2.2.2.2.2.2.2.2.2.2.2.2.2.2.2.2.2.2.2.1, .int (nI 0)])), (u9.2.2.2.2.2.2.2.2.2.2.2.2.2.2.2.2.2.2.2.2.2.2.2.2.2.1, .inl (cJ, 41, .inr (.inl (fun _ => 0)))), (u9.2.2.2.2.2.2.2.2.2.2.2.2.2.2.2.2.2.2.2.2.2.2.2.2.2.2.1, .inl (cJ, 1274, .inr (.inl (fun _ => 0)))), (u9.2.2.2.2.2.2.2.2.2.2.2.2.2.2.2.2.2.2.2.2.2.2.2.2.2.2.2.1, .inl (cI, 92, .inl (nF (fun _ => 0)))), (u9.2.2.2.2.2.2.2.2.2.2.2.2.2.2.2.2.2.2.2.2.2.2.2.2.2.2.2.2, .inl (cJ, 14, .inr (.inl (fun _ => 0))))] t9.heap ∧ va_D (va_A [(o, .inr (0, [.null, .null, .null, .null, .null, .null]))] sz) [(o, .inr (0, [.ref u9.1, .ref u9.2.2.2.1, .ref u9.2.2.2.2.2.2.2.2.2.2.1, .ref u9.2.2.2.2.2.2.2.2.2.2.2.2.2.2.2.2.2.1, .ref u9.2.2.2.2.2.2.2.2.2.2.2.2.2.2.2.2.2.2.2.2.2.1, .ref u9.2.2.2.2.2.2.2.2.2.2.2.2.2.2.2.2.2.2.2.2.2.2.2.1])), (u9.1, .inr (1, [.ref u9.2.1, .ref u9.2.2.1, .int (nI 0), .int (nI 0), .long 0])), (u9.2.1, .inl (cI, 41, .inl (nF (fun _ => 0)))), (u9.2.2.1, .inl (cI, 41, .inl (nF (fun _ => 0)))), (u9.2.2.2.1, .inr (2, [.ref u9.2.2.2.2.1, .ref u9.2.2.2.2.2.1, .ref u9.2.2.2.2.2.2.1, .ref u9.2.2.2.2.2.2.2.1, .ref u9.2.2.2.2.2.2.2.2.1, .int (nI 0), .long 0])), (u9.2.2.2.2.1, .inl (cI, 14, .inl (fun _ => 0))), (u9.2.2.2.2.2.1, .inl (cI, 14, .inl (fun _ => 0))), (u9.2.2.2.2.2.2.1, .inl (cI, 14, .inl (fun _ => 0))), (u9.2.2.2.2.2.2.2.1, .inl (cJ, 14, .inr (.inl (fun _ => 0)))), (u9.2.2.2.2.2.2.2.2.1, .inr (3, [.ref u9.2.2.2.2.2.2.2.2.2.1, .int (nI 0)])), (u9.2.2.2.2.2.2.2.2.2.1, .inl (cJ, 41, .inr (.inl (fun _ => 0)))), (u9.2.2.2.2.2.2.2.2.2.2.1, .inr (2, [.ref u9.2.2.2.2.2.2.2.2.2.2.2.1, .ref u9.2.2.2.2.2.2.2.2.2.2.2.2.1, .ref u9.2.2.2.2.2.2.2.2.2.2.2.2.2.1, .ref u9.2.2.2.2.2.2.2.2.2.2.2.2.2.2.1, .ref u9.2.2.2.2.2.2.2.2.2.2.2.2.2.2.2.1, .int (nI 0), .long 0])), (u9.2.2.2.2.2.2.2.2.2.2.2.1, .inl (cI, 14, .inl (fun _ => 0))), (u9.2.2.2.2.2.2.2.2.2.2.2.2.1, .inl (cI, 14, .inl (fun _ => 0))), (u9.2.2.2.2.2.2.2.2.2.2.2.2.2.1, .inl (cI, 14, .inl (fun _ => 0))), (u9.2.2.2.2.2.2.2.2.2.2.2.2.2.2.1, .inl (cJ, 14, .inr (.inl (fun _ => 0)))), (u9.2.2.2.2.2.2.2.2.2.2.2.2.2.2.2.1, .inr (3, [.ref u9.2.2.2.2.2.2.2.2.2.2.2.2.2.2.2.2.1, .int (nI 0)])), (u9.2.2.2.2.2.2.2.2.2.2.2.2.2.2.2.2.1, .inl (cJ, 41, .inr (.inl (fun _ => 0)))), (u9.2.2.2.2.2.2.2.2.2.2.2.2.2.2.2.2.2.1, .inr (4, [.ref u9.2.2.2.2.2.2.2.2.2.2.2.2.2.2.2.2.2.2.1, .ref u9.2.2.2.2.2.2.2.2.2.2.2.2.2.2.2.2.2.2.2.1, .ref u9.2.2.2.2.2.2.2.2.2.2.2.2.2.2.2.2.2.2.2.2.1, .int (nI 0)])), (u9.2.2.2.2.2.2.2.2.2.2.2.2.2.2.2.2.2.2.1, .inl (cI, 784, .inl (nF (fun _ => 0)))), (u9.2.2.2.2.2.2.2.2.2.2.2.2.2.2.2.2.2.2.2.1, .inl (cI, 28, .inl (fun _ => 0))), (u9.2.2.2.2.2.2.2.2.2.2.2.2.2.2.2.2.2.2.2.2.1, .inl (cI, 28, .inl (nF (fun _ => 0)))), (u9.2.2.2.2.2.2.2.2.2.2.2.2.2.2.2.2.2.2.2.2.2.1, .inr (5, [.ref u9.2.2.2.2.2.2.2.2.2.2.2.2.2.2.2.2.2.2.2.2.2.2.1])), (u9.2.2.2.2.2.2.2.2.2.2.2.2.2.2.2.2.2.2.2.2.2.2.1, .inl (cI, 14, .inl (fun _ => 0))), (u9.2.2.2.2.2.2.2.2.2.2.2.2.2.2.2.2.2.2.2.2.2.2.2.1, .inr (6, [.ref u9.2.2.2.2.2.2.2.2.2.2.2.2.2.2.2.2.2.2.2.2.2.2.2.2.1, .ref u9.2.2.2.2.2.2.2.2.2.2.2.2.2.2.2.2.2.2.2.2.2.2.2.2.2.2.1, .ref u9.2.2.2.2.2.2.2.2.2.2.2.2.2.2.2.2.2.2.2.2.2.2.2.2.2.2.2.1, .int (nI 0), .ref u9.2.2.2.2.2.2.2.2.2.2.2.2.2.2.2.2.2.2.2.2.2.2.2.2.2.2.2.2, .int (nI 0), .long 0])), (u9.2.2.2.2.2.2.2.2.2.2.2.2.2.2.2.2.2.2.2.2.2.2.2.2.1, .inr (3, [.ref u9.2.2.2.2.2.2.2.2.2.2.2.2.2.2.2.2.2.2.2.2.2.2.2.2.2.1, .int (nI 0)])), (u9.2.2.2.2.2.2.2.2.2.2.2.2.2.2.2.2.2.2.2.2.2.2.2.2.2.1, .inl (cJ, 41, .inr (.inl (fun _ => 0)))), (u9.2.2.2.2.2.2.2.2.2.2.2.2.2.2.2.2.2.2.2.2.2.2.2.2.2.2.1, .inl (cJ, 1274, .inr (.inl (fun _ => 0)))), (u9.2.2.2.2.2.2.2.2.2.2.2.2.2.2.2.2.2.2.2.2.2.2.2.2.2.2.2.1, .inl (cI, 92, .inl (nF (fun _ => 0)))), (u9.2.2.2.2.2.2.2.2.2.2.2.2.2.2.2.2.2.2.2.2.2.2.2.2.2.2.2.2, .inl (cJ, 14, .inr (.inl (fun _ => 0))))]) (va_A [(o, .inr (0, [.null, .null, .null, .null, .null, .null]))] sz)) 29 2588 (va_A [(o, .inr (0, [.null, .null, .null, .null, .null, .null]))] sz) := by
  refine Met.ofW (cc := prog_1_method_1_code) (maxL := 1) (ret := none) (by decide) rfl ?_
  intro p e s m args below meth c s₁ BB9 hml hv
  obtain ⟨rfl, hsz, hP, hK, hD0⟩ := hv
  have hx := BB9.exec
  have hb := BB9.bytes
  have hr := BB9.returns
  have hts : ∀ w ∈ TT, w.before _ s = true := fun w h => atoms_spec (ws := (Cond.code ⟨"CutPoints", "<init>", "()V"⟩ prog_1_method_1_code 1 none :: TT)) BB9.pre w (List.mem_cons_of_mem _ h)
  have hown : s.vm.findClass "CutPoints" = some m.cls := findClass_of_methodNamed BB9.named
  have hlocks := BB9.notSynchronized
  have hin : meth.name = "<init>" := (name_of_methodNamed BB9.named BB9.method).1
  subst hsz
  have hD := hD0.self (sz := s.heap.size)
  generalize hAe : va_A [(o, .inr (0, [.null, .null, .null, .null, .null, .null]))] s.heap.size = A at hD ⊢
  have hA : ∀ q : Nat, s.heap.size ≤ q → A q := fun q h => by rw [← hAe]; exact Or.inr h
  have hS : va_S A s.heap s.heap [] := va_S.rf
  have hP : va_P (dC, dI) cls [(o, .inr (0, [.null, .null, .null, .null, .null, .null]))] s.heap := hP
  have hl := lv_entry ([.ref o]) (n := 1) (Nat.le_of_ble_eq_true rfl)
  rw [lg_entry_eq]
  generalize (lg_sl ([.ref o]) ++ List.replicate (1 - (lg_sl ([.ref o])).length) Slot.unset).toArray = ls at hl ⊢
  have hl : lv_has ls 1 [(0, .ref o)] := hl
  refine lv_aload_n hx hb d_CP_init_0 rfl (lv_at hl 0 rfl) ?_
  refine W.objInit hx hb hown (hts _ wml_CP_3) (hts _ wim_OB_init) (hts _ wcode_OB_init) rfl (by rw [hml]; exact hl.1) rfl d_CP_init_1 (Nat.le_of_ble_eq_true rfl) (Nat.le_of_ble_eq_true rfl) ?_
  refine W.eq (g2 := F0 m 4 ls []) rfl ?_
  refine lv_aload_n hx hb d_CP_init_4 rfl (lv_at hl 0 rfl) ?_
  have h_c : 1 ≤ 29 := by decide
  have h_s : 5 ≤ 2588 := by decide
  refine va_new (ci := 1) (fs := [.null, .null, .int (nI 0), .int (nI 0), .long 0]) (C := R_GR) (T := F_GR) (N := 5) hx hb hts in_GR t_GR t_GR_ok hown (hts _ wcl_CP_9) (hts _ winst_GR) (hts _ wini_GR) hK.1 hP hD hS hA rfl (fun j hj => by rcases (show j = 0 ∨ j = 1 ∨ j = 2 ∨ j = 3 ∨ j = 4 by omega) with rfl | rfl | rfl | rfl | rfl <;> rfl) h_c h_s d_CP_init_5 (fun q5 H hP hD hS => ?_)
  have hP : va_P (dC, dI) cls [(o, .inr (0, [.null, .null, .null, .null, .null, .null])), (q5, .inr (1, [.null, .null, .int (nI 0), .int (nI 0), .long 0]))] H := hP
  have hD : va_D A [(o, .inr (0, [.null, .null, .null, .null, .null, .null])), (q5, .inr (1, [.null, .null, .int (nI 0), .int (nI 0), .long 0]))] := hD
  refine W.widen (k := 1) (n := 5) (by omega) (by omega) ?_
  refine lv_dup hx hb d_CP_init_8 rfl ?_
  have h_c : 3 ≤ 29 := by decide
  have h_s : 87 ≤ 2588 := by decide
  refine x_cn (wr := [(o, .inr (0, [.null, .null, .null, .null, .null, .null]))]) (w1 := fun (u9 : Nat × Nat) => [(q5, .inr (1, [.ref u9.1, .ref u9.2, .int (nI 0), .int (nI 0), .long 0])), (u9.1, .inl (cI, 41, .inl (nF (fun _ => 0)))), (u9.2, .inl (cI, 41, .inl (nF (fun _ => 0))))]) (k_IN (rest := [.ref q5, .ref o]) ⟨hx, hb, hml, hown, hts⟩ (c_GR_init l dC dI cI cJ cZ q5 H.size) hK wmn_CP_11 wim_GR_init wini_GR wcode_GR_init rfl (by decide +kernel) ⟨(Nat.le_of_ble_eq_true rfl), (Nat.le_of_ble_eq_true rfl)⟩ (pre_C (hP.sub (ws' := [(q5, .inr (1, [.null, .null, .int (nI 0), .int (nI 0), .long 0]))]) [1] rfl) hK (hD.sub (ws' := [(q5, .inr (1, [.null, .null, .int (nI 0), .int (nI 0), .long 0]))]) [1] (by decide) rfl)) hl.1 rfl (Nat.le_of_ble_eq_true rfl) d_CP_init_9 ⟨h_c, h_s⟩) hP hD hS hA [1] [0] rfl rfl (by decide) (by decide) (fun u9 H locs _ hP hD hS => ?_)
  obtain ⟨q7_9, q15_9⟩ := u9
  have hP : va_P (dC, dI) cls [(o, .inr (0, [.null, .null, .null, .null, .null, .null])), (q5, .inr (1, [.ref q7_9, .ref q15_9, .int (nI 0), .int (nI 0), .long 0])), (q7_9, .inl (cI, 41, .inl (nF (fun _ => 0)))), (q15_9, .inl (cI, 41, .inl (nF (fun _ => 0))))] H := hP
  have hD : va_D A [(o, .inr (0, [.null, .null, .null, .null, .null, .null])), (q5, .inr (1, [.ref q7_9, .ref q15_9, .int (nI 0), .int (nI 0), .long 0])), (q7_9, .inl (cI, 41, .inl (nF (fun _ => 0)))), (q15_9, .inl (cI, 41, .inl (nF (fun _ => 0))))] := hD
  refine W.widen (k := 3) (n := 87) (by omega) (by omega) ?_
  refine va_putF (D := (dC, dI)) (ci := 0) (v := .ref q5) (ty := .object "CutPoints$Graph") (C := R_CP) (T := F_CP) (N := 6) hx hb hts in_CP t_CP t_CP_ok n_CP hown hK.1 hP hD hS 0 rfl rfl 0 (by decide) (hts _ wfl_CP_12) (fun _ h9 => h9) rfl hin rfl (by decide +kernel) rfl rfl (Nat.le_of_ble_eq_true rfl) d_CP_init_12 (fun H locs hP hD hS => ?_)
  have hP : va_P (dC, dI) cls [(o, .inr (0, [.ref q5, .null, .null, .null, .null, .null])), (q5, .inr (1, [.ref q7_9, .ref q15_9, .int (nI 0), .int (nI 0), .long 0])), (q7_9, .inl (cI, 41, .inl (nF (fun _ => 0)))), (q15_9, .inl (cI, 41, .inl (nF (fun _ => 0))))] H := hP
  have hD : va_D A [(o, .inr (0, [.ref q5, .null, .null, .null, .null, .null])), (q5, .inr (1, [.ref q7_9, .ref q15_9, .int (nI 0), .int (nI 0), .long 0])), (q7_9, .inl (cI, 41, .inl (nF (fun _ => 0)))), (q15_9, .inl (cI, 41, .inl (nF (fun _ => 0))))] := hD
  refine lv_aload_n hx hb d_CP_init_15 rfl (lv_at hl 0 rfl) ?_
  have h_c : 4 ≤ 29 := by decide
  have h_s : 94 ≤ 2588 := by decide
  refine va_new (ci := 2) (fs := [.null, .null, .null, .null, .null, .int (nI 0), .long 0]) (C := R_SK) (T := F_SK) (N := 7) hx hb hts in_SK t_SK t_SK_ok hown (hts _ wcl_CP_16) (hts _ winst_SK) (hts _ wini_SK) hK.1 hP hD hS hA rfl (fun j hj => by rcases (show j = 0 ∨ j = 1 ∨ j = 2 ∨ j = 3 ∨ j = 4 ∨ j = 5 ∨ j = 6 by omega) with rfl | rfl | rfl | rfl | rfl | rfl | rfl <;> rfl) h_c h_s d_CP_init_16 (fun q16 H hP hD hS => ?_)
  have hP : va_P (dC, dI) cls [(o, .inr (0, [.ref q5, .null, .null, .null, .null, .null])), (q5, .inr (1, [.ref q7_9, .ref q15_9, .int (nI 0), .int (nI 0), .long 0])), (q7_9, .inl (cI, 41, .inl (nF (fun _ => 0)))), (q15_9, .inl (cI, 41, .inl (nF (fun _ => 0)))), (q16, .inr (2, [.null, .null, .null, .null, .null, .int (nI 0), .long 0]))] H := hP
  have hD : va_D A [(o, .inr (0, [.ref q5, .null, .null, .null, .null, .null])), (q5, .inr (1, [.ref q7_9, .ref q15_9, .int (nI 0), .int (nI 0), .long 0])), (q7_9, .inl (cI, 41, .inl (nF (fun _ => 0)))), (q15_9, .inl (cI, 41, .inl (nF (fun _ => 0)))), (q16, .inr (2, [.null, .null, .null, .null, .null, .int (nI 0), .long 0]))] := hD
  refine W.widen (k := 4) (n := 94) (by omega) (by omega) ?_
  refine lv_dup hx hb d_CP_init_19 rfl ?_
  have h_c : 10 ≤ 29 := by decide
  have h_s : 193 ≤ 2588 := by decide
  refine x_cn (wr := [(o, .inr (0, [.ref q5, .null, .null, .null, .null, .null])), (q5, .inr (1, [.ref q7_9, .ref q15_9, .int (nI 0), .int (nI 0), .long 0])), (q7_9, .inl (cI, 41, .inl (nF (fun _ => 0)))), (q15_9, .inl (cI, 41, .inl (nF (fun _ => 0))))]) (w1 := fun (u9 : Nat × Nat × Nat × Nat × Nat × Nat) => [(q16, .inr (2, [.ref u9.1, .ref u9.2.1, .ref u9.2.2.1, .ref u9.2.2.2.1, .ref u9.2.2.2.2.1, .int (nI 0), .long 0])), (u9.1, .inl (cI, 14, .inl (fun _ => 0))), (u9.2.1, .inl (cI, 14, .inl (fun _ => 0))), (u9.2.2.1, .inl (cI, 14, .inl (fun _ => 0))), (u9.2.2.2.1, .inl (cJ, 14, .inr (.inl (fun _ => 0)))), (u9.2.2.2.2.1, .inr (3, [.ref u9.2.2.2.2.2, .int (nI 0)])), (u9.2.2.2.2.2, .inl (cJ, 41, .inr (.inl (fun _ => 0))))]) (k_IN (rest := [.ref q16, .ref o]) ⟨hx, hb, hml, hown, hts⟩ (c_SK_init l dC dI cI cJ cZ q16 H.size) hK wmn_CP_18 wim_SK_init wini_SK wcode_SK_init rfl (by decide +kernel) ⟨(Nat.le_of_ble_eq_true rfl), (Nat.le_of_ble_eq_true rfl)⟩ (pre_C (hP.sub (ws' := [(q16, .inr (2, [.null, .null, .null, .null, .null, .int (nI 0), .long 0]))]) [4] rfl) hK (hD.sub (ws' := [(q16, .inr (2, [.null, .null, .null, .null, .null, .int (nI 0), .long 0]))]) [4] (by decide) rfl)) hl.1 rfl (Nat.le_of_ble_eq_true rfl) d_CP_init_20 ⟨h_c, h_s⟩) hP hD hS hA [4] [0, 1, 2, 3] rfl rfl (by decide) (by decide) (fun u20 H locs _ hP hD hS => ?_)
  obtain ⟨q7_20, q15_20, q23_20, q31_20, q37_20, q7_41_20⟩ := u20
  have hP : va_P (dC, dI) cls [(o, .inr (0, [.ref q5, .null, .null, .null, .null, .null])), (q5, .inr (1, [.ref q7_9, .ref q15_9, .int (nI 0), .int (nI 0), .long 0])), (q7_9, .inl (cI, 41, .inl (nF (fun _ => 0)))), (q15_9, .inl (cI, 41, .inl (nF (fun _ => 0)))), (q16, .inr (2, [.ref q7_20, .ref q15_20, .ref q23_20, .ref q31_20, .ref q37_20, .int (nI 0), .long 0])), (q7_20, .inl (cI, 14, .inl (fun _ => 0))), (q15_20, .inl (cI, 14, .inl (fun _ => 0))), (q23_20, .inl (cI, 14, .inl (fun _ => 0))), (q31_20, .inl (cJ, 14, .inr (.inl (fun _ => 0)))), (q37_20, .inr (3, [.ref q7_41_20, .int (nI 0)])), (q7_41_20, .inl (cJ, 41, .inr (.inl (fun _ => 0))))] H := hP
  have hD : va_D A [(o, .inr (0, [.ref q5, .null, .null, .null, .null, .null])), (q5, .inr (1, [.ref q7_9, .ref q15_9, .int (nI 0), .int (nI 0), .long 0])), (q7_9, .inl (cI, 41, .inl (nF (fun _ => 0)))), (q15_9, .inl (cI, 41, .inl (nF (fun _ => 0)))), (q16, .inr (2, [.ref q7_20, .ref q15_20, .ref q23_20, .ref q31_20, .ref q37_20, .int (nI 0), .long 0])), (q7_20, .inl (cI, 14, .inl (fun _ => 0))), (q15_20, .inl (cI, 14, .inl (fun _ => 0))), (q23_20, .inl (cI, 14, .inl (fun _ => 0))), (q31_20, .inl (cJ, 14, .inr (.inl (fun _ => 0)))), (q37_20, .inr (3, [.ref q7_41_20, .int (nI 0)])), (q7_41_20, .inl (cJ, 41, .inr (.inl (fun _ => 0))))] := hD
  refine W.widen (k := 10) (n := 193) (by omega) (by omega) ?_
  refine va_putF (D := (dC, dI)) (ci := 0) (v := .ref q16) (ty := .object "CutPoints$Sketch") (C := R_CP) (T := F_CP) (N := 6) hx hb hts in_CP t_CP t_CP_ok n_CP hown hK.1 hP hD hS 0 rfl rfl 1 (by decide) (hts _ wfl_CP_19) (fun _ h9 => h9) rfl hin rfl (by decide +kernel) rfl rfl (Nat.le_of_ble_eq_true rfl) d_CP_init_23 (fun H locs hP hD hS => ?_)
  have hP : va_P (dC, dI) cls [(o, .inr (0, [.ref q5, .ref q16, .null, .null, .null, .null])), (q5, .inr (1, [.ref q7_9, .ref q15_9, .int (nI 0), .int (nI 0), .long 0])), (q7_9, .inl (cI, 41, .inl (nF (fun _ => 0)))), (q15_9, .inl (cI, 41, .inl (nF (fun _ => 0)))), (q16, .inr (2, [.ref q7_20, .ref q15_20, .ref q23_20, .ref q31_20, .ref q37_20, .int (nI 0), .long 0])), (q7_20, .inl (cI, 14, .inl (fun _ => 0))), (q15_20, .inl (cI, 14, .inl (fun _ => 0))), (q23_20, .inl (cI, 14, .inl (fun _ => 0))), (q31_20, .inl (cJ, 14, .inr (.inl (fun _ => 0)))), (q37_20, .inr (3, [.ref q7_41_20, .int (nI 0)])), (q7_41_20, .inl (cJ, 41, .inr (.inl (fun _ => 0))))] H := hP
  have hD : va_D A [(o, .inr (0, [.ref q5, .ref q16, .null, .null, .null, .null])), (q5, .inr (1, [.ref q7_9, .ref q15_9, .int (nI 0), .int (nI 0), .long 0])), (q7_9, .inl (cI, 41, .inl (nF (fun _ => 0)))), (q15_9, .inl (cI, 41, .inl (nF (fun _ => 0)))), (q16, .inr (2, [.ref q7_20, .ref q15_20, .ref q23_20, .ref q31_20, .ref q37_20, .int (nI 0), .long 0])), (q7_20, .inl (cI, 14, .inl (fun _ => 0))), (q15_20, .inl (cI, 14, .inl (fun _ => 0))), (q23_20, .inl (cI, 14, .inl (fun _ => 0))), (q31_20, .inl (cJ, 14, .inr (.inl (fun _ => 0)))), (q37_20, .inr (3, [.ref q7_41_20, .int (nI 0)])), (q7_41_20, .inl (cJ, 41, .inr (.inl (fun _ => 0))))] := hD
  refine lv_aload_n hx hb d_CP_init_26 rfl (lv_at hl 0 rfl) ?_
  have h_c : 11 ≤ 29 := by decide
  have h_s : 200 ≤ 2588 := by decide
  refine va_new (ci := 2) (fs := [.null, .null, .null, .null, .null, .int (nI 0), .long 0]) (C := R_SK) (T := F_SK) (N := 7) hx hb hts in_SK t_SK t_SK_ok hown (hts _ wcl_CP_16) (hts _ winst_SK) (hts _ wini_SK) hK.1 hP hD hS hA rfl (fun j hj => by rcases (show j = 0 ∨ j = 1 ∨ j = 2 ∨ j = 3 ∨ j = 4 ∨ j = 5 ∨ j = 6 by omega) with rfl | rfl | rfl | rfl | rfl | rfl | rfl <;> rfl) h_c h_s d_CP_init_27 (fun q27 H hP hD hS => ?_)
  have hP : va_P (dC, dI) cls [(o, .inr (0, [.ref q5, .ref q16, .null, .null, .null, .null])), (q5, .inr (1, [.ref q7_9, .ref q15_9, .int (nI 0), .int (nI 0), .long 0])), (q7_9, .inl (cI, 41, .inl (nF (fun _ => 0)))), (q15_9, .inl (cI, 41, .inl (nF (fun _ => 0)))), (q16, .inr (2, [.ref q7_20, .ref q15_20, .ref q23_20, .ref q31_20, .ref q37_20, .int (nI 0), .long 0])), (q7_20, .inl (cI, 14, .inl (fun _ => 0))), (q15_20, .inl (cI, 14, .inl (fun _ => 0))), (q23_20, .inl (cI, 14, .inl (fun _ => 0))), (q31_20, .inl (cJ, 14, .inr (.inl (fun _ => 0)))), (q37_20, .inr (3, [.ref q7_41_20, .int (nI 0)])), (q7_41_20, .inl (cJ, 41, .inr (.inl (fun _ => 0)))), (q27, .inr (2, [.null, .null, .null, .null, .null, .int (nI 0), .long 0]))] H := hP
  have hD : va_D A [(o, .inr (0, [.ref q5, .ref q16, .null, .null, .null, .null])), (q5, .inr (1, [.ref q7_9, .ref q15_9, .int (nI 0), .int (nI 0), .long 0])), (q7_9, .inl (cI, 41, .inl (nF (fun _ => 0)))), (q15_9, .inl (cI, 41, .inl (nF (fun _ => 0)))), (q16, .inr (2, [.ref q7_20, .ref q15_20, .ref q23_20, .ref q31_20, .ref q37_20, .int (nI 0), .long 0])), (q7_20, .inl (cI, 14, .inl (fun _ => 0))), (q15_20, .inl (cI, 14, .inl (fun _ => 0))), (q23_20, .inl (cI, 14, .inl (fun _ => 0))), (q31_20, .inl (cJ, 14, .inr (.inl (fun _ => 0)))), (q37_20, .inr (3, [.ref q7_41_20, .int (nI 0)])), (q7_41_20, .inl (cJ, 41, .inr (.inl (fun _ => 0)))), (q27, .inr (2, [.null, .null, .null, .null, .null, .int (nI 0), .long 0]))] := hD
  refine W.widen (k := 11) (n := 200) (by omega) (by omega) ?_
  refine lv_dup hx hb d_CP_init_30 rfl ?_
  have h_c : 17 ≤ 29 := by decide
  have h_s : 299 ≤ 2588 := by decide
  refine x_cn (wr := [(o, .inr (0, [.ref q5, .ref q16, .null, .null, .null, .null])), (q5, .inr (1, [.ref q7_9, .ref q15_9, .int (nI 0), .int (nI 0), .long 0])), (q7_9, .inl (cI, 41, .inl (nF (fun _ => 0)))), (q15_9, .inl (cI, 41, .inl (nF (fun _ => 0)))), (q16, .inr (2, [.ref q7_20, .ref q15_20, .ref q23_20, .ref q31_20, .ref q37_20, .int (nI 0), .long 0])), (q7_20, .inl (cI, 14, .inl (fun _ => 0))), (q15_20, .inl (cI, 14, .inl (fun _ => 0))), (q23_20, .inl (cI, 14, .inl (fun _ => 0))), (q31_20, .inl (cJ, 14, .inr (.inl (fun _ => 0)))), (q37_20, .inr (3, [.ref q7_41_20, .int (nI 0)])), (q7_41_20, .inl (cJ, 41, .inr (.inl (fun _ => 0))))]) (w1 := fun (u9 : Nat × Nat × Nat × Nat × Nat × Nat) => [(q27, .inr (2, [.ref u9.1, .ref u9.2.1, .ref u9.2.2.1, .ref u9.2.2.2.1, .ref u9.2.2.2.2.1, .int (nI 0), .long 0])), (u9.1, .inl (cI, 14, .inl (fun _ => 0))), (u9.2.1, .inl (cI, 14, .inl (fun _ => 0))), (u9.2.2.1, .inl (cI, 14, .inl (fun _ => 0))), (u9.2.2.2.1, .inl (cJ, 14, .inr (.inl (fun _ => 0)))), (u9.2.2.2.2.1, .inr (3, [.ref u9.2.2.2.2.2, .int (nI 0)])), (u9.2.2.2.2.2, .inl (cJ, 41, .inr (.inl (fun _ => 0))))]) (k_IN (rest := [.ref q27, .ref o]) ⟨hx, hb, hml, hown, hts⟩ (c_SK_init l dC dI cI cJ cZ q27 H.size) hK wmn_CP_18 wim_SK_init wini_SK wcode_SK_init rfl (by decide +kernel) ⟨(Nat.le_of_ble_eq_true rfl), (Nat.le_of_ble_eq_true rfl)⟩ (pre_C (hP.sub (ws' := [(q27, .inr (2, [.null, .null, .null, .null, .null, .int (nI 0), .long 0]))]) [11] rfl) hK (hD.sub (ws' := [(q27, .inr (2, [.null, .null, .null, .null, .null, .int (nI 0), .long 0]))]) [11] (by decide) rfl)) hl.1 rfl (Nat.le_of_ble_eq_true rfl) d_CP_init_31 ⟨h_c, h_s⟩) hP hD hS hA [11] [0, 1, 2, 3, 4, 5, 6, 7, 8, 9, 10] rfl rfl (by decide) (by decide) (fun u31 H locs _ hP hD hS => ?_)
  obtain ⟨q7_31, q15_31, q23_31, q31_31, q37_31, q7_41_31⟩ := u31
  have hP : va_P (dC, dI) cls [(o, .inr (0, [.ref q5, .ref q16, .null, .null, .null, .null])), (q5, .inr (1, [.ref q7_9, .ref q15_9, .int (nI 0), .int (nI 0), .long 0])), (q7_9, .inl (cI, 41, .inl (nF (fun _ => 0)))), (q15_9, .inl (cI, 41, .inl (nF (fun _ => 0)))), (q16, .inr (2, [.ref q7_20, .ref q15_20, .ref q23_20, .ref q31_20, .ref q37_20, .int (nI 0), .long 0])), (q7_20, .inl (cI, 14, .inl (fun _ => 0))), (q15_20, .inl (cI, 14, .inl (fun _ => 0))), (q23_20, .inl (cI, 14, .inl (fun _ => 0))), (q31_20, .inl (cJ, 14, .inr (.inl (fun _ => 0)))), (q37_20, .inr (3, [.ref q7_41_20, .int (nI 0)])), (q7_41_20, .inl (cJ, 41, .inr (.inl (fun _ => 0)))), (q27, .inr (2, [.ref q7_31, .ref q15_31, .ref q23_31, .ref q31_31, .ref q37_31, .int (nI 0), .long 0])), (q7_31, .inl (cI, 14, .inl (fun _ => 0))), (q15_31, .inl (cI, 14, .inl (fun _ => 0))), (q23_31, .inl (cI, 14, .inl (fun _ => 0))), (q31_31, .inl (cJ, 14, .inr (.inl (fun _ => 0)))), (q37_31, .inr (3, [.ref q7_41_31, .int (nI 0)])), (q7_41_31, .inl (cJ, 41, .inr (.inl (fun _ => 0))))] H := hP
  have hD : va_D A [(o, .inr (0, [.ref q5, .ref q16, .null, .null, .null, .null])), (q5, .inr (1, [.ref q7_9, .ref q15_9, .int (nI 0), .int (nI 0), .long 0])), (q7_9, .inl (cI, 41, .inl (nF (fun _ => 0)))), (q15_9, .inl (cI, 41, .inl (nF (fun _ => 0)))), (q16, .inr (2, [.ref q7_20, .ref q15_20, .ref q23_20, .ref q31_20, .ref q37_20, .int (nI 0), .long 0])), (q7_20, .inl (cI, 14, .inl (fun _ => 0))), (q15_20, .inl (cI, 14, .inl (fun _ => 0))), (q23_20, .inl (cI, 14, .inl (fun _ => 0))), (q31_20, .inl (cJ, 14, .inr (.inl (fun _ => 0)))), (q37_20, .inr (3, [.ref q7_41_20, .int (nI 0)])), (q7_41_20, .inl (cJ, 41, .inr (.inl (fun _ => 0)))), (q27, .inr (2, [.ref q7_31, .ref q15_31, .ref q23_31, .ref q31_31, .ref q37_31, .int (nI 0), .long 0])), (q7_31, .inl (cI, 14, .inl (fun _ => 0))), (q15_31, .inl (cI, 14, .inl (fun _ => 0))), (q23_31, .inl (cI, 14, .inl (fun _ => 0))), (q31_31, .inl (cJ, 14, .inr (.inl (fun _ => 0)))), (q37_31, .inr (3, [.ref q7_41_31, .int (nI 0)])), (q7_41_31, .inl (cJ, 41, .inr (.inl (fun _ => 0))))] := hD
  refine W.widen (k := 17) (n := 299) (by omega) (by omega) ?_
  refine va_putF (D := (dC, dI)) (ci := 0) (v := .ref q27) (ty := .object "CutPoints$Sketch") (C := R_CP) (T := F_CP) (N := 6) hx hb hts in_CP t_CP t_CP_ok n_CP hown hK.1 hP hD hS 0 rfl rfl 2 (by decide) (hts _ wfl_CP_23) (fun _ h9 => h9) rfl hin rfl (by decide +kernel) rfl rfl (Nat.le_of_ble_eq_true rfl) d_CP_init_34 (fun H locs hP hD hS => ?_)
  have hP : va_P (dC, dI) cls [(o, .inr (0, [.ref q5, .ref q16, .ref q27, .null, .null, .null])), (q5, .inr (1, [.ref q7_9, .ref q15_9, .int (nI 0), .int (nI 0), .long 0])), (q7_9, .inl (cI, 41, .inl (nF (fun _ => 0)))), (q15_9, .inl (cI, 41, .inl (nF (fun _ => 0)))), (q16, .inr (2, [.ref q7_20, .ref q15_20, .ref q23_20, .ref q31_20, .ref q37_20, .int (nI 0), .long 0])), (q7_20, .inl (cI, 14, .inl (fun _ => 0))), (q15_20, .inl (cI, 14, .inl (fun _ => 0))), (q23_20, .inl (cI, 14, .inl (fun _ => 0))), (q31_20, .inl (cJ, 14, .inr (.inl (fun _ => 0)))), (q37_20, .inr (3, [.ref q7_41_20, .int (nI 0)])), (q7_41_20, .inl (cJ, 41, .inr (.inl (fun _ => 0)))), (q27, .inr (2, [.ref q7_31, .ref q15_31, .ref q23_31, .ref q31_31, .ref q37_31, .int (nI 0), .long 0])), (q7_31, .inl (cI, 14, .inl (fun _ => 0))), (q15_31, .inl (cI, 14, .inl (fun _ => 0))), (q23_31, .inl (cI, 14, .inl (fun _ => 0))), (q31_31, .inl (cJ, 14, .inr (.inl (fun _ => 0)))), (q37_31, .inr (3, [.ref q7_41_31, .int (nI 0)])), (q7_41_31, .inl (cJ, 41, .inr (.inl (fun _ => 0))))] H := hP
  have hD : va_D A [(o, .inr (0, [.ref q5, .ref q16, .ref q27, .null, .null, .null])), (q5, .inr (1, [.ref q7_9, .ref q15_9, .int (nI 0), .int (nI 0), .long 0])), (q7_9, .inl (cI, 41, .inl (nF (fun _ => 0)))), (q15_9, .inl (cI, 41, .inl (nF (fun _ => 0)))), (q16, .inr (2, [.ref q7_20, .ref q15_20, .ref q23_20, .ref q31_20, .ref q37_20, .int (nI 0), .long 0])), (q7_20, .inl (cI, 14, .inl (fun _ => 0))), (q15_20, .inl (cI, 14, .inl (fun _ => 0))), (q23_20, .inl (cI, 14, .inl (fun _ => 0))), (q31_20, .inl (cJ, 14, .inr (.inl (fun _ => 0)))), (q37_20, .inr (3, [.ref q7_41_20, .int (nI 0)])), (q7_41_20, .inl (cJ, 41, .inr (.inl (fun _ => 0)))), (q27, .inr (2, [.ref q7_31, .ref q15_31, .ref q23_31, .ref q31_31, .ref q37_31, .int (nI 0), .long 0])), (q7_31, .inl (cI, 14, .inl (fun _ => 0))), (q15_31, .inl (cI, 14, .inl (fun _ => 0))), (q23_31, .inl (cI, 14, .inl (fun _ => 0))), (q31_31, .inl (cJ, 14, .inr (.inl (fun _ => 0)))), (q37_31, .inr (3, [.ref q7_41_31, .int (nI 0)])), (q7_41_31, .inl (cJ, 41, .inr (.inl (fun _ => 0))))] := hD
  refine lv_aload_n hx hb d_CP_init_37 rfl (lv_at hl 0 rfl) ?_
  have h_c : 18 ≤ 29 := by decide
  have h_s : 303 ≤ 2588 := by decide
  refine va_new (ci := 4) (fs := [.null, .null, .null, .int (nI 0)]) (C := R_FL) (T := F_FL) (N := 4) hx hb hts in_FL t_FL t_FL_ok hown (hts _ wcl_CP_26) (hts _ winst_FL) (hts _ wini_FL) hK.1 hP hD hS hA rfl (fun j hj => by rcases (show j = 0 ∨ j = 1 ∨ j = 2 ∨ j = 3 by omega) with rfl | rfl | rfl | rfl <;> rfl) h_c h_s d_CP_init_38 (fun q38 H hP hD hS => ?_)
  have hP : va_P (dC, dI) cls [(o, .inr (0, [.ref q5, .ref q16, .ref q27, .null, .null, .null])), (q5, .inr (1, [.ref q7_9, .ref q15_9, .int (nI 0), .int (nI 0), .long 0])), (q7_9, .inl (cI, 41, .inl (nF (fun _ => 0)))), (q15_9, .inl (cI, 41, .inl (nF (fun _ => 0)))), (q16, .inr (2, [.ref q7_20, .ref q15_20, .ref q23_20, .ref q31_20, .ref q37_20, .int (nI 0), .long 0])), (q7_20, .inl (cI, 14, .inl (fun _ => 0))), (q15_20, .inl (cI, 14, .inl (fun _ => 0))), (q23_20, .inl (cI, 14, .inl (fun _ => 0))), (q31_20, .inl (cJ, 14, .inr (.inl (fun _ => 0)))), (q37_20, .inr (3, [.ref q7_41_20, .int (nI 0)])), (q7_41_20, .inl (cJ, 41, .inr (.inl (fun _ => 0)))), (q27, .inr (2, [.ref q7_31, .ref q15_31, .ref q23_31, .ref q31_31, .ref q37_31, .int (nI 0), .long 0])), (q7_31, .inl (cI, 14, .inl (fun _ => 0))), (q15_31, .inl (cI, 14, .inl (fun _ => 0))), (q23_31, .inl (cI, 14, .inl (fun _ => 0))), (q31_31, .inl (cJ, 14, .inr (.inl (fun _ => 0)))), (q37_31, .inr (3, [.ref q7_41_31, .int (nI 0)])), (q7_41_31, .inl (cJ, 41, .inr (.inl (fun _ => 0)))), (q38, .inr (4, [.null, .null, .null, .int (nI 0)]))] H := hP
  have hD : va_D A [(o, .inr (0, [.ref q5, .ref q16, .ref q27, .null, .null, .null])), (q5, .inr (1, [.ref q7_9, .ref q15_9, .int (nI 0), .int (nI 0), .long 0])), (q7_9, .inl (cI, 41, .inl (nF (fun _ => 0)))), (q15_9, .inl (cI, 41, .inl (nF (fun _ => 0)))), (q16, .inr (2, [.ref q7_20, .ref q15_20, .ref q23_20, .ref q31_20, .ref q37_20, .int (nI 0), .long 0])), (q7_20, .inl (cI, 14, .inl (fun _ => 0))), (q15_20, .inl (cI, 14, .inl (fun _ => 0))), (q23_20, .inl (cI, 14, .inl (fun _ => 0))), (q31_20, .inl (cJ, 14, .inr (.inl (fun _ => 0)))), (q37_20, .inr (3, [.ref q7_41_20, .int (nI 0)])), (q7_41_20, .inl (cJ, 41, .inr (.inl (fun _ => 0)))), (q27, .inr (2, [.ref q7_31, .ref q15_31, .ref q23_31, .ref q31_31, .ref q37_31, .int (nI 0), .long 0])), (q7_31, .inl (cI, 14, .inl (fun _ => 0))), (q15_31, .inl (cI, 14, .inl (fun _ => 0))), (q23_31, .inl (cI, 14, .inl (fun _ => 0))), (q31_31, .inl (cJ, 14, .inr (.inl (fun _ => 0)))), (q37_31, .inr (3, [.ref q7_41_31, .int (nI 0)])), (q7_41_31, .inl (cJ, 41, .inr (.inl (fun _ => 0)))), (q38, .inr (4, [.null, .null, .null, .int (nI 0)]))] := hD
  refine W.widen (k := 18) (n := 303) (by omega) (by omega) ?_
  refine lv_dup hx hb d_CP_init_41 rfl ?_
  have h_c : 21 ≤ 29 := by decide
  have h_s : 1143 ≤ 2588 := by decide
  refine x_cn (wr := [(o, .inr (0, [.ref q5, .ref q16, .ref q27, .null, .null, .null])), (q5, .inr (1, [.ref q7_9, .ref q15_9, .int (nI 0), .int (nI 0), .long 0])), (q7_9, .inl (cI, 41, .inl (nF (fun _ => 0)))), (q15_9, .inl (cI, 41, .inl (nF (fun _ => 0)))), (q16, .inr (2, [.ref q7_20, .ref q15_20, .ref q23_20, .ref q31_20, .ref q37_20, .int (nI 0), .long 0])), (q7_20, .inl (cI, 14, .inl (fun _ => 0))), (q15_20, .inl (cI, 14, .inl (fun _ => 0))), (q23_20, .inl (cI, 14, .inl (fun _ => 0))), (q31_20, .inl (cJ, 14, .inr (.inl (fun _ => 0)))), (q37_20, .inr (3, [.ref q7_41_20, .int (nI 0)])), (q7_41_20, .inl (cJ, 41, .inr (.inl (fun _ => 0)))), (q27, .inr (2, [.ref q7_31, .ref q15_31, .ref q23_31, .ref q31_31, .ref q37_31, .int (nI 0), .long 0])), (q7_31, .inl (cI, 14, .inl (fun _ => 0))), (q15_31, .inl (cI, 14, .inl (fun _ => 0))), (q23_31, .inl (cI, 14, .inl (fun _ => 0))), (q31_31, .inl (cJ, 14, .inr (.inl (fun _ => 0)))), (q37_31, .inr (3, [.ref q7_41_31, .int (nI 0)])), (q7_41_31, .inl (cJ, 41, .inr (.inl (fun _ => 0))))]) (w1 := fun (u9 : Nat × Nat × Nat) => [(q38, .inr (4, [.ref u9.1, .ref u9.2.1, .ref u9.2.2, .int (nI 0)])), (u9.1, .inl (cI, 784, .inl (nF (fun _ => 0)))), (u9.2.1, .inl (cI, 28, .inl (fun _ => 0))), (u9.2.2, .inl (cI, 28, .inl (nF (fun _ => 0))))]) (k_IN (rest := [.ref q38, .ref o]) ⟨hx, hb, hml, hown, hts⟩ (c_FL_init l dC dI cI cJ cZ q38 H.size) hK wmn_CP_28 wim_FL_init wini_FL wcode_FL_init rfl (by decide +kernel) ⟨(Nat.le_of_ble_eq_true rfl), (Nat.le_of_ble_eq_true rfl)⟩ (pre_C (hP.sub (ws' := [(q38, .inr (4, [.null, .null, .null, .int (nI 0)]))]) [18] rfl) hK (hD.sub (ws' := [(q38, .inr (4, [.null, .null, .null, .int (nI 0)]))]) [18] (by decide) rfl)) hl.1 rfl (Nat.le_of_ble_eq_true rfl) d_CP_init_42 ⟨h_c, h_s⟩) hP hD hS hA [18] [0, 1, 2, 3, 4, 5, 6, 7, 8, 9, 10, 11, 12, 13, 14, 15, 16, 17] rfl rfl (by decide) (by decide) (fun u42 H locs _ hP hD hS => ?_)
  obtain ⟨q8_42, q16_42, q24_42⟩ := u42
  have hP : va_P (dC, dI) cls [(o, .inr (0, [.ref q5, .ref q16, .ref q27, .null, .null, .null])), (q5, .inr (1, [.ref q7_9, .ref q15_9, .int (nI 0), .int (nI 0), .long 0])), (q7_9, .inl (cI, 41, .inl (nF (fun _ => 0)))), (q15_9, .inl (cI, 41, .inl (nF (fun _ => 0)))), (q16, .inr (2, [.ref q7_20, .ref q15_20, .ref q23_20, .ref q31_20, .ref q37_20, .int (nI 0), .long 0])), (q7_20, .inl (cI, 14, .inl (fun _ => 0))), (q15_20, .inl (cI, 14, .inl (fun _ => 0))), (q23_20, .inl (cI, 14, .inl (fun _ => 0))), (q31_20, .inl (cJ, 14, .inr (.inl (fun _ => 0)))), (q37_20, .inr (3, [.ref q7_41_20, .int (nI 0)])), (q7_41_20, .inl (cJ, 41, .inr (.inl (fun _ => 0)))), (q27, .inr (2, [.ref q7_31, .ref q15_31, .ref q23_31, .ref q31_31, .ref q37_31, .int (nI 0), .long 0])), (q7_31, .inl (cI, 14, .inl (fun _ => 0))), (q15_31, .inl (cI, 14, .inl (fun _ => 0))), (q23_31, .inl (cI, 14, .inl (fun _ => 0))), (q31_31, .inl (cJ, 14, .inr (.inl (fun _ => 0)))), (q37_31, .inr (3, [.ref q7_41_31, .int (nI 0)])), (q7_41_31, .inl (cJ, 41, .inr (.inl (fun _ => 0)))), (q38, .inr (4, [.ref q8_42, .ref q16_42, .ref q24_42, .int (nI 0)])), (q8_42, .inl (cI, 784, .inl (nF (fun _ => 0)))), (q16_42, .inl (cI, 28, .inl (fun _ => 0))), (q24_42, .inl (cI, 28, .inl (nF (fun _ => 0))))] H := hP
  have hD : va_D A [(o, .inr (0, [.ref q5, .ref q16, .ref q27, .null, .null, .null])), (q5, .inr (1, [.ref q7_9, .ref q15_9, .int (nI 0), .int (nI 0), .long 0])), (q7_9, .inl (cI, 41, .inl (nF (fun _ => 0)))), (q15_9, .inl (cI, 41, .inl (nF (fun _ => 0)))), (q16, .inr (2, [.ref q7_20, .ref q15_20, .ref q23_20, .ref q31_20, .ref q37_20, .int (nI 0), .long 0])), (q7_20, .inl (cI, 14, .inl (fun _ => 0))), (q15_20, .inl (cI, 14, .inl (fun _ => 0))), (q23_20, .inl (cI, 14, .inl (fun _ => 0))), (q31_20, .inl (cJ, 14, .inr (.inl (fun _ => 0)))), (q37_20, .inr (3, [.ref q7_41_20, .int (nI 0)])), (q7_41_20, .inl (cJ, 41, .inr (.inl (fun _ => 0)))), (q27, .inr (2, [.ref q7_31, .ref q15_31, .ref q23_31, .ref q31_31, .ref q37_31, .int (nI 0), .long 0])), (q7_31, .inl (cI, 14, .inl (fun _ => 0))), (q15_31, .inl (cI, 14, .inl (fun _ => 0))), (q23_31, .inl (cI, 14, .inl (fun _ => 0))), (q31_31, .inl (cJ, 14, .inr (.inl (fun _ => 0)))), (q37_31, .inr (3, [.ref q7_41_31, .int (nI 0)])), (q7_41_31, .inl (cJ, 41, .inr (.inl (fun _ => 0)))), (q38, .inr (4, [.ref q8_42, .ref q16_42, .ref q24_42, .int (nI 0)])), (q8_42, .inl (cI, 784, .inl (nF (fun _ => 0)))), (q16_42, .inl (cI, 28, .inl (fun _ => 0))), (q24_42, .inl (cI, 28, .inl (nF (fun _ => 0))))] := hD
  refine W.widen (k := 21) (n := 1143) (by omega) (by omega) ?_
  refine va_putF (D := (dC, dI)) (ci := 0) (v := .ref q38) (ty := .object "CutPoints$Flow") (C := R_CP) (T := F_CP) (N := 6) hx hb hts in_CP t_CP t_CP_ok n_CP hown hK.1 hP hD hS 0 rfl rfl 3 (by decide) (hts _ wfl_CP_29) (fun _ h9 => h9) rfl hin rfl (by decide +kernel) rfl rfl (Nat.le_of_ble_eq_true rfl) d_CP_init_45 (fun H locs hP hD hS => ?_)
  have hP : va_P (dC, dI) cls [(o, .inr (0, [.ref q5, .ref q16, .ref q27, .ref q38, .null, .null])), (q5, .inr (1, [.ref q7_9, .ref q15_9, .int (nI 0), .int (nI 0), .long 0])), (q7_9, .inl (cI, 41, .inl (nF (fun _ => 0)))), (q15_9, .inl (cI, 41, .inl (nF (fun _ => 0)))), (q16, .inr (2, [.ref q7_20, .ref q15_20, .ref q23_20, .ref q31_20, .ref q37_20, .int (nI 0), .long 0])), (q7_20, .inl (cI, 14, .inl (fun _ => 0))), (q15_20, .inl (cI, 14, .inl (fun _ => 0))), (q23_20, .inl (cI, 14, .inl (fun _ => 0))), (q31_20, .inl (cJ, 14, .inr (.inl (fun _ => 0)))), (q37_20, .inr (3, [.ref q7_41_20, .int (nI 0)])), (q7_41_20, .inl (cJ, 41, .inr (.inl (fun _ => 0)))), (q27, .inr (2, [.ref q7_31, .ref q15_31, .ref q23_31, .ref q31_31, .ref q37_31, .int (nI 0), .long 0])), (q7_31, .inl (cI, 14, .inl (fun _ => 0))), (q15_31, .inl (cI, 14, .inl (fun _ => 0))), (q23_31, .inl (cI, 14, .inl (fun _ => 0))), (q31_31, .inl (cJ, 14, .inr (.inl (fun _ => 0)))), (q37_31, .inr (3, [.ref q7_41_31, .int (nI 0)])), (q7_41_31, .inl (cJ, 41, .inr (.inl (fun _ => 0)))), (q38, .inr (4, [.ref q8_42, .ref q16_42, .ref q24_42, .int (nI 0)])), (q8_42, .inl (cI, 784, .inl (nF (fun _ => 0)))), (q16_42, .inl (cI, 28, .inl (fun _ => 0))), (q24_42, .inl (cI, 28, .inl (nF (fun _ => 0))))] H := hP
  have hD : va_D A [(o, .inr (0, [.ref q5, .ref q16, .ref q27, .ref q38, .null, .null])), (q5, .inr (1, [.ref q7_9, .ref q15_9, .int (nI 0), .int (nI 0), .long 0])), (q7_9, .inl (cI, 41, .inl (nF (fun _ => 0)))), (q15_9, .inl (cI, 41, .inl (nF (fun _ => 0)))), (q16, .inr (2, [.ref q7_20, .ref q15_20, .ref q23_20, .ref q31_20, .ref q37_20, .int (nI 0), .long 0])), (q7_20, .inl (cI, 14, .inl (fun _ => 0))), (q15_20, .inl (cI, 14, .inl (fun _ => 0))), (q23_20, .inl (cI, 14, .inl (fun _ => 0))), (q31_20, .inl (cJ, 14, .inr (.inl (fun _ => 0)))), (q37_20, .inr (3, [.ref q7_41_20, .int (nI 0)])), (q7_41_20, .inl (cJ, 41, .inr (.inl (fun _ => 0)))), (q27, .inr (2, [.ref q7_31, .ref q15_31, .ref q23_31, .ref q31_31, .ref q37_31, .int (nI 0), .long 0])), (q7_31, .inl (cI, 14, .inl (fun _ => 0))), (q15_31, .inl (cI, 14, .inl (fun _ => 0))), (q23_31, .inl (cI, 14, .inl (fun _ => 0))), (q31_31, .inl (cJ, 14, .inr (.inl (fun _ => 0)))), (q37_31, .inr (3, [.ref q7_41_31, .int (nI 0)])), (q7_41_31, .inl (cJ, 41, .inr (.inl (fun _ => 0)))), (q38, .inr (4, [.ref q8_42, .ref q16_42, .ref q24_42, .int (nI 0)])), (q8_42, .inl (cI, 784, .inl (nF (fun _ => 0)))), (q16_42, .inl (cI, 28, .inl (fun _ => 0))), (q24_42, .inl (cI, 28, .inl (nF (fun _ => 0))))] := hD
  refine lv_aload_n hx hb d_CP_init_48 rfl (lv_at hl 0 rfl) ?_
  have h_c : 22 ≤ 29 := by decide
  have h_s : 1144 ≤ 2588 := by decide
  refine va_new (ci := 5) (fs := [.null]) (C := R_CO) (T := F_CO) (N := 1) hx hb hts in_CO t_CO t_CO_ok hown (hts _ wcl_CP_33) (hts _ winst_CO) (hts _ wini_CO) hK.1 hP hD hS hA rfl (fun j hj => by rcases (show j = 0 by omega) with rfl <;> rfl) h_c h_s d_CP_init_49 (fun q49 H hP hD hS => ?_)
  have hP : va_P (dC, dI) cls [(o, .inr (0, [.ref q5, .ref q16, .ref q27, .ref q38, .null, .null])), (q5, .inr (1, [.ref q7_9, .ref q15_9, .int (nI 0), .int (nI 0), .long 0])), (q7_9, .inl (cI, 41, .inl (nF (fun _ => 0)))), (q15_9, .inl (cI, 41, .inl (nF (fun _ => 0)))), (q16, .inr (2, [.ref q7_20, .ref q15_20, .ref q23_20, .ref q31_20, .ref q37_20, .int (nI 0), .long 0])), (q7_20, .inl (cI, 14, .inl (fun _ => 0))), (q15_20, .inl (cI, 14, .inl (fun _ => 0))), (q23_20, .inl (cI, 14, .inl (fun _ => 0))), (q31_20, .inl (cJ, 14, .inr (.inl (fun _ => 0)))), (q37_20, .inr (3, [.ref q7_41_20, .int (nI 0)])), (q7_41_20, .inl (cJ, 41, .inr (.inl (fun _ => 0)))), (q27, .inr (2, [.ref q7_31, .ref q15_31, .ref q23_31, .ref q31_31, .ref q37_31, .int (nI 0), .long 0])), (q7_31, .inl (cI, 14, .inl (fun _ => 0))), (q15_31, .inl (cI, 14, .inl (fun _ => 0))), (q23_31, .inl (cI, 14, .inl (fun _ => 0))), (q31_31, .inl (cJ, 14, .inr (.inl (fun _ => 0)))), (q37_31, .inr (3, [.ref q7_41_31, .int (nI 0)])), (q7_41_31, .inl (cJ, 41, .inr (.inl (fun _ => 0)))), (q38, .inr (4, [.ref q8_42, .ref q16_42, .ref q24_42, .int (nI 0)])), (q8_42, .inl (cI, 784, .inl (nF (fun _ => 0)))), (q16_42, .inl (cI, 28, .inl (fun _ => 0))), (q24_42, .inl (cI, 28, .inl (nF (fun _ => 0)))), (q49, .inr (5, [.null]))] H := hP
  have hD : va_D A [(o, .inr (0, [.ref q5, .ref q16, .ref q27, .ref q38, .null, .null])), (q5, .inr (1, [.ref q7_9, .ref q15_9, .int (nI 0), .int (nI 0), .long 0])), (q7_9, .inl (cI, 41, .inl (nF (fun _ => 0)))), (q15_9, .inl (cI, 41, .inl (nF (fun _ => 0)))), (q16, .inr (2, [.ref q7_20, .ref q15_20, .ref q23_20, .ref q31_20, .ref q37_20, .int (nI 0), .long 0])), (q7_20, .inl (cI, 14, .inl (fun _ => 0))), (q15_20, .inl (cI, 14, .inl (fun _ => 0))), (q23_20, .inl (cI, 14, .inl (fun _ => 0))), (q31_20, .inl (cJ, 14, .inr (.inl (fun _ => 0)))), (q37_20, .inr (3, [.ref q7_41_20, .int (nI 0)])), (q7_41_20, .inl (cJ, 41, .inr (.inl (fun _ => 0)))), (q27, .inr (2, [.ref q7_31, .ref q15_31, .ref q23_31, .ref q31_31, .ref q37_31, .int (nI 0), .long 0])), (q7_31, .inl (cI, 14, .inl (fun _ => 0))), (q15_31, .inl (cI, 14, .inl (fun _ => 0))), (q23_31, .inl (cI, 14, .inl (fun _ => 0))), (q31_31, .inl (cJ, 14, .inr (.inl (fun _ => 0)))), (q37_31, .inr (3, [.ref q7_41_31, .int (nI 0)])), (q7_41_31, .inl (cJ, 41, .inr (.inl (fun _ => 0)))), (q38, .inr (4, [.ref q8_42, .ref q16_42, .ref q24_42, .int (nI 0)])), (q8_42, .inl (cI, 784, .inl (nF (fun _ => 0)))), (q16_42, .inl (cI, 28, .inl (fun _ => 0))), (q24_42, .inl (cI, 28, .inl (nF (fun _ => 0)))), (q49, .inr (5, [.null]))] := hD
  refine W.widen (k := 22) (n := 1144) (by omega) (by omega) ?_
  refine lv_dup hx hb d_CP_init_52 rfl ?_
  have h_c : 23 ≤ 29 := by decide
  have h_s : 1158 ≤ 2588 := by decide
  refine x_cn (wr := [(o, .inr (0, [.ref q5, .ref q16, .ref q27, .ref q38, .null, .null])), (q5, .inr (1, [.ref q7_9, .ref q15_9, .int (nI 0), .int (nI 0), .long 0])), (q7_9, .inl (cI, 41, .inl (nF (fun _ => 0)))), (q15_9, .inl (cI, 41, .inl (nF (fun _ => 0)))), (q16, .inr (2, [.ref q7_20, .ref q15_20, .ref q23_20, .ref q31_20, .ref q37_20, .int (nI 0), .long 0])), (q7_20, .inl (cI, 14, .inl (fun _ => 0))), (q15_20, .inl (cI, 14, .inl (fun _ => 0))), (q23_20, .inl (cI, 14, .inl (fun _ => 0))), (q31_20, .inl (cJ, 14, .inr (.inl (fun _ => 0)))), (q37_20, .inr (3, [.ref q7_41_20, .int (nI 0)])), (q7_41_20, .inl (cJ, 41, .inr (.inl (fun _ => 0)))), (q27, .inr (2, [.ref q7_31, .ref q15_31, .ref q23_31, .ref q31_31, .ref q37_31, .int (nI 0), .long 0])), (q7_31, .inl (cI, 14, .inl (fun _ => 0))), (q15_31, .inl (cI, 14, .inl (fun _ => 0))), (q23_31, .inl (cI, 14, .inl (fun _ => 0))), (q31_31, .inl (cJ, 14, .inr (.inl (fun _ => 0)))), (q37_31, .inr (3, [.ref q7_41_31, .int (nI 0)])), (q7_41_31, .inl (cJ, 41, .inr (.inl (fun _ => 0)))), (q38, .inr (4, [.ref q8_42, .ref q16_42, .ref q24_42, .int (nI 0)])), (q8_42, .inl (cI, 784, .inl (nF (fun _ => 0)))), (q16_42, .inl (cI, 28, .inl (fun _ => 0))), (q24_42, .inl (cI, 28, .inl (nF (fun _ => 0))))]) (w1 := fun (u9 : Nat) => [(q49, .inr (5, [.ref u9])), (u9, .inl (cI, 14, .inl (fun _ => 0)))]) (k_IN (rest := [.ref q49, .ref o]) ⟨hx, hb, hml, hown, hts⟩ (c_CO_init l dC dI cI cJ cZ q49 H.size) hK wmn_CP_35 wim_CO_init wini_CO wcode_CO_init rfl (by decide +kernel) ⟨(Nat.le_of_ble_eq_true rfl), (Nat.le_of_ble_eq_true rfl)⟩ (pre_C (hP.sub (ws' := [(q49, .inr (5, [.null]))]) [22] rfl) hK (hD.sub (ws' := [(q49, .inr (5, [.null]))]) [22] (by decide) rfl)) hl.1 rfl (Nat.le_of_ble_eq_true rfl) d_CP_init_53 ⟨h_c, h_s⟩) hP hD hS hA [22] [0, 1, 2, 3, 4, 5, 6, 7, 8, 9, 10, 11, 12, 13, 14, 15, 16, 17, 18, 19, 20, 21] rfl rfl (by decide) (by decide) (fun u53 H locs _ hP hD hS => ?_)
  obtain ⟨q7_53, rfl⟩ : ∃ z, z = u53 := ⟨_, rfl⟩
  have hP : va_P (dC, dI) cls [(o, .inr (0, [.ref q5, .ref q16, .ref q27, .ref q38, .null, .null])), (q5, .inr (1, [.ref q7_9, .ref q15_9, .int (nI 0), .int (nI 0), .long 0])), (q7_9, .inl (cI, 41, .inl (nF (fun _ => 0)))), (q15_9, .inl (cI, 41, .inl (nF (fun _ => 0)))), (q16, .inr (2, [.ref q7_20, .ref q15_20, .ref q23_20, .ref q31_20, .ref q37_20, .int (nI 0), .long 0])), (q7_20, .inl (cI, 14, .inl (fun _ => 0))), (q15_20, .inl (cI, 14, .inl (fun _ => 0))), (q23_20, .inl (cI, 14, .inl (fun _ => 0))), (q31_20, .inl (cJ, 14, .inr (.inl (fun _ => 0)))), (q37_20, .inr (3, [.ref q7_41_20, .int (nI 0)])), (q7_41_20, .inl (cJ, 41, .inr (.inl (fun _ => 0)))), (q27, .inr (2, [.ref q7_31, .ref q15_31, .ref q23_31, .ref q31_31, .ref q37_31, .int (nI 0), .long 0])), (q7_31, .inl (cI, 14, .inl (fun _ => 0))), (q15_31, .inl (cI, 14, .inl (fun _ => 0))), (q23_31, .inl (cI, 14, .inl (fun _ => 0))), (q31_31, .inl (cJ, 14, .inr (.inl (fun _ => 0)))), (q37_31, .inr (3, [.ref q7_41_31, .int (nI 0)])), (q7_41_31, .inl (cJ, 41, .inr (.inl (fun _ => 0)))), (q38, .inr (4, [.ref q8_42, .ref q16_42, .ref q24_42, .int (nI 0)])), (q8_42, .inl (cI, 784, .inl (nF (fun _ => 0)))), (q16_42, .inl (cI, 28, .inl (fun _ => 0))), (q24_42, .inl (cI, 28, .inl (nF (fun _ => 0)))), (q49, .inr (5, [.ref q7_53])), (q7_53, .inl (cI, 14, .inl (fun _ => 0)))] H := hP
  have hD : va_D A [(o, .inr (0, [.ref q5, .ref q16, .ref q27, .ref q38, .null, .null])), (q5, .inr (1, [.ref q7_9, .ref q15_9, .int (nI 0), .int (nI 0), .long 0])), (q7_9, .inl (cI, 41, .inl (nF (fun _ => 0)))), (q15_9, .inl (cI, 41, .inl (nF (fun _ => 0)))), (q16, .inr (2, [.ref q7_20, .ref q15_20, .ref q23_20, .ref q31_20, .ref q37_20, .int (nI 0), .long 0])), (q7_20, .inl (cI, 14, .inl (fun _ => 0))), (q15_20, .inl (cI, 14, .inl (fun _ => 0))), (q23_20, .inl (cI, 14, .inl (fun _ => 0))), (q31_20, .inl (cJ, 14, .inr (.inl (fun _ => 0)))), (q37_20, .inr (3, [.ref q7_41_20, .int (nI 0)])), (q7_41_20, .inl (cJ, 41, .inr (.inl (fun _ => 0)))), (q27, .inr (2, [.ref q7_31, .ref q15_31, .ref q23_31, .ref q31_31, .ref q37_31, .int (nI 0), .long 0])), (q7_31, .inl (cI, 14, .inl (fun _ => 0))), (q15_31, .inl (cI, 14, .inl (fun _ => 0))), (q23_31, .inl (cI, 14, .inl (fun _ => 0))), (q31_31, .inl (cJ, 14, .inr (.inl (fun _ => 0)))), (q37_31, .inr (3, [.ref q7_41_31, .int (nI 0)])), (q7_41_31, .inl (cJ, 41, .inr (.inl (fun _ => 0)))), (q38, .inr (4, [.ref q8_42, .ref q16_42, .ref q24_42, .int (nI 0)])), (q8_42, .inl (cI, 784, .inl (nF (fun _ => 0)))), (q16_42, .inl (cI, 28, .inl (fun _ => 0))), (q24_42, .inl (cI, 28, .inl (nF (fun _ => 0)))), (q49, .inr (5, [.ref q7_53])), (q7_53, .inl (cI, 14, .inl (fun _ => 0)))] := hD
  refine W.widen (k := 23) (n := 1158) (by omega) (by omega) ?_
  refine va_putF (D := (dC, dI)) (ci := 0) (v := .ref q49) (ty := .object "CutPoints$Compass") (C := R_CP) (T := F_CP) (N := 6) hx hb hts in_CP t_CP t_CP_ok n_CP hown hK.1 hP hD hS 0 rfl rfl 4 (by decide) (hts _ wfl_CP_36) (fun _ h9 => h9) rfl hin rfl (by decide +kernel) rfl rfl (Nat.le_of_ble_eq_true rfl) d_CP_init_56 (fun H locs hP hD hS => ?_)
  have hP : va_P (dC, dI) cls [(o, .inr (0, [.ref q5, .ref q16, .ref q27, .ref q38, .ref q49, .null])), (q5, .inr (1, [.ref q7_9, .ref q15_9, .int (nI 0), .int (nI 0), .long 0])), (q7_9, .inl (cI, 41, .inl (nF (fun _ => 0)))), (q15_9, .inl (cI, 41, .inl (nF (fun _ => 0)))), (q16, .inr (2, [.ref q7_20, .ref q15_20, .ref q23_20, .ref q31_20, .ref q37_20, .int (nI 0), .long 0])), (q7_20, .inl (cI, 14, .inl (fun _ => 0))), (q15_20, .inl (cI, 14, .inl (fun _ => 0))), (q23_20, .inl (cI, 14, .inl (fun _ => 0))), (q31_20, .inl (cJ, 14, .inr (.inl (fun _ => 0)))), (q37_20, .inr (3, [.ref q7_41_20, .int (nI 0)])), (q7_41_20, .inl (cJ, 41, .inr (.inl (fun _ => 0)))), (q27, .inr (2, [.ref q7_31, .ref q15_31, .ref q23_31, .ref q31_31, .ref q37_31, .int (nI 0), .long 0])), (q7_31, .inl (cI, 14, .inl (fun _ => 0))), (q15_31, .inl (cI, 14, .inl (fun _ => 0))), (q23_31, .inl (cI, 14, .inl (fun _ => 0))), (q31_31, .inl (cJ, 14, .inr (.inl (fun _ => 0)))), (q37_31, .inr (3, [.ref q7_41_31, .int (nI 0)])), (q7_41_31, .inl (cJ, 41, .inr (.inl (fun _ => 0)))), (q38, .inr (4, [.ref q8_42, .ref q16_42, .ref q24_42, .int (nI 0)])), (q8_42, .inl (cI, 784, .inl (nF (fun _ => 0)))), (q16_42, .inl (cI, 28, .inl (fun _ => 0))), (q24_42, .inl (cI, 28, .inl (nF (fun _ => 0)))), (q49, .inr (5, [.ref q7_53])), (q7_53, .inl (cI, 14, .inl (fun _ => 0)))] H := hP
  have hD : va_D A [(o, .inr (0, [.ref q5, .ref q16, .ref q27, .ref q38, .ref q49, .null])), (q5, .inr (1, [.ref q7_9, .ref q15_9, .int (nI 0), .int (nI 0), .long 0])), (q7_9, .inl (cI, 41, .inl (nF (fun _ => 0)))), (q15_9, .inl (cI, 41, .inl (nF (fun _ => 0)))), (q16, .inr (2, [.ref q7_20, .ref q15_20, .ref q23_20, .ref q31_20, .ref q37_20, .int (nI 0), .long 0])), (q7_20, .inl (cI, 14, .inl (fun _ => 0))), (q15_20, .inl (cI, 14, .inl (fun _ => 0))), (q23_20, .inl (cI, 14, .inl (fun _ => 0))), (q31_20, .inl (cJ, 14, .inr (.inl (fun _ => 0)))), (q37_20, .inr (3, [.ref q7_41_20, .int (nI 0)])), (q7_41_20, .inl (cJ, 41, .inr (.inl (fun _ => 0)))), (q27, .inr (2, [.ref q7_31, .ref q15_31, .ref q23_31, .ref q31_31, .ref q37_31, .int (nI 0), .long 0])), (q7_31, .inl (cI, 14, .inl (fun _ => 0))), (q15_31, .inl (cI, 14, .inl (fun _ => 0))), (q23_31, .inl (cI, 14, .inl (fun _ => 0))), (q31_31, .inl (cJ, 14, .inr (.inl (fun _ => 0)))), (q37_31, .inr (3, [.ref q7_41_31, .int (nI 0)])), (q7_41_31, .inl (cJ, 41, .inr (.inl (fun _ => 0)))), (q38, .inr (4, [.ref q8_42, .ref q16_42, .ref q24_42, .int (nI 0)])), (q8_42, .inl (cI, 784, .inl (nF (fun _ => 0)))), (q16_42, .inl (cI, 28, .inl (fun _ => 0))), (q24_42, .inl (cI, 28, .inl (nF (fun _ => 0)))), (q49, .inr (5, [.ref q7_53])), (q7_53, .inl (cI, 14, .inl (fun _ => 0)))] := hD
  refine lv_aload_n hx hb d_CP_init_59 rfl (lv_at hl 0 rfl) ?_
  have h_c : 24 ≤ 29 := by decide
  have h_s : 1165 ≤ 2588 := by decide
  refine va_new (ci := 6) (fs := [.null, .null, .null, .int (nI 0), .null, .int (nI 0), .long 0]) (C := R_SP) (T := F_SP) (N := 7) hx hb hts in_SP t_SP t_SP_ok hown (hts _ wcl_CP_40) (hts _ winst_SP) (hts _ wini_SP) hK.1 hP hD hS hA rfl (fun j hj => by rcases (show j = 0 ∨ j = 1 ∨ j = 2 ∨ j = 3 ∨ j = 4 ∨ j = 5 ∨ j = 6 by omega) with rfl | rfl | rfl | rfl | rfl | rfl | rfl <;> rfl) h_c h_s d_CP_init_60 (fun q60 H hP hD hS => ?_)
  have hP : va_P (dC, dI) cls [(o, .inr (0, [.ref q5, .ref q16, .ref q27, .ref q38, .ref q49, .null])), (q5, .inr (1, [.ref q7_9, .ref q15_9, .int (nI 0), .int (nI 0), .long 0])), (q7_9, .inl (cI, 41, .inl (nF (fun _ => 0)))), (q15_9, .inl (cI, 41, .inl (nF (fun _ => 0)))), (q16, .inr (2, [.ref q7_20, .ref q15_20, .ref q23_20, .ref q31_20, .ref q37_20, .int (nI 0), .long 0])), (q7_20, .inl (cI, 14, .inl (fun _ => 0))), (q15_20, .inl (cI, 14, .inl (fun _ => 0))), (q23_20, .inl (cI, 14, .inl (fun _ => 0))), (q31_20, .inl (cJ, 14, .inr (.inl (fun _ => 0)))), (q37_20, .inr (3, [.ref q7_41_20, .int (nI 0)])), (q7_41_20, .inl (cJ, 41, .inr (.inl (fun _ => 0)))), (q27, .inr (2, [.ref q7_31, .ref q15_31, .ref q23_31, .ref q31_31, .ref q37_31, .int (nI 0), .long 0])), (q7_31, .inl (cI, 14, .inl (fun _ => 0))), (q15_31, .inl (cI, 14, .inl (fun _ => 0))), (q23_31, .inl (cI, 14, .inl (fun _ => 0))), (q31_31, .inl (cJ, 14, .inr (.inl (fun _ => 0)))), (q37_31, .inr (3, [.ref q7_41_31, .int (nI 0)])), (q7_41_31, .inl (cJ, 41, .inr (.inl (fun _ => 0)))), (q38, .inr (4, [.ref q8_42, .ref q16_42, .ref q24_42, .int (nI 0)])), (q8_42, .inl (cI, 784, .inl (nF (fun _ => 0)))), (q16_42, .inl (cI, 28, .inl (fun _ => 0))), (q24_42, .inl (cI, 28, .inl (nF (fun _ => 0)))), (q49, .inr (5, [.ref q7_53])), (q7_53, .inl (cI, 14, .inl (fun _ => 0))), (q60, .inr (6, [.null, .null, .null, .int (nI 0), .null, .int (nI 0), .long 0]))] H := hP
  have hD : va_D A [(o, .inr (0, [.ref q5, .ref q16, .ref q27, .ref q38, .ref q49, .null])), (q5, .inr (1, [.ref q7_9, .ref q15_9, .int (nI 0), .int (nI 0), .long 0])), (q7_9, .inl (cI, 41, .inl (nF (fun _ => 0)))), (q15_9, .inl (cI, 41, .inl (nF (fun _ => 0)))), (q16, .inr (2, [.ref q7_20, .ref q15_20, .ref q23_20, .ref q31_20, .ref q37_20, .int (nI 0), .long 0])), (q7_20, .inl (cI, 14, .inl (fun _ => 0))), (q15_20, .inl (cI, 14, .inl (fun _ => 0))), (q23_20, .inl (cI, 14, .inl (fun _ => 0))), (q31_20, .inl (cJ, 14, .inr (.inl (fun _ => 0)))), (q37_20, .inr (3, [.ref q7_41_20, .int (nI 0)])), (q7_41_20, .inl (cJ, 41, .inr (.inl (fun _ => 0)))), (q27, .inr (2, [.ref q7_31, .ref q15_31, .ref q23_31, .ref q31_31, .ref q37_31, .int (nI 0), .long 0])), (q7_31, .inl (cI, 14, .inl (fun _ => 0))), (q15_31, .inl (cI, 14, .inl (fun _ => 0))), (q23_31, .inl (cI, 14, .inl (fun _ => 0))), (q31_31, .inl (cJ, 14, .inr (.inl (fun _ => 0)))), (q37_31, .inr (3, [.ref q7_41_31, .int (nI 0)])), (q7_41_31, .inl (cJ, 41, .inr (.inl (fun _ => 0)))), (q38, .inr (4, [.ref q8_42, .ref q16_42, .ref q24_42, .int (nI 0)])), (q8_42, .inl (cI, 784, .inl (nF (fun _ => 0)))), (q16_42, .inl (cI, 28, .inl (fun _ => 0))), (q24_42, .inl (cI, 28, .inl (nF (fun _ => 0)))), (q49, .inr (5, [.ref q7_53])), (q7_53, .inl (cI, 14, .inl (fun _ => 0))), (q60, .inr (6, [.null, .null, .null, .int (nI 0), .null, .int (nI 0), .long 0]))] := hD
  refine W.widen (k := 24) (n := 1165) (by omega) (by omega) ?_
  refine lv_dup hx hb d_CP_init_63 rfl ?_
  have h_c : 29 ≤ 29 := by decide
  have h_s : 2588 ≤ 2588 := by decide
  refine x_cn (wr := [(o, .inr (0, [.ref q5, .ref q16, .ref q27, .ref q38, .ref q49, .null])), (q5, .inr (1, [.ref q7_9, .ref q15_9, .int (nI 0), .int (nI 0), .long 0])), (q7_9, .inl (cI, 41, .inl (nF (fun _ => 0)))), (q15_9, .inl (cI, 41, .inl (nF (fun _ => 0)))), (q16, .inr (2, [.ref q7_20, .ref q15_20, .ref q23_20, .ref q31_20, .ref q37_20, .int (nI 0), .long 0])), (q7_20, .inl (cI, 14, .inl (fun _ => 0))), (q15_20, .inl (cI, 14, .inl (fun _ => 0))), (q23_20, .inl (cI, 14, .inl (fun _ => 0))), (q31_20, .inl (cJ, 14, .inr (.inl (fun _ => 0)))), (q37_20, .inr (3, [.ref q7_41_20, .int (nI 0)])), (q7_41_20, .inl (cJ, 41, .inr (.inl (fun _ => 0)))), (q27, .inr (2, [.ref q7_31, .ref q15_31, .ref q23_31, .ref q31_31, .ref q37_31, .int (nI 0), .long 0])), (q7_31, .inl (cI, 14, .inl (fun _ => 0))), (q15_31, .inl (cI, 14, .inl (fun _ => 0))), (q23_31, .inl (cI, 14, .inl (fun _ => 0))), (q31_31, .inl (cJ, 14, .inr (.inl (fun _ => 0)))), (q37_31, .inr (3, [.ref q7_41_31, .int (nI 0)])), (q7_41_31, .inl (cJ, 41, .inr (.inl (fun _ => 0)))), (q38, .inr (4, [.ref q8_42, .ref q16_42, .ref q24_42, .int (nI 0)])), (q8_42, .inl (cI, 784, .inl (nF (fun _ => 0)))), (q16_42, .inl (cI, 28, .inl (fun _ => 0))), (q24_42, .inl (cI, 28, .inl (nF (fun _ => 0)))), (q49, .inr (5, [.ref q7_53])), (q7_53, .inl (cI, 14, .inl (fun _ => 0)))]) (w1 := fun (u9 : Nat × Nat × Nat × Nat × Nat) => [(q60, .inr (6, [.ref u9.1, .ref u9.2.2.1, .ref u9.2.2.2.1, .int (nI 0), .ref u9.2.2.2.2, .int (nI 0), .long 0])), (u9.1, .inr (3, [.ref u9.2.1, .int (nI 0)])), (u9.2.1, .inl (cJ, 41, .inr (.inl (fun _ => 0)))), (u9.2.2.1, .inl (cJ, 1274, .inr (.inl (fun _ => 0)))), (u9.2.2.2.1, .inl (cI, 92, .inl (nF (fun _ => 0)))), (u9.2.2.2.2, .inl (cJ, 14, .inr (.inl (fun _ => 0))))]) (k_IN (rest := [.ref q60, .ref o]) ⟨hx, hb, hml, hown, hts⟩ (c_SP_init l dC dI cI cJ cZ q60 H.size) hK wmn_CP_42 wim_SP_init wini_SP wcode_SP_init rfl (by decide +kernel) ⟨(Nat.le_of_ble_eq_true rfl), (Nat.le_of_ble_eq_true rfl)⟩ (pre_C (hP.sub (ws' := [(q60, .inr (6, [.null, .null, .null, .int (nI 0), .null, .int (nI 0), .long 0]))]) [24] rfl) hK (hD.sub (ws' := [(q60, .inr (6, [.null, .null, .null, .int (nI 0), .null, .int (nI 0), .long 0]))]) [24] (by decide) rfl)) hl.1 rfl (Nat.le_of_ble_eq_true rfl) d_CP_init_64 ⟨h_c, h_s⟩) hP hD hS hA [24] [0, 1, 2, 3, 4, 5, 6, 7, 8, 9, 10, 11, 12, 13, 14, 15, 16, 17, 18, 19, 20, 21, 22, 23] rfl rfl (by decide) (by decide) (fun u64 H locs _ hP hD hS => ?_)
  obtain ⟨q5_64, q7_9_64, q19_64, q27_64, q35_64⟩ := u64
  have hP : va_P (dC, dI) cls [(o, .inr (0, [.ref q5, .ref q16, .ref q27, .ref q38, .ref q49, .null])), (q5, .inr (1, [.ref q7_9, .ref q15_9, .int (nI 0), .int (nI 0), .long 0])), (q7_9, .inl (cI, 41, .inl (nF (fun _ => 0)))), (q15_9, .inl (cI, 41, .inl (nF (fun _ => 0)))), (q16, .inr (2, [.ref q7_20, .ref q15_20, .ref q23_20, .ref q31_20, .ref q37_20, .int (nI 0), .long 0])), (q7_20, .inl (cI, 14, .inl (fun _ => 0))), (q15_20, .inl (cI, 14, .inl (fun _ => 0))), (q23_20, .inl (cI, 14, .inl (fun _ => 0))), (q31_20, .inl (cJ, 14, .inr (.inl (fun _ => 0)))), (q37_20, .inr (3, [.ref q7_41_20, .int (nI 0)])), (q7_41_20, .inl (cJ, 41, .inr (.inl (fun _ => 0)))), (q27, .inr (2, [.ref q7_31, .ref q15_31, .ref q23_31, .ref q31_31, .ref q37_31, .int (nI 0), .long 0])), (q7_31, .inl (cI, 14, .inl (fun _ => 0))), (q15_31, .inl (cI, 14, .inl (fun _ => 0))), (q23_31, .inl (cI, 14, .inl (fun _ => 0))), (q31_31, .inl (cJ, 14, .inr (.inl (fun _ => 0)))), (q37_31, .inr (3, [.ref q7_41_31, .int (nI 0)])), (q7_41_31, .inl (cJ, 41, .inr (.inl (fun _ => 0)))), (q38, .inr (4, [.ref q8_42, .ref q16_42, .ref q24_42, .int (nI 0)])), (q8_42, .inl (cI, 784, .inl (nF (fun _ => 0)))), (q16_42, .inl (cI, 28, .inl (fun _ => 0))), (q24_42, .inl (cI, 28, .inl (nF (fun _ => 0)))), (q49, .inr (5, [.ref q7_53])), (q7_53, .inl (cI, 14, .inl (fun _ => 0))), (q60, .inr (6, [.ref q5_64, .ref q19_64, .ref q27_64, .int (nI 0), .ref q35_64, .int (nI 0), .long 0])), (q5_64, .inr (3, [.ref q7_9_64, .int (nI 0)])), (q7_9_64, .inl (cJ, 41, .inr (.inl (fun _ => 0)))), (q19_64, .inl (cJ, 1274, .inr (.inl (fun _ => 0)))), (q27_64, .inl (cI, 92, .inl (nF (fun _ => 0)))), (q35_64, .inl (cJ, 14, .inr (.inl (fun _ => 0))))] H := hP
  have hD : va_D A [(o, .inr (0, [.ref q5, .ref q16, .ref q27, .ref q38, .ref q49, .null])), (q5, .inr (1, [.ref q7_9, .ref q15_9, .int (nI 0), .int (nI 0), .long 0])), (q7_9, .inl (cI, 41, .inl (nF (fun _ => 0)))), (q15_9, .inl (cI, 41, .inl (nF (fun _ => 0)))), (q16, .inr (2, [.ref q7_20, .ref q15_20, .ref q23_20, .ref q31_20, .ref q37_20, .int (nI 0), .long 0])), (q7_20, .inl (cI, 14, .inl (fun _ => 0))), (q15_20, .inl (cI, 14, .inl (fun _ => 0))), (q23_20, .inl (cI, 14, .inl (fun _ => 0))), (q31_20, .inl (cJ, 14, .inr (.inl (fun _ => 0)))), (q37_20, .inr (3, [.ref q7_41_20, .int (nI 0)])), (q7_41_20, .inl (cJ, 41, .inr (.inl (fun _ => 0)))), (q27, .inr (2, [.ref q7_31, .ref q15_31, .ref q23_31, .ref q31_31, .ref q37_31, .int (nI 0), .long 0])), (q7_31, .inl (cI, 14, .inl (fun _ => 0))), (q15_31, .inl (cI, 14, .inl (fun _ => 0))), (q23_31, .inl (cI, 14, .inl (fun _ => 0))), (q31_31, .inl (cJ, 14, .inr (.inl (fun _ => 0)))), (q37_31, .inr (3, [.ref q7_41_31, .int (nI 0)])), (q7_41_31, .inl (cJ, 41, .inr (.inl (fun _ => 0)))), (q38, .inr (4, [.ref q8_42, .ref q16_42, .ref q24_42, .int (nI 0)])), (q8_42, .inl (cI, 784, .inl (nF (fun _ => 0)))), (q16_42, .inl (cI, 28, .inl (fun _ => 0))), (q24_42, .inl (cI, 28, .inl (nF (fun _ => 0)))), (q49, .inr (5, [.ref q7_53])), (q7_53, .inl (cI, 14, .inl (fun _ => 0))), (q60, .inr (6, [.ref q5_64, .ref q19_64, .ref q27_64, .int (nI 0), .ref q35_64, .int (nI 0), .long 0])), (q5_64, .inr (3, [.ref q7_9_64, .int (nI 0)])), (q7_9_64, .inl (cJ, 41, .inr (.inl (fun _ => 0)))), (q19_64, .inl (cJ, 1274, .inr (.inl (fun _ => 0)))), (q27_64, .inl (cI, 92, .inl (nF (fun _ => 0)))), (q35_64, .inl (cJ, 14, .inr (.inl (fun _ => 0))))] := hD
  refine W.widen (k := 29) (n := 2588) (by omega) (by omega) ?_
  refine va_putF (D := (dC, dI)) (ci := 0) (v := .ref q60) (ty := .object "CutPoints$Splitter") (C := R_CP) (T := F_CP) (N := 6) hx hb hts in_CP t_CP t_CP_ok n_CP hown hK.1 hP hD hS 0 rfl rfl 5 (by decide) (hts _ wfl_CP_43) (fun _ h9 => h9) rfl hin rfl (by decide +kernel) rfl rfl (Nat.le_of_ble_eq_true rfl) d_CP_init_67 (fun H locs hP hD hS => ?_)
  have hP : va_P (dC, dI) cls [(o, .inr (0, [.ref q5, .ref q16, .ref q27, .ref q38, .ref q49, .ref q60])), (q5, .inr (1, [.ref q7_9, .ref q15_9, .int (nI 0), .int (nI 0), .long 0])), (q7_9, .inl (cI, 41, .inl (nF (fun _ => 0)))), (q15_9, .inl (cI, 41, .inl (nF (fun _ => 0)))), (q16, .inr (2, [.ref q7_20, .ref q15_20, .ref q23_20, .ref q31_20, .ref q37_20, .int (nI 0), .long 0])), (q7_20, .inl (cI, 14, .inl (fun _ => 0))), (q15_20, .inl (cI, 14, .inl (fun _ => 0))), (q23_20, .inl (cI, 14, .inl (fun _ => 0))), (q31_20, .inl (cJ, 14, .inr (.inl (fun _ => 0)))), (q37_20, .inr (3, [.ref q7_41_20, .int (nI 0)])), (q7_41_20, .inl (cJ, 41, .inr (.inl (fun _ => 0)))), (q27, .inr (2, [.ref q7_31, .ref q15_31, .ref q23_31, .ref q31_31, .ref q37_31, .int (nI 0), .long 0])), (q7_31, .inl (cI, 14, .inl (fun _ => 0))), (q15_31, .inl (cI, 14, .inl (fun _ => 0))), (q23_31, .inl (cI, 14, .inl (fun _ => 0))), (q31_31, .inl (cJ, 14, .inr (.inl (fun _ => 0)))), (q37_31, .inr (3, [.ref q7_41_31, .int (nI 0)])), (q7_41_31, .inl (cJ, 41, .inr (.inl (fun _ => 0)))), (q38, .inr (4, [.ref q8_42, .ref q16_42, .ref q24_42, .int (nI 0)])), (q8_42, .inl (cI, 784, .inl (nF (fun _ => 0)))), (q16_42, .inl (cI, 28, .inl (fun _ => 0))), (q24_42, .inl (cI, 28, .inl (nF (fun _ => 0)))), (q49, .inr (5, [.ref q7_53])), (q7_53, .inl (cI, 14, .inl (fun _ => 0))), (q60, .inr (6, [.ref q5_64, .ref q19_64, .ref q27_64, .int (nI 0), .ref q35_64, .int (nI 0), .long 0])), (q5_64, .inr (3, [.ref q7_9_64, .int (nI 0)])), (q7_9_64, .inl (cJ, 41, .inr (.inl (fun _ => 0)))), (q19_64, .inl (cJ, 1274, .inr (.inl (fun _ => 0)))), (q27_64, .inl (cI, 92, .inl (nF (fun _ => 0)))), (q35_64, .inl (cJ, 14, .inr (.inl (fun _ => 0))))] H := hP
  have hD : va_D A [(o, .inr (0, [.ref q5, .ref q16, .ref q27, .ref q38, .ref q49, .ref q60])), (q5, .inr (1, [.ref q7_9, .ref q15_9, .int (nI 0), .int (nI 0), .long 0])), (q7_9, .inl (cI, 41, .inl (nF (fun _ => 0)))), (q15_9, .inl (cI, 41, .inl (nF (fun _ => 0)))), (q16, .inr (2, [.ref q7_20, .ref q15_20, .ref q23_20, .ref q31_20, .ref q37_20, .int (nI 0), .long 0])), (q7_20, .inl (cI, 14, .inl (fun _ => 0))), (q15_20, .inl (cI, 14, .inl (fun _ => 0))), (q23_20, .inl (cI, 14, .inl (fun _ => 0))), (q31_20, .inl (cJ, 14, .inr (.inl (fun _ => 0)))), (q37_20, .inr (3, [.ref q7_41_20, .int (nI 0)])), (q7_41_20, .inl (cJ, 41, .inr (.inl (fun _ => 0)))), (q27, .inr (2, [.ref q7_31, .ref q15_31, .ref q23_31, .ref q31_31, .ref q37_31, .int (nI 0), .long 0])), (q7_31, .inl (cI, 14, .inl (fun _ => 0))), (q15_31, .inl (cI, 14, .inl (fun _ => 0))), (q23_31, .inl (cI, 14, .inl (fun _ => 0))), (q31_31, .inl (cJ, 14, .inr (.inl (fun _ => 0)))), (q37_31, .inr (3, [.ref q7_41_31, .int (nI 0)])), (q7_41_31, .inl (cJ, 41, .inr (.inl (fun _ => 0)))), (q38, .inr (4, [.ref q8_42, .ref q16_42, .ref q24_42, .int (nI 0)])), (q8_42, .inl (cI, 784, .inl (nF (fun _ => 0)))), (q16_42, .inl (cI, 28, .inl (fun _ => 0))), (q24_42, .inl (cI, 28, .inl (nF (fun _ => 0)))), (q49, .inr (5, [.ref q7_53])), (q7_53, .inl (cI, 14, .inl (fun _ => 0))), (q60, .inr (6, [.ref q5_64, .ref q19_64, .ref q27_64, .int (nI 0), .ref q35_64, .int (nI 0), .long 0])), (q5_64, .inr (3, [.ref q7_9_64, .int (nI 0)])), (q7_9_64, .inl (cJ, 41, .inr (.inl (fun _ => 0)))), (q19_64, .inl (cJ, 1274, .inr (.inl (fun _ => 0)))), (q27_64, .inl (cI, 92, .inl (nF (fun _ => 0)))), (q35_64, .inl (cJ, 14, .inr (.inl (fun _ => 0))))] := hD
  exact W.vret hx hb hr (fun t9 ht9 _ => ⟨⟨(q5, q7_9, q15_9, q16, q7_20, q15_20, q23_20, q31_20, q37_20, q7_41_20, q27, q7_31, q15_31, q23_31, q31_31, q37_31, q7_41_31, q38, q8_42, q16_42, q24_42, q49, q7_53, q60, q5_64, q7_9_64, q19_64, q27_64, q35_64), rfl, trivial, ⟨by show va_P (dC, dI) cls _ t9.heap; rw [ht9]; exact hP, hD⟩⟩, hS.F ht9⟩) hS.2.2 d_CP_init_70

theorem d_MO_init_0 : decode prog_9_method_1_code 0 = .ok (.aload_n 0, 1) := by decide +kernel
theorem d_MO_init_1 : decode prog_9_method_1_code 1 = .ok (.invokespecial 1, 3) := by decide +kernel
theorem d_MO_init_4 : decode prog_9_method_1_code 4 = .ok (.aload_n 0, 1) := by decide +kernel
theorem d_MO_init_5 : decode prog_9_method_1_code 5 = .ok (.bipush 41, 2) := by decide +kernel
theorem d_MO_init_7 : decode prog_9_method_1_code 7 = .ok (.newarray .int, 2) := by decide +kernel
theorem d_MO_init_9 : decode prog_9_method_1_code 9 = .ok (.putfield 7, 3) := by decide +kernel
theorem d_MO_init_12 : decode prog_9_method_1_code 12 = .ok (.aload_n 0, 1) := by decide +kernel
theorem d_MO_init_13 : decode prog_9_method_1_code 13 = .ok (.bipush 41, 2) := by decide +kernel
theorem d_MO_init_15 : decode prog_9_method_1_code 15 = .ok (.newarray .int, 2) := by decide +kernel
theorem d_MO_init_17 : decode prog_9_method_1_code 17 = .ok (.putfield 13, 3) := by decide +kernel
theorem d_MO_init_20 : decode prog_9_method_1_code 20 = .ok (.aload_n 0, 1) := by decide +kernel
theorem d_MO_init_21 : decode prog_9_method_1_code 21 = .ok (.bipush 41, 2) := by decide +kernel
theorem d_MO_init_23 : decode prog_9_method_1_code 23 = .ok (.newarray .boolean, 2) := by decide +kernel
theorem d_MO_init_25 : decode prog_9_method_1_code 25 = .ok (.putfield 16, 3) := by decide +kernel
theorem d_MO_init_28 : decode prog_9_method_1_code 28 = .ok (.aload_n 0, 1) := by decide +kernel
theorem d_MO_init_29 : decode prog_9_method_1_code 29 = .ok (.bipush 14, 2) := by decide +kernel
theorem d_MO_init_31 : decode prog_9_method_1_code 31 = .ok (.newarray .int, 2) := by decide +kernel
theorem d_MO_init_33 : decode prog_9_method_1_code 33 = .ok (.putfield 20, 3) := by decide +kernel
theorem d_MO_init_36 : decode prog_9_method_1_code 36 = .ok (.aload_n 0, 1) := by decide +kernel
theorem d_MO_init_37 : decode prog_9_method_1_code 37 = .ok (.bipush 14, 2) := by decide +kernel
theorem d_MO_init_39 : decode prog_9_method_1_code 39 = .ok (.newarray .int, 2) := by decide +kernel
theorem d_MO_init_41 : decode prog_9_method_1_code 41 = .ok (.putfield 23, 3) := by decide +kernel
theorem d_MO_init_44 : decode prog_9_method_1_code 44 = .ok (.aload_n 0, 1) := by decide +kernel
theorem d_MO_init_45 : decode prog_9_method_1_code 45 = .ok (.bipush 41, 2) := by decide +kernel
theorem d_MO_init_47 : decode prog_9_method_1_code 47 = .ok (.newarray .int, 2) := by decide +kernel
theorem d_MO_init_49 : decode prog_9_method_1_code 49 = .ok (.putfield 26, 3) := by decide +kernel
theorem d_MO_init_52 : decode prog_9_method_1_code 52 = .ok (.aload_n 0, 1) := by decide +kernel
theorem d_MO_init_53 : decode prog_9_method_1_code 53 = .ok (.bipush 41, 2) := by decide +kernel
theorem d_MO_init_55 : decode prog_9_method_1_code 55 = .ok (.newarray .int, 2) := by decide +kernel
theorem d_MO_init_57 : decode prog_9_method_1_code 57 = .ok (.putfield 29, 3) := by decide +kernel
theorem d_MO_init_60 : decode prog_9_method_1_code 60 = .ok (.aload_n 0, 1) := by decide +kernel
theorem d_MO_init_61 : decode prog_9_method_1_code 61 = .ok (.sipush 8192, 3) := by decide +kernel
theorem d_MO_init_64 : decode prog_9_method_1_code 64 = .ok (.newarray .int, 2) := by decide +kernel
theorem d_MO_init_66 : decode prog_9_method_1_code 66 = .ok (.putfield 32, 3) := by decide +kernel
theorem d_MO_init_69 : decode prog_9_method_1_code 69 = .ok (.aload_n 0, 1) := by decide +kernel
theorem d_MO_init_70 : decode prog_9_method_1_code 70 = .ok (.sipush 8192, 3) := by decide +kernel
theorem d_MO_init_73 : decode prog_9_method_1_code 73 = .ok (.newarray .boolean, 2) := by decide +kernel
theorem d_MO_init_75 : decode prog_9_method_1_code 75 = .ok (.putfield 35, 3) := by decide +kernel
theorem d_MO_init_78 : decode prog_9_method_1_code 78 = .ok (.return_, 1) := by decide +kernel
set_option maxHeartbeats 4000000 in
set_option maxRecDepth 100000 in
theorem c_MO_init (l : Launch) (dC : Nat → ClassId) (dI : Nat → Nat → Nat) (cI cJ cZ : ClassId) (o sz : Nat) : Met l ⟨"CutPointsModel", "<init>", "()V"⟩ (Cond.code ⟨"CutPointsModel", "<init>", "()V"⟩ prog_9_method_1_code 1 none :: TT) (rmc 1 12 9 16617) (PC dC dI cI cJ cZ [.ref o] sz [(o, .inr (7, [.int (nI 0), .int (nI 0), .int (nI 0), .null, .null, .null, .null, .null, .int (nI 0), .null, .null, .int (nI 0), .null, .null, .int (nI 0)]))]) (va_Qv (S := Nat × Nat × Nat × Nat × Nat × Nat × Nat × Nat × Nat) (fun _ => True) (fun u9 t9 => va_P (dC, dI) cls [(o, .inr (7, [.int (nI 0), .int (nI 0), .int (nI 0), .ref u9.1, .ref u9.2.1, .ref u9.2.2.1, .ref u9.2.2.2.1, .ref u9.2.2.2.2.1, .int (nI 0), .ref u9.2.2.2.2.2.1, .ref u9.2.2.2.2.2.2.1, .int (nI 0), .ref u9.2.2.2.2.2.2.2.1, .ref u9.2.2.2.2.2.2.2.2, .int (nI 0)])), (u9.1, .inl (cI, 41, .inl (nF (fun _ => 0)))), (u9.2.1, .inl (cI, 41, .inl (nF (fun _ => 0)))), (u9.2.2.1, .inl (cZ, 41, .inl (bF (fun _ => false)))), (u9.2.2.2.1, .inl (cI, 14, .inl (fun _ => 0))), (u9.2.2.2.2.1, .inl (cI, 14, .inl (fun _ => 0))), (u9.2.2.2.2.2.1, .inl (cI, 41, .inl (nF (fun _ => 0)))), (u9.2.2.2.2.2.2.1, .inl (cI, 41, .inl (nF (fun _ => 0)))), (u9.2.2.2.2.2.2.2.1, .inl (cI, 8192, .inl (nF (fun _ => 0)))), (u9.2.2.2.2.2.2.2.2, .inl (cZ, 8192, .inl (bF (fun _ => false))))] t9.heap ∧ va_D (va_A [(o, .inr (7, [.int (nI 0), .int (nI 0), .int (nI 0), .null, .null, .null, .null, .null, .int (nI 0), .null, .null, .int (nI 0), .null, .null, .int (nI 0)]))] sz) [(o, .inr (7, [.int (nI 0), .int (nI 0), .int (nI 0), .ref u9.1, .ref u9.2.1, .ref u9.2.2.1, .ref u9.2.2.2.1, .ref u9.2.2.2.2.1, .int (nI 0), .ref u9.2.2.2.2.2.1, .ref u9.2.2.2.2.2.2.1, .int (nI 0), .ref u9.2.2.2.2.2.2.2.1, .ref u9.2.2.2.2.2.2.2.2, .int (nI 0)])), (u9.1, .inl (cI, 41, .inl (nF (fun _ => 0)))), (u9.2.1, .inl (cI, 41, .inl (nF (fun _ => 0)))), (u9.2.2.1, .inl (cZ, 41, .inl (bF (fun _ => false)))), (u9.2.2.2.1, .inl (cI, 14, .inl (fun _ => 0))), (u9.2.2.2.2.1, .inl (cI, 14, .inl (fun _ => 0))), (u9.2.2.2.2.2.1, .inl (cI, 41, .inl (nF (fun _ => 0)))), (u9.2.2.2.2.2.2.1, .inl (cI, 41, .inl (nF (fun _ => 0)))), (u9.2.2.2.2.2.2.2.1, .inl (cI, 8192, .inl (nF (fun _ => 0)))), (u9.2.2.2.2.2.2.2.2, .inl (cZ, 8192, .inl (bF (fun _ => false))))]) (va_A [(o, .inr (7, [.int (nI 0), .int (nI 0), .int (nI 0), .null, .null, .null, .null, .null, .int (nI 0), .null, .null, .int (nI 0), .null, .null, .int (nI 0)]))] sz)) 9 16617 (va_A [(o, .inr (7, [.int (nI 0), .int (nI 0), .int (nI 0), .null, .null, .null, .null, .null, .int (nI 0), .null, .null, .int (nI 0), .null, .null, .int (nI 0)]))] sz) := by
  refine Met.ofW (cc := prog_9_method_1_code) (maxL := 1) (ret := none) (by decide) rfl ?_
  intro p e s m args below meth c s₁ BB9 hml hv
  obtain ⟨rfl, hsz, hP, hK, hD0⟩ := hv
  have hx := BB9.exec
  have hb := BB9.bytes
  have hr := BB9.returns
  have hts : ∀ w ∈ TT, w.before _ s = true := fun w h => atoms_spec (ws := (Cond.code ⟨"CutPointsModel", "<init>", "()V"⟩ prog_9_method_1_code 1 none :: TT)) BB9.pre w (List.mem_cons_of_mem _ h)
  have hown : s.vm.findClass "CutPointsModel" = some m.cls := findClass_of_methodNamed BB9.named
  have hlocks := BB9.notSynchronized
  have hin : meth.name = "<init>" := (name_of_methodNamed BB9.named BB9.method).1
  subst hsz
  have hD := hD0.self (sz := s.heap.size)
  generalize hAe : va_A [(o, .inr (7, [.int (nI 0), .int (nI 0), .int (nI 0), .null, .null, .null, .null, .null, .int (nI 0), .null, .null, .int (nI 0), .null, .null, .int (nI 0)]))] s.heap.size = A at hD ⊢
  have hA : ∀ q : Nat, s.heap.size ≤ q → A q := fun q h => by rw [← hAe]; exact Or.inr h
  have hS : va_S A s.heap s.heap [] := va_S.rf
  have hP : va_P (dC, dI) cls [(o, .inr (7, [.int (nI 0), .int (nI 0), .int (nI 0), .null, .null, .null, .null, .null, .int (nI 0), .null, .null, .int (nI 0), .null, .null, .int (nI 0)]))] s.heap := hP
  have hl := lv_entry ([.ref o]) (n := 1) (Nat.le_of_ble_eq_true rfl)
  rw [lg_entry_eq]
  generalize (lg_sl ([.ref o]) ++ List.replicate (1 - (lg_sl ([.ref o])).length) Slot.unset).toArray = ls at hl ⊢
  have hl : lv_has ls 1 [(0, .ref o)] := hl
  refine lv_aload_n hx hb d_MO_init_0 rfl (lv_at hl 0 rfl) ?_
  refine W.objInit hx hb hown (hts _ wml_MO_1) (hts _ wim_OB_init) (hts _ wcode_OB_init) rfl (by rw [hml]; exact hl.1) rfl d_MO_init_1 (Nat.le_of_ble_eq_true rfl) (Nat.le_of_ble_eq_true rfl) ?_
  refine W.eq (g2 := F0 m 4 ls []) rfl ?_
  refine lv_aload_n hx hb d_MO_init_4 rfl (lv_at hl 0 rfl) ?_
  refine lv_bipush (v := (nI 41)) hx hb d_MO_init_5 (by decide) ?_
  have h_c : 1 ≤ 9 := by decide
  have h_s : 41 ≤ 16617 := by decide
  refine x_na (atype := .int) (ty := .int) (a0 := (41, .inl (nF (fun _ => 0)))) hx hb (hts _ warr_int) rfl hK hP hD hS hA 0 rfl (fun _ h9 => h9) (fun _ => rfl) (by decide +kernel) (by decide +kernel) (by decide +kernel) h_c h_s d_MO_init_7 (fun q7 H hP hD hS => ?_)
  have hP : va_P (dC, dI) cls [(o, .inr (7, [.int (nI 0), .int (nI 0), .int (nI 0), .null, .null, .null, .null, .null, .int (nI 0), .null, .null, .int (nI 0), .null, .null, .int (nI 0)])), (q7, .inl (cI, 41, .inl (nF (fun _ => 0))))] H := hP
  have hD : va_D A [(o, .inr (7, [.int (nI 0), .int (nI 0), .int (nI 0), .null, .null, .null, .null, .null, .int (nI 0), .null, .null, .int (nI 0), .null, .null, .int (nI 0)])), (q7, .inl (cI, 41, .inl (nF (fun _ => 0))))] := hD
  refine W.widen (k := 1) (n := 41) (by omega) (by omega) ?_
  refine va_put (D := (dC, dI)) (ci := 7) (v := .ref q7) (ty := .array .int) (C := R_MO) (T := F_MO) (N := 15) hx hb hts in_MO t_MO t_MO_ok n_MO hown hK.1 hP hD hS 0 rfl rfl 3 (by decide) (hts _ wfl_MO_7) (fun _ h9 => h9) rfl (by decide +kernel) rfl rfl (Nat.le_of_ble_eq_true rfl) d_MO_init_9 (fun H locs hP hD hS => ?_)
  have hP : va_P (dC, dI) cls [(o, .inr (7, [.int (nI 0), .int (nI 0), .int (nI 0), .ref q7, .null, .null, .null, .null, .int (nI 0), .null, .null, .int (nI 0), .null, .null, .int (nI 0)])), (q7, .inl (cI, 41, .inl (nF (fun _ => 0))))] H := hP
  have hD : va_D A [(o, .inr (7, [.int (nI 0), .int (nI 0), .int (nI 0), .ref q7, .null, .null, .null, .null, .int (nI 0), .null, .null, .int (nI 0), .null, .null, .int (nI 0)])), (q7, .inl (cI, 41, .inl (nF (fun _ => 0))))] := hD
  refine lv_aload_n hx hb d_MO_init_12 rfl (lv_at hl 0 rfl) ?_
  refine lv_bipush (v := (nI 41)) hx hb d_MO_init_13 (by decide) ?_
  have h_c : 2 ≤ 9 := by decide
  have h_s : 82 ≤ 16617 := by decide
  refine x_na (atype := .int) (ty := .int) (a0 := (41, .inl (nF (fun _ => 0)))) hx hb (hts _ warr_int) rfl hK hP hD hS hA 0 rfl (fun _ h9 => h9) (fun _ => rfl) (by decide +kernel) (by decide +kernel) (by decide +kernel) h_c h_s d_MO_init_15 (fun q15 H hP hD hS => ?_)
  have hP : va_P (dC, dI) cls [(o, .inr (7, [.int (nI 0), .int (nI 0), .int (nI 0), .ref q7, .null, .null, .null, .null, .int (nI 0), .null, .null, .int (nI 0), .null, .null, .int (nI 0)])), (q7, .inl (cI, 41, .inl (nF (fun _ => 0)))), (q15, .inl (cI, 41, .inl (nF (fun _ => 0))))] H := hP
  have hD : va_D A [(o, .inr (7, [.int (nI 0), .int (nI 0), .int (nI 0), .ref q7, .null, .null, .null, .null, .int (nI 0), .null, .null, .int (nI 0), .null, .null, .int (nI 0)])), (q7, .inl (cI, 41, .inl (nF (fun _ => 0)))), (q15, .inl (cI, 41, .inl (nF (fun _ => 0))))] := hD
  refine W.widen (k := 2) (n := 82) (by omega) (by omega) ?_
  refine va_put (D := (dC, dI)) (ci := 7) (v := .ref q15) (ty := .array .int) (C := R_MO) (T := F_MO) (N := 15) hx hb hts in_MO t_MO t_MO_ok n_MO hown hK.1 hP hD hS 0 rfl rfl 4 (by decide) (hts _ wfl_MO_13) (fun _ h9 => h9) rfl (by decide +kernel) rfl rfl (Nat.le_of_ble_eq_true rfl) d_MO_init_17 (fun H locs hP hD hS => ?_)
  have hP : va_P (dC, dI) cls [(o, .inr (7, [.int (nI 0), .int (nI 0), .int (nI 0), .ref q7, .ref q15, .null, .null, .null, .int (nI 0), .null, .null, .int (nI 0), .null, .null, .int (nI 0)])), (q7, .inl (cI, 41, .inl (nF (fun _ => 0)))), (q15, .inl (cI, 41, .inl (nF (fun _ => 0))))] H := hP
  have hD : va_D A [(o, .inr (7, [.int (nI 0), .int (nI 0), .int (nI 0), .ref q7, .ref q15, .null, .null, .null, .int (nI 0), .null, .null, .int (nI 0), .null, .null, .int (nI 0)])), (q7, .inl (cI, 41, .inl (nF (fun _ => 0)))), (q15, .inl (cI, 41, .inl (nF (fun _ => 0))))] := hD
  refine lv_aload_n hx hb d_MO_init_20 rfl (lv_at hl 0 rfl) ?_
  refine lv_bipush (v := (nI 41)) hx hb d_MO_init_21 (by decide) ?_
  have h_c : 3 ≤ 9 := by decide
  have h_s : 123 ≤ 16617 := by decide
  refine x_na (atype := .boolean) (ty := .boolean) (a0 := (41, .inl (bF (fun _ => false)))) hx hb (hts _ warr_boolean) rfl hK hP hD hS hA 2 rfl (fun _ h9 => h9) (fun _ => rfl) (by decide +kernel) (by decide +kernel) (by decide +kernel) h_c h_s d_MO_init_23 (fun q23 H hP hD hS => ?_)
  have hP : va_P (dC, dI) cls [(o, .inr (7, [.int (nI 0), .int (nI 0), .int (nI 0), .ref q7, .ref q15, .null, .null, .null, .int (nI 0), .null, .null, .int (nI 0), .null, .null, .int (nI 0)])), (q7, .inl (cI, 41, .inl (nF (fun _ => 0)))), (q15, .inl (cI, 41, .inl (nF (fun _ => 0)))), (q23, .inl (cZ, 41, .inl (bF (fun _ => false))))] H := hP
  have hD : va_D A [(o, .inr (7, [.int (nI 0), .int (nI 0), .int (nI 0), .ref q7, .ref q15, .null, .null, .null, .int (nI 0), .null, .null, .int (nI 0), .null, .null, .int (nI 0)])), (q7, .inl (cI, 41, .inl (nF (fun _ => 0)))), (q15, .inl (cI, 41, .inl (nF (fun _ => 0)))), (q23, .inl (cZ, 41, .inl (bF (fun _ => false))))] := hD
  refine W.widen (k := 3) (n := 123) (by omega) (by omega) ?_
  refine va_put (D := (dC, dI)) (ci := 7) (v := .ref q23) (ty := .array .boolean) (C := R_MO) (T := F_MO) (N := 15) hx hb hts in_MO t_MO t_MO_ok n_MO hown hK.1 hP hD hS 0 rfl rfl 5 (by decide) (hts _ wfl_MO_16) (fun _ h9 => h9) rfl (by decide +kernel) rfl rfl (Nat.le_of_ble_eq_true rfl) d_MO_init_25 (fun H locs hP hD hS => ?_)
  have hP : va_P (dC, dI) cls [(o, .inr (7, [.int (nI 0), .int (nI 0), .int (nI 0), .ref q7, .ref q15, .ref q23, .null, .null, .int (nI 0), .null, .null, .int (nI 0), .null, .null, .int (nI 0)])), (q7, .inl (cI, 41, .inl (nF (fun _ => 0)))), (q15, .inl (cI, 41, .inl (nF (fun _ => 0)))), (q23, .inl (cZ, 41, .inl (bF (fun _ => false))))] H := hP
  have hD : va_D A [(o, .inr (7, [.int (nI 0), .int (nI 0), .int (nI 0), .ref q7, .ref q15, .ref q23, .null, .null, .int (nI 0), .null, .null, .int (nI 0), .null, .null, .int (nI 0)])), (q7, .inl (cI, 41, .inl (nF (fun _ => 0)))), (q15, .inl (cI, 41, .inl (nF (fun _ => 0)))), (q23, .inl (cZ, 41, .inl (bF (fun _ => false))))] := hD
  refine lv_aload_n hx hb d_MO_init_28 rfl (lv_at hl 0 rfl) ?_
  refine lv_bipush (v := (nI 14)) hx hb d_MO_init_29 (by decide) ?_
  have h_c : 4 ≤ 9 := by decide
  have h_s : 137 ≤ 16617 := by decide
  refine x_na (atype := .int) (ty := .int) (a0 := (14, .inl (fun _ => 0))) hx hb (hts _ warr_int) rfl hK hP hD hS hA 0 rfl (fun _ h9 => h9) (fun _ => rfl) (by decide +kernel) (by decide +kernel) (by decide +kernel) h_c h_s d_MO_init_31 (fun q31 H hP hD hS => ?_)
  have hP : va_P (dC, dI) cls [(o, .inr (7, [.int (nI 0), .int (nI 0), .int (nI 0), .ref q7, .ref q15, .ref q23, .null, .null, .int (nI 0), .null, .null, .int (nI 0), .null, .null, .int (nI 0)])), (q7, .inl (cI, 41, .inl (nF (fun _ => 0)))), (q15, .inl (cI, 41, .inl (nF (fun _ => 0)))), (q23, .inl (cZ, 41, .inl (bF (fun _ => false)))), (q31, .inl (cI, 14, .inl (fun _ => 0)))] H := hP
  have hD : va_D A [(o, .inr (7, [.int (nI 0), .int (nI 0), .int (nI 0), .ref q7, .ref q15, .ref q23, .null, .null, .int (nI 0), .null, .null, .int (nI 0), .null, .null, .int (nI 0)])), (q7, .inl (cI, 41, .inl (nF (fun _ => 0)))), (q15, .inl (cI, 41, .inl (nF (fun _ => 0)))), (q23, .inl (cZ, 41, .inl (bF (fun _ => false)))), (q31, .inl (cI, 14, .inl (fun _ => 0)))] := hD
  refine W.widen (k := 4) (n := 137) (by omega) (by omega) ?_
  refine va_put (D := (dC, dI)) (ci := 7) (v := .ref q31) (ty := .array .int) (C := R_MO) (T := F_MO) (N := 15) hx hb hts in_MO t_MO t_MO_ok n_MO hown hK.1 hP hD hS 0 rfl rfl 6 (by decide) (hts _ wfl_MO_20) (fun _ h9 => h9) rfl (by decide +kernel) rfl rfl (Nat.le_of_ble_eq_true rfl) d_MO_init_33 (fun H locs hP hD hS => ?_)
  have hP : va_P (dC, dI) cls [(o, .inr (7, [.int (nI 0), .int (nI 0), .int (nI 0), .ref q7, .ref q15, .ref q23, .ref q31, .null, .int (nI 0), .null, .null, .int (nI 0), .null, .null, .int (nI 0)])), (q7, .inl (cI, 41, .inl (nF (fun _ => 0)))), (q15, .inl (cI, 41, .inl (nF (fun _ => 0)))), (q23, .inl (cZ, 41, .inl (bF (fun _ => false)))), (q31, .inl (cI, 14, .inl (fun _ => 0)))] H := hP
  have hD : va_D A [(o, .inr (7, [.int (nI 0), .int (nI 0), .int (nI 0), .ref q7, .ref q15, .ref q23, .ref q31, .null, .int (nI 0), .null, .null, .int (nI 0), .null, .null, .int (nI 0)])), (q7, .inl (cI, 41, .inl (nF (fun _ => 0)))), (q15, .inl (cI, 41, .inl (nF (fun _ => 0)))), (q23, .inl (cZ, 41, .inl (bF (fun _ => false)))), (q31, .inl (cI, 14, .inl (fun _ => 0)))] := hD
  refine lv_aload_n hx hb d_MO_init_36 rfl (lv_at hl 0 rfl) ?_
  refine lv_bipush (v := (nI 14)) hx hb d_MO_init_37 (by decide) ?_
  have h_c : 5 ≤ 9 := by decide
  have h_s : 151 ≤ 16617 := by decide
  refine x_na (atype := .int) (ty := .int) (a0 := (14, .inl (fun _ => 0))) hx hb (hts _ warr_int) rfl hK hP hD hS hA 0 rfl (fun _ h9 => h9) (fun _ => rfl) (by decide +kernel) (by decide +kernel) (by decide +kernel) h_c h_s d_MO_init_39 (fun q39 H hP hD hS => ?_)
  have hP : va_P (dC, dI) cls [(o, .inr (7, [.int (nI 0), .int (nI 0), .int (nI 0), .ref q7, .ref q15, .ref q23, .ref q31, .null, .int (nI 0), .null, .null, .int (nI 0), .null, .null, .int (nI 0)])), (q7, .inl (cI, 41, .inl (nF (fun _ => 0)))), (q15, .inl (cI, 41, .inl (nF (fun _ => 0)))), (q23, .inl (cZ, 41, .inl (bF (fun _ => false)))), (q31, .inl (cI, 14, .inl (fun _ => 0))), (q39, .inl (cI, 14, .inl (fun _ => 0)))] H := hP
  have hD : va_D A [(o, .inr (7, [.int (nI 0), .int (nI 0), .int (nI 0), .ref q7, .ref q15, .ref q23, .ref q31, .null, .int (nI 0), .null, .null, .int (nI 0), .null, .null, .int (nI 0)])), (q7, .inl (cI, 41, .inl (nF (fun _ => 0)))), (q15, .inl (cI, 41, .inl (nF (fun _ => 0)))), (q23, .inl (cZ, 41, .inl (bF (fun _ => false)))), (q31, .inl (cI, 14, .inl (fun _ => 0))), (q39, .inl (cI, 14, .inl (fun _ => 0)))] := hD
  refine W.widen (k := 5) (n := 151) (by omega) (by omega) ?_
  refine va_put (D := (dC, dI)) (ci := 7) (v := .ref q39) (ty := .array .int) (C := R_MO) (T := F_MO) (N := 15) hx hb hts in_MO t_MO t_MO_ok n_MO hown hK.1 hP hD hS 0 rfl rfl 7 (by decide) (hts _ wfl_MO_23) (fun _ h9 => h9) rfl (by decide +kernel) rfl rfl (Nat.le_of_ble_eq_true rfl) d_MO_init_41 (fun H locs hP hD hS => ?_)
  have hP : va_P (dC, dI) cls [(o, .inr (7, [.int (nI 0), .int (nI 0), .int (nI 0), .ref q7, .ref q15, .ref q23, .ref q31, .ref q39, .int (nI 0), .null, .null, .int (nI 0), .null, .null, .int (nI 0)])), (q7, .inl (cI, 41, .inl (nF (fun _ => 0)))), (q15, .inl (cI, 41, .inl (nF (fun _ => 0)))), (q23, .inl (cZ, 41, .inl (bF (fun _ => false)))), (q31, .inl (cI, 14, .inl (fun _ => 0))), (q39, .inl (cI, 14, .inl (fun _ => 0)))] H := hP
  have hD : va_D A [(o, .inr (7, [.int (nI 0), .int (nI 0), .int (nI 0), .ref q7, .ref q15, .ref q23, .ref q31, .ref q39, .int (nI 0), .null, .null, .int (nI 0), .null, .null, .int (nI 0)])), (q7, .inl (cI, 41, .inl (nF (fun _ => 0)))), (q15, .inl (cI, 41, .inl (nF (fun _ => 0)))), (q23, .inl (cZ, 41, .inl (bF (fun _ => false)))), (q31, .inl (cI, 14, .inl (fun _ => 0))), (q39, .inl (cI, 14, .inl (fun _ => 0)))] := hD
  refine lv_aload_n hx hb d_MO_init_44 rfl (lv_at hl 0 rfl) ?_
  refine lv_bipush (v := (nI 41)) hx hb d_MO_init_45 (by decide) ?_
  have h_c : 6 ≤ 9 := by decide
  have h_s : 192 ≤ 16617 := by decide
  refine x_na (atype := .int) (ty := .int) (a0 := (41, .inl (nF (fun _ => 0)))) hx hb (hts _ warr_int) rfl hK hP hD hS hA 0 rfl (fun _ h9 => h9) (fun _ => rfl) (by decide +kernel) (by decide +kernel) (by decide +kernel) h_c h_s d_MO_init_47 (fun q47 H hP hD hS => ?_)
  have hP : va_P (dC, dI) cls [(o, .inr (7, [.int (nI 0), .int (nI 0), .int (nI 0), .ref q7, .ref q15, .ref q23, .ref q31, .ref q39, .int (nI 0), .null, .null, .int (nI 0), .null, .null, .int (nI 0)])), (q7, .inl (cI, 41, .inl (nF (fun _ => 0)))), (q15, .inl (cI, 41, .inl (nF (fun _ => 0)))), (q23, .inl (cZ, 41, .inl (bF (fun _ => false)))), (q31, .inl (cI, 14, .inl (fun _ => 0))), (q39, .inl (cI, 14, .inl (fun _ => 0))), (q47, .inl (cI, 41, .inl (nF (fun _ => 0))))] H := hP
  have hD : va_D A [(o, .inr (7, [.int (nI 0), .int (nI 0), .int (nI 0), .ref q7, .ref q15, .ref q23, .ref q31, .ref q39, .int (nI 0), .null, .null, .int (nI 0), .null, .null, .int (nI 0)])), (q7, .inl (cI, 41, .inl (nF (fun _ => 0)))), (q15, .inl (cI, 41, .inl (nF (fun _ => 0)))), (q23, .inl (cZ, 41, .inl (bF (fun _ => false)))), (q31, .inl (cI, 14, .inl (fun _ => 0))), (q39, .inl (cI, 14, .inl (fun _ => 0))), (q47, .inl (cI, 41, .inl (nF (fun _ => 0))))] := hD
  refine W.widen (k := 6) (n := 192) (by omega) (by omega) ?_
  refine va_put (D := (dC, dI)) (ci := 7) (v := .ref q47) (ty := .array .int) (C := R_MO) (T := F_MO) (N := 15) hx hb hts in_MO t_MO t_MO_ok n_MO hown hK.1 hP hD hS 0 rfl rfl 9 (by decide) (hts _ wfl_MO_26) (fun _ h9 => h9) rfl (by decide +kernel) rfl rfl (Nat.le_of_ble_eq_true rfl) d_MO_init_49 (fun H locs hP hD hS => ?_)
  have hP : va_P (dC, dI) cls [(o, .inr (7, [.int (nI 0), .int (nI 0), .int (nI 0), .ref q7, .ref q15, .ref q23, .ref q31, .ref q39, .int (nI 0), .ref q47, .null, .int (nI 0), .null, .null, .int (nI 0)])), (q7, .inl (cI, 41, .inl (nF (fun _ => 0)))), (q15, .inl (cI, 41, .inl (nF (fun _ => 0)))), (q23, .inl (cZ, 41, .inl (bF (fun _ => false)))), (q31, .inl (cI, 14, .inl (fun _ => 0))), (q39, .inl (cI, 14, .inl (fun _ => 0))), (q47, .inl (cI, 41, .inl (nF (fun _ => 0))))] H := hP
  have hD : va_D A [(o, .inr (7, [.int (nI 0), .int (nI 0), .int (nI 0), .ref q7, .ref q15, .ref q23, .ref q31, .ref q39, .int (nI 0), .ref q47, .null, .int (nI 0), .null, .null, .int (nI 0)])), (q7, .inl (cI, 41, .inl (nF (fun _ => 0)))), (q15, .inl (cI, 41, .inl (nF (fun _ => 0)))), (q23, .inl (cZ, 41, .inl (bF (fun _ => false)))), (q31, .inl (cI, 14, .inl (fun _ => 0))), (q39, .inl (cI, 14, .inl (fun _ => 0))), (q47, .inl (cI, 41, .inl (nF (fun _ => 0))))] := hD
  refine lv_aload_n hx hb d_MO_init_52 rfl (lv_at hl 0 rfl) ?_
  refine lv_bipush (v := (nI 41)) hx hb d_MO_init_53 (by decide) ?_
  have h_c : 7 ≤ 9 := by decide
  have h_s : 233 ≤ 16617 := by decide
  refine x_na (atype := .int) (ty := .int) (a0 := (41, .inl (nF (fun _ => 0)))) hx hb (hts _ warr_int) rfl hK hP hD hS hA 0 rfl (fun _ h9 => h9) (fun _ => rfl) (by decide +kernel) (by decide +kernel) (by decide +kernel) h_c h_s d_MO_init_55 (fun q55 H hP hD hS => ?_)
  have hP : va_P (dC, dI) cls [(o, .inr (7, [.int (nI 0), .int (nI 0), .int (nI 0), .ref q7, .ref q15, .ref q23, .ref q31, .ref q39, .int (nI 0), .ref q47, .null, .int (nI 0), .null, .null, .int (nI 0)])), (q7, .inl (cI, 41, .inl (nF (fun _ => 0)))), (q15, .inl (cI, 41, .inl (nF (fun _ => 0)))), (q23, .inl (cZ, 41, .inl (bF (fun _ => false)))), (q31, .inl (cI, 14, .inl (fun _ => 0))), (q39, .inl (cI, 14, .inl (fun _ => 0))), (q47, .inl (cI, 41, .inl (nF (fun _ => 0)))), (q55, .inl (cI, 41, .inl (nF (fun _ => 0))))] H := hP
  have hD : va_D A [(o, .inr (7, [.int (nI 0), .int (nI 0), .int (nI 0), .ref q7, .ref q15, .ref q23, .ref q31, .ref q39, .int (nI 0), .ref q47, .null, .int (nI 0), .null, .null, .int (nI 0)])), (q7, .inl (cI, 41, .inl (nF (fun _ => 0)))), (q15, .inl (cI, 41, .inl (nF (fun _ => 0)))), (q23, .inl (cZ, 41, .inl (bF (fun _ => false)))), (q31, .inl (cI, 14, .inl (fun _ => 0))), (q39, .inl (cI, 14, .inl (fun _ => 0))), (q47, .inl (cI, 41, .inl (nF (fun _ => 0)))), (q55, .inl (cI, 41, .inl (nF (fun _ => 0))))] := hD
  refine W.widen (k := 7) (n := 233) (by omega) (by omega) ?_
  refine va_put (D := (dC, dI)) (ci := 7) (v := .ref q55) (ty := .array .int) (C := R_MO) (T := F_MO) (N := 15) hx hb hts in_MO t_MO t_MO_ok n_MO hown hK.1 hP hD hS 0 rfl rfl 10 (by decide) (hts _ wfl_MO_29) (fun _ h9 => h9) rfl (by decide +kernel) rfl rfl (Nat.le_of_ble_eq_true rfl) d_MO_init_57 (fun H locs hP hD hS => ?_)
  have hP : va_P (dC, dI) cls [(o, .inr (7, [.int (nI 0), .int (nI 0), .int (nI 0), .ref q7, .ref q15, .ref q23, .ref q31, .ref q39, .int (nI 0), .ref q47, .ref q55, .int (nI 0), .null, .null, .int (nI 0)])), (q7, .inl (cI, 41, .inl (nF (fun _ => 0)))), (q15, .inl (cI, 41, .inl (nF (fun _ => 0)))), (q23, .inl (cZ, 41, .inl (bF (fun _ => false)))), (q31, .inl (cI, 14, .inl (fun _ => 0))), (q39, .inl (cI, 14, .inl (fun _ => 0))), (q47, .inl (cI, 41, .inl (nF (fun _ => 0)))), (q55, .inl (cI, 41, .inl (nF (fun _ => 0))))] H := hP
  have hD : va_D A [(o, .inr (7, [.int (nI 0), .int (nI 0), .int (nI 0), .ref q7, .ref q15, .ref q23, .ref q31, .ref q39, .int (nI 0), .ref q47, .ref q55, .int (nI 0), .null, .null, .int (nI 0)])), (q7, .inl (cI, 41, .inl (nF (fun _ => 0)))), (q15, .inl (cI, 41, .inl (nF (fun _ => 0)))), (q23, .inl (cZ, 41, .inl (bF (fun _ => false)))), (q31, .inl (cI, 14, .inl (fun _ => 0))), (q39, .inl (cI, 14, .inl (fun _ => 0))), (q47, .inl (cI, 41, .inl (nF (fun _ => 0)))), (q55, .inl (cI, 41, .inl (nF (fun _ => 0))))] := hD
  refine lv_aload_n hx hb d_MO_init_60 rfl (lv_at hl 0 rfl) ?_
  refine lv_sipush (v := (nI 8192)) hx hb d_MO_init_61 (by decide) ?_
  have h_c : 8 ≤ 9 := by decide
  have h_s : 8425 ≤ 16617 := by decide
  refine x_na (atype := .int) (ty := .int) (a0 := (8192, .inl (nF (fun _ => 0)))) hx hb (hts _ warr_int) rfl hK hP hD hS hA 0 rfl (fun _ h9 => h9) (fun _ => rfl) (by decide +kernel) (by decide +kernel) (by decide +kernel) h_c h_s d_MO_init_64 (fun q64 H hP hD hS => ?_)
  have hP : va_P (dC, dI) cls [(o, .inr (7, [.int (nI 0), .int (nI 0), .int (nI 0), .ref q7, .ref q15, .ref q23, .ref q31, .ref q39, .int (nI 0), .ref q47, .ref q55, .int (nI 0), .null, .null, .int (nI 0)])), (q7, .inl (cI, 41, .inl (nF (fun _ => 0)))), (q15, .inl (cI, 41, .inl (nF (fun _ => 0)))), (q23, .inl (cZ, 41, .inl (bF (fun _ => false)))), (q31, .inl (cI, 14, .inl (fun _ => 0))), (q39, .inl (cI, 14, .inl (fun _ => 0))), (q47, .inl (cI, 41, .inl (nF (fun _ => 0)))), (q55, .inl (cI, 41, .inl (nF (fun _ => 0)))), (q64, .inl (cI, 8192, .inl (nF (fun _ => 0))))] H := hP
  have hD : va_D A [(o, .inr (7, [.int (nI 0), .int (nI 0), .int (nI 0), .ref q7, .ref q15, .ref q23, .ref q31, .ref q39, .int (nI 0), .ref q47, .ref q55, .int (nI 0), .null, .null, .int (nI 0)])), (q7, .inl (cI, 41, .inl (nF (fun _ => 0)))), (q15, .inl (cI, 41, .inl (nF (fun _ => 0)))), (q23, .inl (cZ, 41, .inl (bF (fun _ => false)))), (q31, .inl (cI, 14, .inl (fun _ => 0))), (q39, .inl (cI, 14, .inl (fun _ => 0))), (q47, .inl (cI, 41, .inl (nF (fun _ => 0)))), (q55, .inl (cI, 41, .inl (nF (fun _ => 0)))), (q64, .inl (cI, 8192, .inl (nF (fun _ => 0))))] := hD
  refine W.widen (k := 8) (n := 8425) (by omega) (by omega) ?_
  refine va_put (D := (dC, dI)) (ci := 7) (v := .ref q64) (ty := .array .int) (C := R_MO) (T := F_MO) (N := 15) hx hb hts in_MO t_MO t_MO_ok n_MO hown hK.1 hP hD hS 0 rfl rfl 12 (by decide) (hts _ wfl_MO_32) (fun _ h9 => h9) rfl (by decide +kernel) rfl rfl (Nat.le_of_ble_eq_true rfl) d_MO_init_66 (fun H locs hP hD hS => ?_)
  have hP : va_P (dC, dI) cls [(o, .inr (7, [.int (nI 0), .int (nI 0), .int (nI 0), .ref q7, .ref q15, .ref q23, .ref q31, .ref q39, .int (nI 0), .ref q47, .ref q55, .int (nI 0), .ref q64, .null, .int (nI 0)])), (q7, .inl (cI, 41, .inl (nF (fun _ => 0)))), (q15, .inl (cI, 41, .inl (nF (fun _ => 0)))), (q23, .inl (cZ, 41, .inl (bF (fun _ => false)))), (q31, .inl (cI, 14, .inl (fun _ => 0))), (q39, .inl (cI, 14, .inl (fun _ => 0))), (q47, .inl (cI, 41, .inl (nF (fun _ => 0)))), (q55, .inl (cI, 41, .inl (nF (fun _ => 0)))), (q64, .inl (cI, 8192, .inl (nF (fun _ => 0))))] H := hP
  have hD : va_D A [(o, .inr (7, [.int (nI 0), .int (nI 0), .int (nI 0), .ref q7, .ref q15, .ref q23, .ref q31, .ref q39, .int (nI 0), .ref q47, .ref q55, .int (nI 0), .ref q64, .null, .int (nI 0)])), (q7, .inl (cI, 41, .inl (nF (fun _ => 0)))), (q15, .inl (cI, 41, .inl (nF (fun _ => 0)))), (q23, .inl (cZ, 41, .inl (bF (fun _ => false)))), (q31, .inl (cI, 14, .inl (fun _ => 0))), (q39, .inl (cI, 14, .inl (fun _ => 0))), (q47, .inl (cI, 41, .inl (nF (fun _ => 0)))), (q55, .inl (cI, 41, .inl (nF (fun _ => 0)))), (q64, .inl (cI, 8192, .inl (nF (fun _ => 0))))] := hD
  refine lv_aload_n hx hb d_MO_init_69 rfl (lv_at hl 0 rfl) ?_
  refine lv_sipush (v := (nI 8192)) hx hb d_MO_init_70 (by decide) ?_
  have h_c : 9 ≤ 9 := by decide
  have h_s : 16617 ≤ 16617 := by decide
  refine x_na (atype := .boolean) (ty := .boolean) (a0 := (8192, .inl (bF (fun _ => false)))) hx hb (hts _ warr_boolean) rfl hK hP hD hS hA 2 rfl (fun _ h9 => h9) (fun _ => rfl) (by decide +kernel) (by decide +kernel) (by decide +kernel) h_c h_s d_MO_init_73 (fun q73 H hP hD hS => ?_)
  have hP : va_P (dC, dI) cls [(o, .inr (7, [.int (nI 0), .int (nI 0), .int (nI 0), .ref q7, .ref q15, .ref q23, .ref q31, .ref q39, .int (nI 0), .ref q47, .ref q55, .int (nI 0), .ref q64, .null, .int (nI 0)])), (q7, .inl (cI, 41, .inl (nF (fun _ => 0)))), (q15, .inl (cI, 41, .inl (nF (fun _ => 0)))), (q23, .inl (cZ, 41, .inl (bF (fun _ => false)))), (q31, .inl (cI, 14, .inl (fun _ => 0))), (q39, .inl (cI, 14, .inl (fun _ => 0))), (q47, .inl (cI, 41, .inl (nF (fun _ => 0)))), (q55, .inl (cI, 41, .inl (nF (fun _ => 0)))), (q64, .inl (cI, 8192, .inl (nF (fun _ => 0)))), (q73, .inl (cZ, 8192, .inl (bF (fun _ => false))))] H := hP
  have hD : va_D A [(o, .inr (7, [.int (nI 0), .int (nI 0), .int (nI 0), .ref q7, .ref q15, .ref q23, .ref q31, .ref q39, .int (nI 0), .ref q47, .ref q55, .int (nI 0), .ref q64, .null, .int (nI 0)])), (q7, .inl (cI, 41, .inl (nF (fun _ => 0)))), (q15, .inl (cI, 41, .inl (nF (fun _ => 0)))), (q23, .inl (cZ, 41, .inl (bF (fun _ => false)))), (q31, .inl (cI, 14, .inl (fun _ => 0))), (q39, .inl (cI, 14, .inl (fun _ => 0))), (q47, .inl (cI, 41, .inl (nF (fun _ => 0)))), (q55, .inl (cI, 41, .inl (nF (fun _ => 0)))), (q64, .inl (cI, 8192, .inl (nF (fun _ => 0)))), (q73, .inl (cZ, 8192, .inl (bF (fun _ => false))))] := hD
  refine W.widen (k := 9) (n := 16617) (by omega) (by omega) ?_
  refine va_put (D := (dC, dI)) (ci := 7) (v := .ref q73) (ty := .array .boolean) (C := R_MO) (T := F_MO) (N := 15) hx hb hts in_MO t_MO t_MO_ok n_MO hown hK.1 hP hD hS 0 rfl rfl 13 (by decide) (hts _ wfl_MO_35) (fun _ h9 => h9) rfl (by decide +kernel) rfl rfl (Nat.le_of_ble_eq_true rfl) d_MO_init_75 (fun H locs hP hD hS => ?_)
  have hP : va_P (dC, dI) cls [(o, .inr (7, [.int (nI 0), .int (nI 0), .int (nI 0), .ref q7, .ref q15, .ref q23, .ref q31, .ref q39, .int (nI 0), .ref q47, .ref q55, .int (nI 0), .ref q64, .ref q73, .int (nI 0)])), (q7, .inl (cI, 41, .inl (nF (fun _ => 0)))), (q15, .inl (cI, 41, .inl (nF (fun _ => 0)))), (q23, .inl (cZ, 41, .inl (bF (fun _ => false)))), (q31, .inl (cI, 14, .inl (fun _ => 0))), (q39, .inl (cI, 14, .inl (fun _ => 0))), (q47, .inl (cI, 41, .inl (nF (fun _ => 0)))), (q55, .inl (cI, 41, .inl (nF (fun _ => 0)))), (q64, .inl (cI, 8192, .inl (nF (fun _ => 0)))), (q73, .inl (cZ, 8192, .inl (bF (fun _ => false))))] H := hP
  have hD : va_D A [(o, .inr (7, [.int (nI 0), .int (nI 0), .int (nI 0), .ref q7, .ref q15, .ref q23, .ref q31, .ref q39, .int (nI 0), .ref q47, .ref q55, .int (nI 0), .ref q64, .ref q73, .int (nI 0)])), (q7, .inl (cI, 41, .inl (nF (fun _ => 0)))), (q15, .inl (cI, 41, .inl (nF (fun _ => 0)))), (q23, .inl (cZ, 41, .inl (bF (fun _ => false)))), (q31, .inl (cI, 14, .inl (fun _ => 0))), (q39, .inl (cI, 14, .inl (fun _ => 0))), (q47, .inl (cI, 41, .inl (nF (fun _ => 0)))), (q55, .inl (cI, 41, .inl (nF (fun _ => 0)))), (q64, .inl (cI, 8192, .inl (nF (fun _ => 0)))), (q73, .inl (cZ, 8192, .inl (bF (fun _ => false))))] := hD
  exact W.vret hx hb hr (fun t9 ht9 _ => ⟨⟨(q7, q15, q23, q31, q39, q47, q55, q64, q73), rfl, trivial, ⟨by show va_P (dC, dI) cls _ t9.heap; rw [ht9]; exact hP, hD⟩⟩, hS.F ht9⟩) hS.2.2 d_MO_init_78
