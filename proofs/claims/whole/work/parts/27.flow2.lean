theorem d_FL_outOf_0 : decode prog_3_method_2_code 0 = .ok (.iload_n 0, 1) := by decide +kernel
theorem d_FL_outOf_1 : decode prog_3_method_2_code 1 = .ok (.bipush 14, 2) := by decide +kernel
theorem d_FL_outOf_3 : decode prog_3_method_2_code 3 = .ok (.iadd, 1) := by decide +kernel
theorem d_FL_outOf_4 : decode prog_3_method_2_code 4 = .ok (.ireturn, 1) := by decide +kernel
set_option maxHeartbeats 4000000 in
set_option maxRecDepth 100000 in
theorem c_FL_outOf (l : Launch) (dC : Nat → ClassId) (dI : Nat → Nat → Nat) (cI cJ cZ : ClassId) (v : Nat) : Met l ⟨"CutPoints$Flow", "outOf", "(I)I"⟩ (Cond.code ⟨"CutPoints$Flow", "outOf", "(I)I"⟩ prog_3_method_2_code 1 (some .int) :: TT) (rmk 0 0) (PR dC dI cI cJ cZ [.int (nI v)] []) (vp_Si (fun r => r = nI (v + 14))) 0 0 (fun _ => False) := by
  refine Met.ofW (cc := prog_3_method_2_code) (maxL := 1) (ret := (some .int)) (by decide) rfl ?_
  intro p e s m args below meth c s₁ B hml hv
  obtain ⟨rfl, hP, hK⟩ := hv
  have hx := B.exec
  have hb := B.bytes
  have hr := B.returns
  have hts : ∀ w ∈ TT, w.before _ s = true := fun w h => atoms_spec (ws := (Cond.code ⟨"CutPoints$Flow", "outOf", "(I)I"⟩ prog_3_method_2_code 1 (some .int) :: TT)) B.pre w (List.mem_cons_of_mem _ h)
  have hown : s.vm.findClass "CutPoints$Flow" = some m.cls := findClass_of_methodNamed B.named
  have hlocks := B.notSynchronized
  have hl := lv_entry ([.int (nI v)]) (n := 1) (Nat.le_of_ble_eq_true rfl)
  rw [lg_entry_eq]
  generalize (lg_sl ([.int (nI v)]) ++ List.replicate (1 - (lg_sl ([.int (nI v)])).length) Slot.unset).toArray = ls at hl ⊢
  have hl : lv_has ls 1 [(0, .int (nI v))] := hl
  refine lv_iload_n hx hb d_FL_outOf_0 rfl (lv_at hl 0 rfl) ?_
  refine lv_bipush (v := (nI 14)) hx hb d_FL_outOf_1 (by decide) ?_
  refine lv_iadd hx hb d_FL_outOf_3 ?_
  refine xe_i (nI_add _ _) ?_
  exact W.iret (v := (nI (v + 14))) hx hb hr (fun t9 ht9 _ => ⟨_, rfl, rfl, ht9⟩) t_nil d_FL_outOf_4

theorem d_FL_forget_0 : decode prog_3_method_6_code 0 = .ok (.aload_n 0, 1) := by decide +kernel
theorem d_FL_forget_1 : decode prog_3_method_6_code 1 = .ok (.getfield 11, 3) := by decide +kernel
theorem d_FL_forget_4 : decode prog_3_method_6_code 4 = .ok (.iconst 0, 1) := by decide +kernel
theorem d_FL_forget_5 : decode prog_3_method_6_code 5 = .ok (.invokestatic 61, 3) := by decide +kernel
theorem d_FL_forget_8 : decode prog_3_method_6_code 8 = .ok (.aload_n 0, 1) := by decide +kernel
theorem d_FL_forget_9 : decode prog_3_method_6_code 9 = .ok (.getfield 15, 3) := by decide +kernel
theorem d_FL_forget_12 : decode prog_3_method_6_code 12 = .ok (.iconst 0, 1) := by decide +kernel
theorem d_FL_forget_13 : decode prog_3_method_6_code 13 = .ok (.invokestatic 61, 3) := by decide +kernel
theorem d_FL_forget_16 : decode prog_3_method_6_code 16 = .ok (.return_, 1) := by decide +kernel
set_option maxHeartbeats 4000000 in
set_option maxRecDepth 100000 in
theorem c_FL_forget (l : Launch) (dC : Nat → ClassId) (dI : Nat → Nat → Nat) (cI cJ cZ : ClassId) (fl rm op bf : Nat) (sn : Int32) (g0 O0 : Nat → Int32) : Met l ⟨"CutPoints$Flow", "forget", "()V"⟩ (Cond.code ⟨"CutPoints$Flow", "forget", "()V"⟩ prog_3_method_6_code 1 none :: TT) (rmk 1 23) (PM dC dI cI cJ cZ [.ref fl] [(fl, .inr (4, [.ref rm, .ref op, .ref bf, .int sn])), (rm, .inl (cI, 784, .inl g0)), (op, .inl (cI, 28, .inl O0))]) (va_Qv (S := Nat → Int32) (fun u9 => ∀ j, j < 28 → u9 j = nI 0) (fun u9 t9 => va_P (dC, dI) cls ([(fl, .inr (4, [.ref rm, .ref op, .ref bf, .int sn])), (rm, .inl (cI, 784, .inl (nF (fun _ => 0)))), (op, .inl (cI, 28, .inl u9))]) t9.heap) (ow [(fl, .inr (4, [.ref rm, .ref op, .ref bf, .int sn])), (rm, .inl (cI, 784, .inl g0)), (op, .inl (cI, 28, .inl O0))])) 0 0 (ow [(fl, .inr (4, [.ref rm, .ref op, .ref bf, .int sn])), (rm, .inl (cI, 784, .inl g0)), (op, .inl (cI, 28, .inl O0))]) := by
  refine Met.ofW (cc := prog_3_method_6_code) (maxL := 1) (ret := none) (by decide) rfl ?_
  intro p e s m args below meth c s₁ B hml hv
  obtain ⟨rfl, hP, hK, hD0⟩ := hv
  have hx := B.exec
  have hb := B.bytes
  have hr := B.returns
  have hts : ∀ w ∈ TT, w.before _ s = true := fun w h => atoms_spec (ws := (Cond.code ⟨"CutPoints$Flow", "forget", "()V"⟩ prog_3_method_6_code 1 none :: TT)) B.pre w (List.mem_cons_of_mem _ h)
  have hown : s.vm.findClass "CutPoints$Flow" = some m.cls := findClass_of_methodNamed B.named
  have hlocks := B.notSynchronized
  have hD := hD0.mine
  have hS : va_S (ow [(fl, .inr (4, [.ref rm, .ref op, .ref bf, .int sn])), (rm, .inl (cI, 784, .inl g0)), (op, .inl (cI, 28, .inl O0))]) s.heap s.heap [] := va_S.rf
  have hl := lv_entry ([.ref fl]) (n := 1) (Nat.le_of_ble_eq_true rfl)
  rw [lg_entry_eq]
  generalize (lg_sl ([.ref fl]) ++ List.replicate (1 - (lg_sl ([.ref fl])).length) Slot.unset).toArray = ls at hl ⊢
  have hl : lv_has ls 1 [(0, .ref fl)] := hl
  refine lv_aload_n hx hb d_FL_forget_0 rfl (lv_at hl 0 rfl) ?_
  refine va_get (D := (dC, dI)) (ci := 4) (v := .ref rm) (C := R_FL) (T := F_FL) (N := 4) hx hb hts in_FL hown hK.1 hP 0 rfl rfl 0 (by decide) (hts _ wfl_FL_11) (fun _ h9 => h9) rfl d_FL_forget_1 ?_
  refine lv_iconst (v := (nI 0)) hx hb d_FL_forget_4 (by decide) ?_
  refine x_cv (k_S (n := 2) (rest := []) ⟨hx, hb, hml, hown, hts⟩ (c_JA_fill l dC dI cI cJ cZ rm 784 g0 (nI 0) (by first | assumption | omega)) wml_FL_61 wst_JA_fill wini_JA wcode_JA_fill (by decide +kernel) ⟨Nat.le_of_ble_eq_true rfl, Nat.le_of_ble_eq_true rfl⟩ (pre_M (hP.sub (ws' := [(rm, .inl (cI, 784, .inl g0))]) [1] rfl) hK (hD.sub (ws' := [(rm, .inl (cI, 784, .inl g0))]) [1] (by decide) rfl)) rfl hl.1 rfl (Nat.le_of_ble_eq_true rfl) d_FL_forget_5 ⟨Nat.zero_le _, Nat.zero_le _⟩) hP hD hS [1] rfl (fun _ => rfl) (fun u_1 H locs hu_1 hP hS => ?_)
  obtain ⟨g_1, rfl⟩ : ∃ z, z = u_1 := ⟨_, rfl⟩
  have hP : va_P (dC, dI) cls [(fl, .inr (4, [.ref rm, .ref op, .ref bf, .int sn])), (rm, .inl (cI, 784, .inl g_1)), (op, .inl (cI, 28, .inl O0))] H := hP
  have hD := hD.addr (ws' := [(fl, .inr (4, [.ref rm, .ref op, .ref bf, .int sn])), (rm, .inl (cI, 784, .inl g_1)), (op, .inl (cI, 28, .inl O0))]) rfl
  have hP := x_cong (g := (nF (fun _ => 0))) hP hD 1 rfl (fun j hj => hu_1 j hj)
  have hP : va_P (dC, dI) cls [(fl, .inr (4, [.ref rm, .ref op, .ref bf, .int sn])), (rm, .inl (cI, 784, .inl (nF (fun _ => 0)))), (op, .inl (cI, 28, .inl O0))] H := hP
  have hD := hD.addr (ws' := [(fl, .inr (4, [.ref rm, .ref op, .ref bf, .int sn])), (rm, .inl (cI, 784, .inl (nF (fun _ => 0)))), (op, .inl (cI, 28, .inl O0))]) rfl
  refine lv_aload_n hx hb d_FL_forget_8 rfl (lv_at hl 0 rfl) ?_
  refine va_get (D := (dC, dI)) (ci := 4) (v := .ref op) (C := R_FL) (T := F_FL) (N := 4) hx hb hts in_FL hown hK.1 hP 0 rfl rfl 1 (by decide) (hts _ wfl_FL_15) (fun _ h9 => h9) rfl d_FL_forget_9 ?_
  refine lv_iconst (v := (nI 0)) hx hb d_FL_forget_12 (by decide) ?_
  refine x_cv (k_S (n := 2) (rest := []) ⟨hx, hb, hml, hown, hts⟩ (c_JA_fill l dC dI cI cJ cZ op 28 O0 (nI 0) (by first | assumption | omega)) wml_FL_61 wst_JA_fill wini_JA wcode_JA_fill (by decide +kernel) ⟨Nat.le_of_ble_eq_true rfl, Nat.le_of_ble_eq_true rfl⟩ (pre_M (hP.sub (ws' := [(op, .inl (cI, 28, .inl O0))]) [2] rfl) hK (hD.sub (ws' := [(op, .inl (cI, 28, .inl O0))]) [2] (by decide) rfl)) rfl hl.1 rfl (Nat.le_of_ble_eq_true rfl) d_FL_forget_13 ⟨Nat.zero_le _, Nat.zero_le _⟩) hP hD hS [2] rfl (fun _ => rfl) (fun u_2 H locs hu_2 hP hS => ?_)
  obtain ⟨g_2, rfl⟩ : ∃ z, z = u_2 := ⟨_, rfl⟩
  have hP : va_P (dC, dI) cls [(fl, .inr (4, [.ref rm, .ref op, .ref bf, .int sn])), (rm, .inl (cI, 784, .inl (nF (fun _ => 0)))), (op, .inl (cI, 28, .inl g_2))] H := hP
  have hD := hD.addr (ws' := [(fl, .inr (4, [.ref rm, .ref op, .ref bf, .int sn])), (rm, .inl (cI, 784, .inl (nF (fun _ => 0)))), (op, .inl (cI, 28, .inl g_2))]) rfl
  exact W.vret hx hb hr (fun t9 ht9 _ => ⟨⟨(g_2), rfl, hu_2, by show va_P (dC, dI) cls _ t9.heap; rw [ht9]; exact hP⟩, hS.F ht9⟩) hS.2.2 d_FL_forget_16

