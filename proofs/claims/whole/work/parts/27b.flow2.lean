theorem d_FL_change_0 : decode prog_3_method_7_code 0 = .ok (.iload_n 1, 1) := by decide +kernel
theorem d_FL_change_1 : decode prog_3_method_7_code 1 = .ok (.bipush 28, 2) := by decide +kernel
theorem d_FL_change_3 : decode prog_3_method_7_code 3 = .ok (.imul, 1) := by decide +kernel
theorem d_FL_change_4 : decode prog_3_method_7_code 4 = .ok (.iload_n 2, 1) := by decide +kernel
theorem d_FL_change_5 : decode prog_3_method_7_code 5 = .ok (.iadd, 1) := by decide +kernel
theorem d_FL_change_6 : decode prog_3_method_7_code 6 = .ok (.istore 4, 2) := by decide +kernel
theorem d_FL_change_8 : decode prog_3_method_7_code 8 = .ok (.aload_n 0, 1) := by decide +kernel
theorem d_FL_change_9 : decode prog_3_method_7_code 9 = .ok (.getfield 11, 3) := by decide +kernel
theorem d_FL_change_12 : decode prog_3_method_7_code 12 = .ok (.iload 4, 2) := by decide +kernel
theorem d_FL_change_14 : decode prog_3_method_7_code 14 = .ok (.dup2, 1) := by decide +kernel
theorem d_FL_change_15 : decode prog_3_method_7_code 15 = .ok (.iaload, 1) := by decide +kernel
theorem d_FL_change_16 : decode prog_3_method_7_code 16 = .ok (.iload_n 3, 1) := by decide +kernel
theorem d_FL_change_17 : decode prog_3_method_7_code 17 = .ok (.iadd, 1) := by decide +kernel
theorem d_FL_change_18 : decode prog_3_method_7_code 18 = .ok (.iastore, 1) := by decide +kernel
theorem d_FL_change_19 : decode prog_3_method_7_code 19 = .ok (.aload_n 0, 1) := by decide +kernel
theorem d_FL_change_20 : decode prog_3_method_7_code 20 = .ok (.getfield 11, 3) := by decide +kernel
theorem d_FL_change_23 : decode prog_3_method_7_code 23 = .ok (.iload 4, 2) := by decide +kernel
theorem d_FL_change_25 : decode prog_3_method_7_code 25 = .ok (.iaload, 1) := by decide +kernel
theorem d_FL_change_26 : decode prog_3_method_7_code 26 = .ok (.ifCond .le 18, 3) := by decide +kernel
theorem d_FL_change_29 : decode prog_3_method_7_code 29 = .ok (.aload_n 0, 1) := by decide +kernel
theorem d_FL_change_30 : decode prog_3_method_7_code 30 = .ok (.getfield 15, 3) := by decide +kernel
theorem d_FL_change_33 : decode prog_3_method_7_code 33 = .ok (.iload_n 1, 1) := by decide +kernel
theorem d_FL_change_34 : decode prog_3_method_7_code 34 = .ok (.dup2, 1) := by decide +kernel
theorem d_FL_change_35 : decode prog_3_method_7_code 35 = .ok (.iaload, 1) := by decide +kernel
theorem d_FL_change_36 : decode prog_3_method_7_code 36 = .ok (.iconst 1, 1) := by decide +kernel
theorem d_FL_change_37 : decode prog_3_method_7_code 37 = .ok (.iload_n 2, 1) := by decide +kernel
theorem d_FL_change_38 : decode prog_3_method_7_code 38 = .ok (.ishl, 1) := by decide +kernel
theorem d_FL_change_39 : decode prog_3_method_7_code 39 = .ok (.ior, 1) := by decide +kernel
theorem d_FL_change_40 : decode prog_3_method_7_code 40 = .ok (.iastore, 1) := by decide +kernel
theorem d_FL_change_41 : decode prog_3_method_7_code 41 = .ok (.goto 17, 3) := by decide +kernel
theorem d_FL_change_44 : decode prog_3_method_7_code 44 = .ok (.aload_n 0, 1) := by decide +kernel
theorem d_FL_change_45 : decode prog_3_method_7_code 45 = .ok (.getfield 15, 3) := by decide +kernel
theorem d_FL_change_48 : decode prog_3_method_7_code 48 = .ok (.iload_n 1, 1) := by decide +kernel
theorem d_FL_change_49 : decode prog_3_method_7_code 49 = .ok (.dup2, 1) := by decide +kernel
theorem d_FL_change_50 : decode prog_3_method_7_code 50 = .ok (.iaload, 1) := by decide +kernel
theorem d_FL_change_51 : decode prog_3_method_7_code 51 = .ok (.iconst 1, 1) := by decide +kernel
theorem d_FL_change_52 : decode prog_3_method_7_code 52 = .ok (.iload_n 2, 1) := by decide +kernel
theorem d_FL_change_53 : decode prog_3_method_7_code 53 = .ok (.ishl, 1) := by decide +kernel
theorem d_FL_change_54 : decode prog_3_method_7_code 54 = .ok (.iconst (-1), 1) := by decide +kernel
theorem d_FL_change_55 : decode prog_3_method_7_code 55 = .ok (.ixor, 1) := by decide +kernel
theorem d_FL_change_56 : decode prog_3_method_7_code 56 = .ok (.iand, 1) := by decide +kernel
theorem d_FL_change_57 : decode prog_3_method_7_code 57 = .ok (.iastore, 1) := by decide +kernel
theorem d_FL_change_58 : decode prog_3_method_7_code 58 = .ok (.return_, 1) := by decide +kernel
set_option maxHeartbeats 4000000 in
set_option maxRecDepth 100000 in
theorem c_FL_change_p (l : Launch) (dC : Nat → ClassId) (dI : Nat → Nat → Nat) (cI cJ cZ : ClassId) (fl rm op bf : Nat) (sn : Int32) (C : Nat → Nat) (O : Nat → Int32) (f t : Nat) (hf28 : f < 28) (ht28 : t < 28) (hO : OPI C O) (hC : ∀ p, C p ≤ 100000) : Met l ⟨"CutPoints$Flow", "change", "(III)V"⟩ (Cond.code ⟨"CutPoints$Flow", "change", "(III)V"⟩ prog_3_method_7_code 5 none :: TT) (rmk 0 0) (PM dC dI cI cJ cZ [.ref fl, .int (nI f), .int (nI t), .int (nI 1)] [(fl, .inr (4, [.ref rm, .ref op, .ref bf, .int sn])), (rm, .inl (cI, 784, .inl (nF C))), (op, .inl (cI, 28, .inl O))]) (va_Qv (S := Nat → Int32) (fun u9 => OPI (va_up C (f * 28 + t) (C (f * 28 + t) + 1)) u9) (fun u9 t9 => va_P (dC, dI) cls ([(fl, .inr (4, [.ref rm, .ref op, .ref bf, .int sn])), (rm, .inl (cI, 784, .inl (nF (va_up C (f * 28 + t) (C (f * 28 + t) + 1))))), (op, .inl (cI, 28, .inl u9))]) t9.heap) (ow [(fl, .inr (4, [.ref rm, .ref op, .ref bf, .int sn])), (rm, .inl (cI, 784, .inl (nF C))), (op, .inl (cI, 28, .inl O))])) 0 0 (ow [(fl, .inr (4, [.ref rm, .ref op, .ref bf, .int sn])), (rm, .inl (cI, 784, .inl (nF C))), (op, .inl (cI, 28, .inl O))]) := by
  refine Met.ofW (cc := prog_3_method_7_code) (maxL := 5) (ret := none) (by decide) rfl ?_
  intro p e s m args below meth c s₁ B hml hv
  obtain ⟨rfl, hP, hK, hD0⟩ := hv
  have hx := B.exec
  have hb := B.bytes
  have hr := B.returns
  have hts : ∀ w ∈ TT, w.before _ s = true := fun w h => atoms_spec (ws := (Cond.code ⟨"CutPoints$Flow", "change", "(III)V"⟩ prog_3_method_7_code 5 none :: TT)) B.pre w (List.mem_cons_of_mem _ h)
  have hown : s.vm.findClass "CutPoints$Flow" = some m.cls := findClass_of_methodNamed B.named
  have hlocks := B.notSynchronized
  have hD := hD0.mine
  have hS : va_S (ow [(fl, .inr (4, [.ref rm, .ref op, .ref bf, .int sn])), (rm, .inl (cI, 784, .inl (nF C))), (op, .inl (cI, 28, .inl O))]) s.heap s.heap [] := va_S.rf
  have hCp := hC (f * 28 + t)
  have hl := lv_entry ([.ref fl, .int (nI f), .int (nI t), .int (nI 1)]) (n := 5) (Nat.le_of_ble_eq_true rfl)
  rw [lg_entry_eq]
  generalize (lg_sl ([.ref fl, .int (nI f), .int (nI t), .int (nI 1)]) ++ List.replicate (5 - (lg_sl ([.ref fl, .int (nI f), .int (nI t), .int (nI 1)])).length) Slot.unset).toArray = ls at hl ⊢
  have hl : lv_has ls 5 [(0, .ref fl), (1, .int (nI f)), (2, .int (nI t)), (3, .int (nI 1))] := hl
  refine lv_iload_n hx hb d_FL_change_0 rfl (lv_at hl 1 rfl) ?_
  refine lv_bipush (v := (nI 28)) hx hb d_FL_change_1 (by decide) ?_
  refine lv_imul hx hb d_FL_change_3 ?_
  refine xe_i (pk_mul _ _) ?_
  refine lv_iload_n hx hb d_FL_change_4 rfl (lv_at hl 2 rfl) ?_
  refine lv_iadd hx hb d_FL_change_5 ?_
  refine xe_i (nI_add _ _) ?_
  refine lv_istore (lv' := [(4, .int (nI ((f * 28) + t))), (0, .ref fl), (1, .int (nI f)), (2, .int (nI t)), (3, .int (nI 1))]) hx hb d_FL_change_6 hl (by decide) rfl (fun ls hl => ?_)
  refine lv_aload_n hx hb d_FL_change_8 rfl (lv_at hl 1 rfl) ?_
  refine va_get (D := (dC, dI)) (ci := 4) (v := .ref rm) (C := R_FL) (T := F_FL) (N := 4) hx hb hts in_FL hown hK.1 hP 0 rfl rfl 0 (by decide) (hts _ wfl_FL_11) (fun _ h9 => h9) rfl d_FL_change_9 ?_
  refine lv_iload hx hb d_FL_change_12 (lv_at hl 0 rfl) ?_
  refine lv_dup2_11 hx hb d_FL_change_14 rfl rfl ?_
  refine x_iald (n := 784) (f := (nF C)) (j := ((f * 28) + t)) hx hb hK.1 hP 1 0 rfl rfl (by omega) (by omega) d_FL_change_15 ?_
  refine xe_i (y := (nI (C ((f * 28) + t)))) rfl ?_
  refine lv_iload_n hx hb d_FL_change_16 rfl (lv_at hl 4 rfl) ?_
  refine lv_iadd hx hb d_FL_change_17 ?_
  refine xe_i (nI_add _ _) ?_
  refine x_iast (g := (nF (va_up C ((f * 28) + t) ((C ((f * 28) + t)) + 1)))) hx hb hK.1 hP hD hS 1 0 rfl rfl (nF_up _ _ _) (by omega) (by omega) d_FL_change_18 (fun H locs hP hD hS => ?_)
  have hP : va_P (dC, dI) cls [(fl, .inr (4, [.ref rm, .ref op, .ref bf, .int sn])), (rm, .inl (cI, 784, .inl (nF (va_up C ((f * 28) + t) ((C ((f * 28) + t)) + 1))))), (op, .inl (cI, 28, .inl O))] H := hP
  have hD : va_D (ow [(fl, .inr (4, [.ref rm, .ref op, .ref bf, .int sn])), (rm, .inl (cI, 784, .inl (nF C))), (op, .inl (cI, 28, .inl O))]) [(fl, .inr (4, [.ref rm, .ref op, .ref bf, .int sn])), (rm, .inl (cI, 784, .inl (nF (va_up C ((f * 28) + t) ((C ((f * 28) + t)) + 1))))), (op, .inl (cI, 28, .inl O))] := hD
  refine lv_aload_n hx hb d_FL_change_19 rfl (lv_at hl 1 rfl) ?_
  refine va_get (D := (dC, dI)) (ci := 4) (v := .ref rm) (C := R_FL) (T := F_FL) (N := 4) hx hb hts in_FL hown hK.1 hP 0 rfl rfl 0 (by decide) (hts _ wfl_FL_11) (fun _ h9 => h9) rfl d_FL_change_20 ?_
  refine lv_iload hx hb d_FL_change_23 (lv_at hl 0 rfl) ?_
  refine x_iald (n := 784) (f := (nF (va_up C ((f * 28) + t) ((C ((f * 28) + t)) + 1)))) (j := ((f * 28) + t)) hx hb hK.1 hP 1 0 rfl rfl (by omega) (by omega) d_FL_change_25 ?_
  refine xe_i (y := (nI ((va_up C ((f * 28) + t) ((C ((f * 28) + t)) + 1)) ((f * 28) + t)))) rfl ?_
  refine xe_i (y := (nI (C (f * 28 + t) + 1))) (by rw [va_up_s]) ?_
  refine x_ifN_le (a := (C (f * 28 + t) + 1)) (tgt := 44) hx hb (by omega) d_FL_change_26 (by decide) (fun c_1 => ?_) (fun c_1 => ?_)
  · skip
    omega
  · skip
    refine lv_aload_n hx hb d_FL_change_29 rfl (lv_at hl 1 rfl) ?_
    refine va_get (D := (dC, dI)) (ci := 4) (v := .ref op) (C := R_FL) (T := F_FL) (N := 4) hx hb hts in_FL hown hK.1 hP 0 rfl rfl 1 (by decide) (hts _ wfl_FL_15) (fun _ h9 => h9) rfl d_FL_change_30 ?_
    refine lv_iload_n hx hb d_FL_change_33 rfl (lv_at hl 2 rfl) ?_
    refine lv_dup2_11 hx hb d_FL_change_34 rfl rfl ?_
    refine x_iald (n := 28) (f := O) (j := f) hx hb hK.1 hP 2 0 rfl rfl (by omega) (by omega) d_FL_change_35 ?_
    refine lv_iconst (v := (nI 1)) hx hb d_FL_change_36 (by decide) ?_
    refine lv_iload_n hx hb d_FL_change_37 rfl (lv_at hl 3 rfl) ?_
    refine lv_ishl hx hb d_FL_change_38 ?_
    refine xe_i (y := (sb t)) rfl ?_
    refine lv_ior hx hb d_FL_change_39 ?_
    refine x_iast (g := (va_up O f ((O f) ||| (sb t)))) hx hb hK.1 hP hD hS 2 0 rfl rfl rfl (by omega) (by omega) d_FL_change_40 (fun H locs hP hD hS => ?_)
    have hP : va_P (dC, dI) cls [(fl, .inr (4, [.ref rm, .ref op, .ref bf, .int sn])), (rm, .inl (cI, 784, .inl (nF (va_up C ((f * 28) + t) ((C ((f * 28) + t)) + 1))))), (op, .inl (cI, 28, .inl (va_up O f ((O f) ||| (sb t)))))] H := hP
    have hD : va_D (ow [(fl, .inr (4, [.ref rm, .ref op, .ref bf, .int sn])), (rm, .inl (cI, 784, .inl (nF C))), (op, .inl (cI, 28, .inl O))]) [(fl, .inr (4, [.ref rm, .ref op, .ref bf, .int sn])), (rm, .inl (cI, 784, .inl (nF (va_up C ((f * 28) + t) ((C ((f * 28) + t)) + 1))))), (op, .inl (cI, 28, .inl (va_up O f ((O f) ||| (sb t)))))] := hD
    refine lv_goto (tgt := 58) hx hb d_FL_change_41 (by decide) ?_
    exact W.vret hx hb hr (fun t9 ht9 _ => ⟨⟨((va_up O f ((O f) ||| (sb t)))), rfl, (OPI_p hO hf28 ht28 c_1), by show va_P (dC, dI) cls _ t9.heap; rw [ht9]; exact hP⟩, hS.F ht9⟩) hS.2.2 d_FL_change_58

set_option maxHeartbeats 4000000 in
set_option maxRecDepth 100000 in
theorem c_FL_change_m (l : Launch) (dC : Nat → ClassId) (dI : Nat → Nat → Nat) (cI cJ cZ : ClassId) (fl rm op bf : Nat) (sn : Int32) (C : Nat → Nat) (O : Nat → Int32) (f t : Nat) (hf28 : f < 28) (ht28 : t < 28) (hO : OPI C O) (hC : ∀ p, C p ≤ 100000) (hpos : 0 < C (f * 28 + t)) : Met l ⟨"CutPoints$Flow", "change", "(III)V"⟩ (Cond.code ⟨"CutPoints$Flow", "change", "(III)V"⟩ prog_3_method_7_code 5 none :: TT) (rmk 0 0) (PM dC dI cI cJ cZ [.ref fl, .int (nI f), .int (nI t), .int (-1)] [(fl, .inr (4, [.ref rm, .ref op, .ref bf, .int sn])), (rm, .inl (cI, 784, .inl (nF C))), (op, .inl (cI, 28, .inl O))]) (va_Qv (S := Nat → Int32) (fun u9 => OPI (va_up C (f * 28 + t) (C (f * 28 + t) - 1)) u9) (fun u9 t9 => va_P (dC, dI) cls ([(fl, .inr (4, [.ref rm, .ref op, .ref bf, .int sn])), (rm, .inl (cI, 784, .inl (nF (va_up C (f * 28 + t) (C (f * 28 + t) - 1))))), (op, .inl (cI, 28, .inl u9))]) t9.heap) (ow [(fl, .inr (4, [.ref rm, .ref op, .ref bf, .int sn])), (rm, .inl (cI, 784, .inl (nF C))), (op, .inl (cI, 28, .inl O))])) 0 0 (ow [(fl, .inr (4, [.ref rm, .ref op, .ref bf, .int sn])), (rm, .inl (cI, 784, .inl (nF C))), (op, .inl (cI, 28, .inl O))]) := by
  refine Met.ofW (cc := prog_3_method_7_code) (maxL := 5) (ret := none) (by decide) rfl ?_
  intro p e s m args below meth c s₁ B hml hv
  obtain ⟨rfl, hP, hK, hD0⟩ := hv
  have hx := B.exec
  have hb := B.bytes
  have hr := B.returns
  have hts : ∀ w ∈ TT, w.before _ s = true := fun w h => atoms_spec (ws := (Cond.code ⟨"CutPoints$Flow", "change", "(III)V"⟩ prog_3_method_7_code 5 none :: TT)) B.pre w (List.mem_cons_of_mem _ h)
  have hown : s.vm.findClass "CutPoints$Flow" = some m.cls := findClass_of_methodNamed B.named
  have hlocks := B.notSynchronized
  have hD := hD0.mine
  have hS : va_S (ow [(fl, .inr (4, [.ref rm, .ref op, .ref bf, .int sn])), (rm, .inl (cI, 784, .inl (nF C))), (op, .inl (cI, 28, .inl O))]) s.heap s.heap [] := va_S.rf
  have hCp := hC (f * 28 + t)
  have hl := lv_entry ([.ref fl, .int (nI f), .int (nI t), .int (-1)]) (n := 5) (Nat.le_of_ble_eq_true rfl)
  rw [lg_entry_eq]
  generalize (lg_sl ([.ref fl, .int (nI f), .int (nI t), .int (-1)]) ++ List.replicate (5 - (lg_sl ([.ref fl, .int (nI f), .int (nI t), .int (-1)])).length) Slot.unset).toArray = ls at hl ⊢
  have hl : lv_has ls 5 [(0, .ref fl), (1, .int (nI f)), (2, .int (nI t)), (3, .int (-1))] := hl
  refine lv_iload_n hx hb d_FL_change_0 rfl (lv_at hl 1 rfl) ?_
  refine lv_bipush (v := (nI 28)) hx hb d_FL_change_1 (by decide) ?_
  refine lv_imul hx hb d_FL_change_3 ?_
  refine xe_i (pk_mul _ _) ?_
  refine lv_iload_n hx hb d_FL_change_4 rfl (lv_at hl 2 rfl) ?_
  refine lv_iadd hx hb d_FL_change_5 ?_
  refine xe_i (nI_add _ _) ?_
  refine lv_istore (lv' := [(4, .int (nI ((f * 28) + t))), (0, .ref fl), (1, .int (nI f)), (2, .int (nI t)), (3, .int (-1))]) hx hb d_FL_change_6 hl (by decide) rfl (fun ls hl => ?_)
  refine lv_aload_n hx hb d_FL_change_8 rfl (lv_at hl 1 rfl) ?_
  refine va_get (D := (dC, dI)) (ci := 4) (v := .ref rm) (C := R_FL) (T := F_FL) (N := 4) hx hb hts in_FL hown hK.1 hP 0 rfl rfl 0 (by decide) (hts _ wfl_FL_11) (fun _ h9 => h9) rfl d_FL_change_9 ?_
  refine lv_iload hx hb d_FL_change_12 (lv_at hl 0 rfl) ?_
  refine lv_dup2_11 hx hb d_FL_change_14 rfl rfl ?_
  refine x_iald (n := 784) (f := (nF C)) (j := ((f * 28) + t)) hx hb hK.1 hP 1 0 rfl rfl (by omega) (by omega) d_FL_change_15 ?_
  refine xe_i (y := (nI (C ((f * 28) + t)))) rfl ?_
  refine lv_iload_n hx hb d_FL_change_16 rfl (lv_at hl 4 rfl) ?_
  refine lv_iadd hx hb d_FL_change_17 ?_
  refine xe_i (y := (nI (C (f * 28 + t) - 1))) (nI_dec hpos) ?_
  refine x_iast (g := (nF (va_up C ((f * 28) + t) (C (f * 28 + t) - 1)))) hx hb hK.1 hP hD hS 1 0 rfl rfl (nF_up _ _ _) (by omega) (by omega) d_FL_change_18 (fun H locs hP hD hS => ?_)
  have hP : va_P (dC, dI) cls [(fl, .inr (4, [.ref rm, .ref op, .ref bf, .int sn])), (rm, .inl (cI, 784, .inl (nF (va_up C ((f * 28) + t) (C (f * 28 + t) - 1))))), (op, .inl (cI, 28, .inl O))] H := hP
  have hD : va_D (ow [(fl, .inr (4, [.ref rm, .ref op, .ref bf, .int sn])), (rm, .inl (cI, 784, .inl (nF C))), (op, .inl (cI, 28, .inl O))]) [(fl, .inr (4, [.ref rm, .ref op, .ref bf, .int sn])), (rm, .inl (cI, 784, .inl (nF (va_up C ((f * 28) + t) (C (f * 28 + t) - 1))))), (op, .inl (cI, 28, .inl O))] := hD
  refine lv_aload_n hx hb d_FL_change_19 rfl (lv_at hl 1 rfl) ?_
  refine va_get (D := (dC, dI)) (ci := 4) (v := .ref rm) (C := R_FL) (T := F_FL) (N := 4) hx hb hts in_FL hown hK.1 hP 0 rfl rfl 0 (by decide) (hts _ wfl_FL_11) (fun _ h9 => h9) rfl d_FL_change_20 ?_
  refine lv_iload hx hb d_FL_change_23 (lv_at hl 0 rfl) ?_
  refine x_iald (n := 784) (f := (nF (va_up C ((f * 28) + t) (C (f * 28 + t) - 1)))) (j := ((f * 28) + t)) hx hb hK.1 hP 1 0 rfl rfl (by omega) (by omega) d_FL_change_25 ?_
  refine xe_i (y := (nI ((va_up C ((f * 28) + t) (C (f * 28 + t) - 1)) ((f * 28) + t)))) rfl ?_
  refine xe_i (y := (nI (C (f * 28 + t) - 1))) (by rw [va_up_s]) ?_
  refine x_ifN_le (a := (C (f * 28 + t) - 1)) (tgt := 44) hx hb (by omega) d_FL_change_26 (by decide) (fun c_1 => ?_) (fun c_1 => ?_)
  · skip
    refine lv_aload_n hx hb d_FL_change_44 rfl (lv_at hl 1 rfl) ?_
    refine va_get (D := (dC, dI)) (ci := 4) (v := .ref op) (C := R_FL) (T := F_FL) (N := 4) hx hb hts in_FL hown hK.1 hP 0 rfl rfl 1 (by decide) (hts _ wfl_FL_15) (fun _ h9 => h9) rfl d_FL_change_45 ?_
    refine lv_iload_n hx hb d_FL_change_48 rfl (lv_at hl 2 rfl) ?_
    refine lv_dup2_11 hx hb d_FL_change_49 rfl rfl ?_
    refine x_iald (n := 28) (f := O) (j := f) hx hb hK.1 hP 2 0 rfl rfl (by omega) (by omega) d_FL_change_50 ?_
    refine lv_iconst (v := (nI 1)) hx hb d_FL_change_51 (by decide) ?_
    refine lv_iload_n hx hb d_FL_change_52 rfl (lv_at hl 3 rfl) ?_
    refine lv_ishl hx hb d_FL_change_53 ?_
    refine xe_i (y := (sb t)) rfl ?_
    refine lv_iconst (v := (-1)) hx hb d_FL_change_54 (by decide) ?_
    refine lv_ixor hx hb d_FL_change_55 ?_
    refine lv_iand hx hb d_FL_change_56 ?_
    refine x_iast (g := (va_up O f ((O f) &&& ((sb t) ^^^ (-1))))) hx hb hK.1 hP hD hS 2 0 rfl rfl rfl (by omega) (by omega) d_FL_change_57 (fun H locs hP hD hS => ?_)
    have hP : va_P (dC, dI) cls [(fl, .inr (4, [.ref rm, .ref op, .ref bf, .int sn])), (rm, .inl (cI, 784, .inl (nF (va_up C ((f * 28) + t) (C (f * 28 + t) - 1))))), (op, .inl (cI, 28, .inl (va_up O f ((O f) &&& ((sb t) ^^^ (-1))))))] H := hP
    have hD : va_D (ow [(fl, .inr (4, [.ref rm, .ref op, .ref bf, .int sn])), (rm, .inl (cI, 784, .inl (nF C))), (op, .inl (cI, 28, .inl O))]) [(fl, .inr (4, [.ref rm, .ref op, .ref bf, .int sn])), (rm, .inl (cI, 784, .inl (nF (va_up C ((f * 28) + t) (C (f * 28 + t) - 1))))), (op, .inl (cI, 28, .inl (va_up O f ((O f) &&& ((sb t) ^^^ (-1))))))] := hD
    exact W.vret hx hb hr (fun t9 ht9 _ => ⟨⟨((va_up O f ((O f) &&& ((sb t) ^^^ (-1))))), rfl, (OPI_z hO hf28 ht28 c_1), by show va_P (dC, dI) cls _ t9.heap; rw [ht9]; exact hP⟩, hS.F ht9⟩) hS.2.2 d_FL_change_58
  · skip
    refine lv_aload_n hx hb d_FL_change_29 rfl (lv_at hl 1 rfl) ?_
    refine va_get (D := (dC, dI)) (ci := 4) (v := .ref op) (C := R_FL) (T := F_FL) (N := 4) hx hb hts in_FL hown hK.1 hP 0 rfl rfl 1 (by decide) (hts _ wfl_FL_15) (fun _ h9 => h9) rfl d_FL_change_30 ?_
    refine lv_iload_n hx hb d_FL_change_33 rfl (lv_at hl 2 rfl) ?_
    refine lv_dup2_11 hx hb d_FL_change_34 rfl rfl ?_
    refine x_iald (n := 28) (f := O) (j := f) hx hb hK.1 hP 2 0 rfl rfl (by omega) (by omega) d_FL_change_35 ?_
    refine lv_iconst (v := (nI 1)) hx hb d_FL_change_36 (by decide) ?_
    refine lv_iload_n hx hb d_FL_change_37 rfl (lv_at hl 3 rfl) ?_
    refine lv_ishl hx hb d_FL_change_38 ?_
    refine xe_i (y := (sb t)) rfl ?_
    refine lv_ior hx hb d_FL_change_39 ?_
    refine x_iast (g := (va_up O f ((O f) ||| (sb t)))) hx hb hK.1 hP hD hS 2 0 rfl rfl rfl (by omega) (by omega) d_FL_change_40 (fun H locs hP hD hS => ?_)
    have hP : va_P (dC, dI) cls [(fl, .inr (4, [.ref rm, .ref op, .ref bf, .int sn])), (rm, .inl (cI, 784, .inl (nF (va_up C ((f * 28) + t) (C (f * 28 + t) - 1))))), (op, .inl (cI, 28, .inl (va_up O f ((O f) ||| (sb t)))))] H := hP
    have hD : va_D (ow [(fl, .inr (4, [.ref rm, .ref op, .ref bf, .int sn])), (rm, .inl (cI, 784, .inl (nF C))), (op, .inl (cI, 28, .inl O))]) [(fl, .inr (4, [.ref rm, .ref op, .ref bf, .int sn])), (rm, .inl (cI, 784, .inl (nF (va_up C ((f * 28) + t) (C (f * 28 + t) - 1))))), (op, .inl (cI, 28, .inl (va_up O f ((O f) ||| (sb t)))))] := hD
    refine lv_goto (tgt := 58) hx hb d_FL_change_41 (by decide) ?_
    exact W.vret hx hb hr (fun t9 ht9 _ => ⟨⟨((va_up O f ((O f) ||| (sb t)))), rfl, (OPI_p hO hf28 ht28 c_1), by show va_P (dC, dI) cls _ t9.heap; rw [ht9]; exact hP⟩, hS.F ht9⟩) hS.2.2 d_FL_change_58

