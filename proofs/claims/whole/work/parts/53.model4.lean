theorem d_MO_lookAll_0 : decode prog_9_method_15_code 0 = .ok (.aload_n 0, 1) := by decide +kernel
theorem d_MO_lookAll_1 : decode prog_9_method_15_code 1 = .ok (.iconst (-1), 1) := by decide +kernel
theorem d_MO_lookAll_2 : decode prog_9_method_15_code 2 = .ok (.iconst (-1), 1) := by decide +kernel
theorem d_MO_lookAll_3 : decode prog_9_method_15_code 3 = .ok (.iconst 0, 1) := by decide +kernel
theorem d_MO_lookAll_4 : decode prog_9_method_15_code 4 = .ok (.iconst 0, 1) := by decide +kernel
theorem d_MO_lookAll_5 : decode prog_9_method_15_code 5 = .ok (.invokevirtual 63, 3) := by decide +kernel
theorem d_MO_lookAll_8 : decode prog_9_method_15_code 8 = .ok (.return_, 1) := by decide +kernel
set_option maxHeartbeats 4000000 in
set_option maxRecDepth 100000 in
theorem c_MO_lookAll (l : Launch) (dC : Nat → ClassId) (dI : Nat → Nat → Nat) (cI cJ cZ : ClassId) (o fF fG fT fN fW fO fB fS fD : Nat) (th be bz sz : Int32) (nd ar : Nat) (F G : Nat → Nat) (P : Nat → Bool) (hF : ∀ k, F k < 14) (hG : ∀ k, G k < 14) (hnd : nd ≤ 14) (har : ar ≤ 40) (hM : ∀ e, e < ar → F e < nd ∧ G e < nd) (N0 : Nat → Int32) : Met l ⟨"CutPointsModel", "lookAll", "()V"⟩ (Cond.code ⟨"CutPointsModel", "lookAll", "()V"⟩ prog_9_method_15_code 1 none :: TT) (rmk 1 27) (PM dC dI cI cJ cZ [.ref o] [(o, .inr (7, [.int th, .int (nI nd), .int (nI ar), .ref fF, .ref fG, .ref fT, .ref fN, .ref fW, .int be, .ref fO, .ref fB, .int bz, .ref fS, .ref fD, .int sz])), (fF, .inl (cI, 41, .inl (nF F))), (fG, .inl (cI, 41, .inl (nF G))), (fT, .inl (cZ, 41, .inl (bF P))), (fN, .inl (cI, 14, .inl N0))]) (va_Qv (S := Nat → Int32) (fun u9 => NR (lkT ar 0 P (-1) (-1) (nI 0) F G) F G u9) (fun u9 t9 => va_P (dC, dI) cls ([(o, .inr (7, [.int th, .int (nI nd), .int (nI ar), .ref fF, .ref fG, .ref fT, .ref fN, .ref fW, .int be, .ref fO, .ref fB, .int bz, .ref fS, .ref fD, .int sz])), (fF, .inl (cI, 41, .inl (nF F))), (fG, .inl (cI, 41, .inl (nF G))), (fT, .inl (cZ, 41, .inl (bF P))), (fN, .inl (cI, 14, .inl u9))]) t9.heap) (ow [(o, .inr (7, [.int th, .int (nI nd), .int (nI ar), .ref fF, .ref fG, .ref fT, .ref fN, .ref fW, .int be, .ref fO, .ref fB, .int bz, .ref fS, .ref fD, .int sz])), (fF, .inl (cI, 41, .inl (nF F))), (fG, .inl (cI, 41, .inl (nF G))), (fT, .inl (cZ, 41, .inl (bF P))), (fN, .inl (cI, 14, .inl N0))])) 0 0 (ow [(o, .inr (7, [.int th, .int (nI nd), .int (nI ar), .ref fF, .ref fG, .ref fT, .ref fN, .ref fW, .int be, .ref fO, .ref fB, .int bz, .ref fS, .ref fD, .int sz])), (fF, .inl (cI, 41, .inl (nF F))), (fG, .inl (cI, 41, .inl (nF G))), (fT, .inl (cZ, 41, .inl (bF P))), (fN, .inl (cI, 14, .inl N0))]) := by
  refine Met.ofW (cc := prog_9_method_15_code) (maxL := 1) (ret := none) (by decide) rfl ?_
  intro p e s m args below meth c s₁ BB9 hml hv
  obtain ⟨rfl, hP, hK, hD0⟩ := hv
  have hx := BB9.exec
  have hb := BB9.bytes
  have hr := BB9.returns
  have hts : ∀ w ∈ TT, w.before _ s = true := fun w h => atoms_spec (ws := (Cond.code ⟨"CutPointsModel", "lookAll", "()V"⟩ prog_9_method_15_code 1 none :: TT)) BB9.pre w (List.mem_cons_of_mem _ h)
  have hown : s.vm.findClass "CutPointsModel" = some m.cls := findClass_of_methodNamed BB9.named
  have hlocks := BB9.notSynchronized
  have hD := hD0.mine
  have hS : va_S (ow [(o, .inr (7, [.int th, .int (nI nd), .int (nI ar), .ref fF, .ref fG, .ref fT, .ref fN, .ref fW, .int be, .ref fO, .ref fB, .int bz, .ref fS, .ref fD, .int sz])), (fF, .inl (cI, 41, .inl (nF F))), (fG, .inl (cI, 41, .inl (nF G))), (fT, .inl (cZ, 41, .inl (bF P))), (fN, .inl (cI, 14, .inl N0))]) s.heap s.heap [] := va_S.rf
  have hl := lv_entry ([.ref o]) (n := 1) (Nat.le_of_ble_eq_true rfl)
  rw [lg_entry_eq]
  generalize (lg_sl ([.ref o]) ++ List.replicate (1 - (lg_sl ([.ref o])).length) Slot.unset).toArray = ls at hl ⊢
  have hl : lv_has ls 1 [(0, .ref o)] := hl
  refine lv_aload_n hx hb d_MO_lookAll_0 rfl (lv_at hl 0 rfl) ?_
  refine lv_iconst (v := (-1)) hx hb d_MO_lookAll_1 (by decide) ?_
  refine lv_iconst (v := (-1)) hx hb d_MO_lookAll_2 (by decide) ?_
  refine lv_iconst (v := (nI 0)) hx hb d_MO_lookAll_3 (by decide) ?_
  refine lv_iconst (v := (nI 0)) hx hb d_MO_lookAll_4 (by decide) ?_
  refine x_cv (k_V (n := 4) (C := R_MO) (rest := []) ⟨hx, hb, hml, hown, hts⟩ (c_MO_look l dC dI cI cJ cZ o fF fG fT fN fW fO fB fS fD th be bz sz nd ar F G P hF hG N0 (-1) (-1) (nI 0) 0 (by first | assumption | omega)) wml_MO_63 wim_MO_look wsel_MO_look wini_MO wcode_MO_look (by decide +kernel) ⟨Nat.le_of_ble_eq_true rfl, Nat.le_of_ble_eq_true rfl⟩ (preV_M (q := (R_MO, F_MO, 15)) (ci := 7) (q0 := 0) (hP.sub (ws' := [(o, .inr (7, [.int th, .int (nI nd), .int (nI ar), .ref fF, .ref fG, .ref fT, .ref fN, .ref fW, .int be, .ref fO, .ref fB, .int bz, .ref fS, .ref fD, .int sz])), (fF, .inl (cI, 41, .inl (nF F))), (fG, .inl (cI, 41, .inl (nF G))), (fT, .inl (cZ, 41, .inl (bF P))), (fN, .inl (cI, 14, .inl N0))]) [0, 1, 2, 3, 4] rfl) hK (hD.sub (ws' := [(o, .inr (7, [.int th, .int (nI nd), .int (nI ar), .ref fF, .ref fG, .ref fT, .ref fN, .ref fW, .int be, .ref fO, .ref fB, .int bz, .ref fS, .ref fD, .int sz])), (fF, .inl (cI, 41, .inl (nF F))), (fG, .inl (cI, 41, .inl (nF G))), (fT, .inl (cZ, 41, .inl (bF P))), (fN, .inl (cI, 14, .inl N0))]) [0, 1, 2, 3, 4] (by decide) rfl) rfl rfl) rfl hl.1 rfl (Nat.le_of_ble_eq_true rfl) d_MO_lookAll_5 ⟨Nat.zero_le _, Nat.zero_le _⟩) hP hD hS [0, 1, 2, 3, 4] rfl (fun _ => rfl) (fun u_1 H locs hu_1 hP hS => ?_)
  obtain ⟨N9_1, rfl⟩ : ∃ z, z = u_1 := ⟨_, rfl⟩
  have hP : va_P (dC, dI) cls [(o, .inr (7, [.int th, .int (nI nd), .int (nI ar), .ref fF, .ref fG, .ref fT, .ref fN, .ref fW, .int be, .ref fO, .ref fB, .int bz, .ref fS, .ref fD, .int sz])), (fF, .inl (cI, 41, .inl (nF F))), (fG, .inl (cI, 41, .inl (nF G))), (fT, .inl (cZ, 41, .inl (bF P))), (fN, .inl (cI, 14, .inl N9_1))] H := hP
  have hD := hD.addr (ws' := [(o, .inr (7, [.int th, .int (nI nd), .int (nI ar), .ref fF, .ref fG, .ref fT, .ref fN, .ref fW, .int be, .ref fO, .ref fB, .int bz, .ref fS, .ref fD, .int sz])), (fF, .inl (cI, 41, .inl (nF F))), (fG, .inl (cI, 41, .inl (nF G))), (fT, .inl (cZ, 41, .inl (bF P))), (fN, .inl (cI, 14, .inl N9_1))]) rfl
  exact W.vret hx hb hr (fun t9 ht9 _ => ⟨⟨(N9_1), rfl, hu_1, by show va_P (dC, dI) cls _ t9.heap; rw [ht9]; exact hP⟩, hS.F ht9⟩) hS.2.2 d_MO_lookAll_8

theorem d_MO_everyNode_0 : decode prog_9_method_16_code 0 = .ok (.iconst 1, 1) := by decide +kernel
theorem d_MO_everyNode_1 : decode prog_9_method_16_code 1 = .ok (.aload_n 0, 1) := by decide +kernel
theorem d_MO_everyNode_2 : decode prog_9_method_16_code 2 = .ok (.getfield 42, 3) := by decide +kernel
theorem d_MO_everyNode_5 : decode prog_9_method_16_code 5 = .ok (.ishl, 1) := by decide +kernel
theorem d_MO_everyNode_6 : decode prog_9_method_16_code 6 = .ok (.iconst 1, 1) := by decide +kernel
theorem d_MO_everyNode_7 : decode prog_9_method_16_code 7 = .ok (.isub, 1) := by decide +kernel
theorem d_MO_everyNode_8 : decode prog_9_method_16_code 8 = .ok (.ireturn, 1) := by decide +kernel
set_option maxHeartbeats 4000000 in
set_option maxRecDepth 100000 in
theorem c_MO_everyNode (l : Launch) (dC : Nat → ClassId) (dI : Nat → Nat → Nat) (cI cJ cZ : ClassId) (o fF fG fT fN fW fO fB fS fD : Nat) (th be bz sz : Int32) (nd ar : Nat) : Met l ⟨"CutPointsModel", "everyNode", "()I"⟩ (Cond.code ⟨"CutPointsModel", "everyNode", "()I"⟩ prog_9_method_16_code 1 (some .int) :: TT) (rmk 0 0) (PR dC dI cI cJ cZ [.ref o] [(o, .inr (7, [.int th, .int (nI nd), .int (nI ar), .ref fF, .ref fG, .ref fT, .ref fN, .ref fW, .int be, .ref fO, .ref fB, .int bz, .ref fS, .ref fD, .int sz]))]) (vp_Si (fun r => r = sb nd - nI 1)) 0 0 (fun _ => False) := by
  refine Met.ofW (cc := prog_9_method_16_code) (maxL := 1) (ret := (some .int)) (by decide) rfl ?_
  intro p e s m args below meth c s₁ BB9 hml hv
  obtain ⟨rfl, hP, hK⟩ := hv
  have hx := BB9.exec
  have hb := BB9.bytes
  have hr := BB9.returns
  have hts : ∀ w ∈ TT, w.before _ s = true := fun w h => atoms_spec (ws := (Cond.code ⟨"CutPointsModel", "everyNode", "()I"⟩ prog_9_method_16_code 1 (some .int) :: TT)) BB9.pre w (List.mem_cons_of_mem _ h)
  have hown : s.vm.findClass "CutPointsModel" = some m.cls := findClass_of_methodNamed BB9.named
  have hlocks := BB9.notSynchronized
  have hl := lv_entry ([.ref o]) (n := 1) (Nat.le_of_ble_eq_true rfl)
  rw [lg_entry_eq]
  generalize (lg_sl ([.ref o]) ++ List.replicate (1 - (lg_sl ([.ref o])).length) Slot.unset).toArray = ls at hl ⊢
  have hl : lv_has ls 1 [(0, .ref o)] := hl
  refine lv_iconst (v := (nI 1)) hx hb d_MO_everyNode_0 (by decide) ?_
  refine lv_aload_n hx hb d_MO_everyNode_1 rfl (lv_at hl 0 rfl) ?_
  refine va_get (D := (dC, dI)) (ci := 7) (v := .int (nI nd)) (C := R_MO) (T := F_MO) (N := 15) hx hb hts in_MO hown hK.1 hP 0 rfl rfl 1 (by decide) (hts _ wfl_MO_42) (fun _ h9 => h9) rfl d_MO_everyNode_2 ?_
  refine lv_ishl hx hb d_MO_everyNode_5 ?_
  refine xe_i (y := (sb nd)) rfl ?_
  refine lv_iconst (v := (nI 1)) hx hb d_MO_everyNode_6 (by decide) ?_
  refine lv_isub hx hb d_MO_everyNode_7 ?_
  exact W.iret (v := ((sb nd) - (nI 1))) hx hb hr (fun t9 ht9 _ => ⟨_, rfl, rfl, ht9⟩) t_nil d_MO_everyNode_8

theorem d_MO_partSet_0 : decode prog_9_method_17_code 0 = .ok (.aload_n 0, 1) := by decide +kernel
theorem d_MO_partSet_1 : decode prog_9_method_17_code 1 = .ok (.invokevirtual 67, 3) := by decide +kernel
theorem d_MO_partSet_4 : decode prog_9_method_17_code 4 = .ok (.aload_n 0, 1) := by decide +kernel
theorem d_MO_partSet_5 : decode prog_9_method_17_code 5 = .ok (.iconst 1, 1) := by decide +kernel
theorem d_MO_partSet_6 : decode prog_9_method_17_code 6 = .ok (.iload_n 1, 1) := by decide +kernel
theorem d_MO_partSet_7 : decode prog_9_method_17_code 7 = .ok (.ishl, 1) := by decide +kernel
theorem d_MO_partSet_8 : decode prog_9_method_17_code 8 = .ok (.invokevirtual 60, 3) := by decide +kernel
theorem d_MO_partSet_11 : decode prog_9_method_17_code 11 = .ok (.ireturn, 1) := by decide +kernel
set_option maxHeartbeats 4000000 in
set_option maxRecDepth 100000 in
theorem c_MO_partSet (l : Launch) (dC : Nat → ClassId) (dI : Nat → Nat → Nat) (cI cJ cZ : ClassId) (o fF fG fT fN fW fO fB fS fD : Nat) (th be bz sz : Int32) (nd ar : Nat) (F G : Nat → Nat) (P : Nat → Bool) (hF : ∀ k, F k < 14) (hG : ∀ k, G k < 14) (hnd : nd ≤ 14) (har : ar ≤ 40) (hM : ∀ e, e < ar → F e < nd ∧ G e < nd) (N0 : Nat → Int32) (x : Nat) (hxn : x < nd) : Met l ⟨"CutPointsModel", "partSet", "(I)I"⟩ (Cond.code ⟨"CutPointsModel", "partSet", "(I)I"⟩ prog_9_method_17_code 2 (some .int) :: TT) (rmk 2 47) (PM dC dI cI cJ cZ [.ref o, .int (nI x)] [(o, .inr (7, [.int th, .int (nI nd), .int (nI ar), .ref fF, .ref fG, .ref fT, .ref fN, .ref fW, .int be, .ref fO, .ref fB, .int bz, .ref fS, .ref fD, .int sz])), (fF, .inl (cI, 41, .inl (nF F))), (fG, .inl (cI, 41, .inl (nF G))), (fT, .inl (cZ, 41, .inl (bF P))), (fN, .inl (cI, 14, .inl N0))]) (va_Qi (S := Nat → Int32) (fun r u9 => RcT (lkT ar 0 P (-1) (-1) (nI 0) F G) F G (sb x) r ∧ NR (lkT ar 0 P (-1) (-1) (nI 0) F G) F G u9) (fun u9 t9 => va_P (dC, dI) cls ([(o, .inr (7, [.int th, .int (nI nd), .int (nI ar), .ref fF, .ref fG, .ref fT, .ref fN, .ref fW, .int be, .ref fO, .ref fB, .int bz, .ref fS, .ref fD, .int sz])), (fF, .inl (cI, 41, .inl (nF F))), (fG, .inl (cI, 41, .inl (nF G))), (fT, .inl (cZ, 41, .inl (bF P))), (fN, .inl (cI, 14, .inl u9))]) t9.heap) (ow [(o, .inr (7, [.int th, .int (nI nd), .int (nI ar), .ref fF, .ref fG, .ref fT, .ref fN, .ref fW, .int be, .ref fO, .ref fB, .int bz, .ref fS, .ref fD, .int sz])), (fF, .inl (cI, 41, .inl (nF F))), (fG, .inl (cI, 41, .inl (nF G))), (fT, .inl (cZ, 41, .inl (bF P))), (fN, .inl (cI, 14, .inl N0))])) 0 0 (ow [(o, .inr (7, [.int th, .int (nI nd), .int (nI ar), .ref fF, .ref fG, .ref fT, .ref fN, .ref fW, .int be, .ref fO, .ref fB, .int bz, .ref fS, .ref fD, .int sz])), (fF, .inl (cI, 41, .inl (nF F))), (fG, .inl (cI, 41, .inl (nF G))), (fT, .inl (cZ, 41, .inl (bF P))), (fN, .inl (cI, 14, .inl N0))]) := by
  refine Met.ofW (cc := prog_9_method_17_code) (maxL := 2) (ret := (some .int)) (by decide) rfl ?_
  intro p e s m args below meth c s₁ BB9 hml hv
  obtain ⟨rfl, hP, hK, hD0⟩ := hv
  have hx := BB9.exec
  have hb := BB9.bytes
  have hr := BB9.returns
  have hts : ∀ w ∈ TT, w.before _ s = true := fun w h => atoms_spec (ws := (Cond.code ⟨"CutPointsModel", "partSet", "(I)I"⟩ prog_9_method_17_code 2 (some .int) :: TT)) BB9.pre w (List.mem_cons_of_mem _ h)
  have hown : s.vm.findClass "CutPointsModel" = some m.cls := findClass_of_methodNamed BB9.named
  have hlocks := BB9.notSynchronized
  have hD := hD0.mine
  have hS : va_S (ow [(o, .inr (7, [.int th, .int (nI nd), .int (nI ar), .ref fF, .ref fG, .ref fT, .ref fN, .ref fW, .int be, .ref fO, .ref fB, .int bz, .ref fS, .ref fD, .int sz])), (fF, .inl (cI, 41, .inl (nF F))), (fG, .inl (cI, 41, .inl (nF G))), (fT, .inl (cZ, 41, .inl (bF P))), (fN, .inl (cI, 14, .inl N0))]) s.heap s.heap [] := va_S.rf
  have hl := lv_entry ([.ref o, .int (nI x)]) (n := 2) (Nat.le_of_ble_eq_true rfl)
  rw [lg_entry_eq]
  generalize (lg_sl ([.ref o, .int (nI x)]) ++ List.replicate (2 - (lg_sl ([.ref o, .int (nI x)])).length) Slot.unset).toArray = ls at hl ⊢
  have hl : lv_has ls 2 [(0, .ref o), (1, .int (nI x))] := hl
  refine lv_aload_n hx hb d_MO_partSet_0 rfl (lv_at hl 0 rfl) ?_
  refine x_cv (k_V (n := 0) (C := R_MO) (rest := []) ⟨hx, hb, hml, hown, hts⟩ (c_MO_lookAll l dC dI cI cJ cZ o fF fG fT fN fW fO fB fS fD th be bz sz nd ar F G P hF hG (by first | assumption | omega) (by first | assumption | omega) hM N0) wml_MO_67 wim_MO_lookAll wsel_MO_lookAll wini_MO wcode_MO_lookAll (by decide +kernel) ⟨Nat.le_of_ble_eq_true rfl, Nat.le_of_ble_eq_true rfl⟩ (preV_M (q := (R_MO, F_MO, 15)) (ci := 7) (q0 := 0) (hP.sub (ws' := [(o, .inr (7, [.int th, .int (nI nd), .int (nI ar), .ref fF, .ref fG, .ref fT, .ref fN, .ref fW, .int be, .ref fO, .ref fB, .int bz, .ref fS, .ref fD, .int sz])), (fF, .inl (cI, 41, .inl (nF F))), (fG, .inl (cI, 41, .inl (nF G))), (fT, .inl (cZ, 41, .inl (bF P))), (fN, .inl (cI, 14, .inl N0))]) [0, 1, 2, 3, 4] rfl) hK (hD.sub (ws' := [(o, .inr (7, [.int th, .int (nI nd), .int (nI ar), .ref fF, .ref fG, .ref fT, .ref fN, .ref fW, .int be, .ref fO, .ref fB, .int bz, .ref fS, .ref fD, .int sz])), (fF, .inl (cI, 41, .inl (nF F))), (fG, .inl (cI, 41, .inl (nF G))), (fT, .inl (cZ, 41, .inl (bF P))), (fN, .inl (cI, 14, .inl N0))]) [0, 1, 2, 3, 4] (by decide) rfl) rfl rfl) rfl hl.1 rfl (Nat.le_of_ble_eq_true rfl) d_MO_partSet_1 ⟨Nat.zero_le _, Nat.zero_le _⟩) hP hD hS [0, 1, 2, 3, 4] rfl (fun _ => rfl) (fun u_1 H locs hu_1 hP hS => ?_)
  obtain ⟨N9_1, rfl⟩ : ∃ z, z = u_1 := ⟨_, rfl⟩
  have hP : va_P (dC, dI) cls [(o, .inr (7, [.int th, .int (nI nd), .int (nI ar), .ref fF, .ref fG, .ref fT, .ref fN, .ref fW, .int be, .ref fO, .ref fB, .int bz, .ref fS, .ref fD, .int sz])), (fF, .inl (cI, 41, .inl (nF F))), (fG, .inl (cI, 41, .inl (nF G))), (fT, .inl (cZ, 41, .inl (bF P))), (fN, .inl (cI, 14, .inl N9_1))] H := hP
  have hD := hD.addr (ws' := [(o, .inr (7, [.int th, .int (nI nd), .int (nI ar), .ref fF, .ref fG, .ref fT, .ref fN, .ref fW, .int be, .ref fO, .ref fB, .int bz, .ref fS, .ref fD, .int sz])), (fF, .inl (cI, 41, .inl (nF F))), (fG, .inl (cI, 41, .inl (nF G))), (fT, .inl (cZ, 41, .inl (bF P))), (fN, .inl (cI, 14, .inl N9_1))]) rfl
  refine lv_aload_n hx hb d_MO_partSet_4 rfl (lv_at hl 0 rfl) ?_
  refine lv_iconst (v := (nI 1)) hx hb d_MO_partSet_5 (by decide) ?_
  refine lv_iload_n hx hb d_MO_partSet_6 rfl (lv_at hl 1 rfl) ?_
  refine lv_ishl hx hb d_MO_partSet_7 ?_
  refine xe_i (y := (sb x)) rfl ?_
  refine vp_callSi (va_Run.run (k_V (n := 1) (C := R_MO) (rest := []) ⟨hx, hb, hml, hown, hts⟩ (c_MO_reach l dC dI cI cJ cZ o fF fG fT fN fW fO fB fS fD th be bz sz nd ar (lkT ar 0 P (-1) (-1) (nI 0) F G) F G N9_1 hu_1 (tEn_lk (mo := 0) hM) (sb x) (by first | assumption | omega)) wml_MO_60 wim_MO_reach wsel_MO_reach wini_MO wcode_MO_reach (by decide +kernel) ⟨Nat.le_of_ble_eq_true rfl, Nat.le_of_ble_eq_true rfl⟩ (preV_R (q := (R_MO, F_MO, 15)) (ci := 7) (q0 := 0) (hP.sub (ws' := [(o, .inr (7, [.int th, .int (nI nd), .int (nI ar), .ref fF, .ref fG, .ref fT, .ref fN, .ref fW, .int be, .ref fO, .ref fB, .int bz, .ref fS, .ref fD, .int sz])), (fN, .inl (cI, 14, .inl N9_1))]) [0, 4] rfl) hK rfl rfl) rfl hl.1 rfl (Nat.le_of_ble_eq_true rfl) d_MO_partSet_8 ⟨Nat.zero_le _, Nat.zero_le _⟩)) (fun r_2 hr_3 => ?_)
  exact W.iret (v := r_2) hx hb hr (fun t9 ht9 _ => ⟨⟨_, (N9_1), rfl, ⟨hr_3, hu_1⟩, by show va_P (dC, dI) cls _ t9.heap; rw [ht9]; exact hP⟩, hS.F ht9⟩) hS.2.2 d_MO_partSet_11

theorem d_MO_isBridge_0 : decode prog_9_method_18_code 0 = .ok (.aload_n 0, 1) := by decide +kernel
theorem d_MO_isBridge_1 : decode prog_9_method_18_code 1 = .ok (.iload_n 1, 1) := by decide +kernel
theorem d_MO_isBridge_2 : decode prog_9_method_18_code 2 = .ok (.iconst (-1), 1) := by decide +kernel
theorem d_MO_isBridge_3 : decode prog_9_method_18_code 3 = .ok (.iconst 0, 1) := by decide +kernel
theorem d_MO_isBridge_4 : decode prog_9_method_18_code 4 = .ok (.iconst 0, 1) := by decide +kernel
theorem d_MO_isBridge_5 : decode prog_9_method_18_code 5 = .ok (.invokevirtual 63, 3) := by decide +kernel
theorem d_MO_isBridge_8 : decode prog_9_method_18_code 8 = .ok (.aload_n 0, 1) := by decide +kernel
theorem d_MO_isBridge_9 : decode prog_9_method_18_code 9 = .ok (.iconst 1, 1) := by decide +kernel
theorem d_MO_isBridge_10 : decode prog_9_method_18_code 10 = .ok (.aload_n 0, 1) := by decide +kernel
theorem d_MO_isBridge_11 : decode prog_9_method_18_code 11 = .ok (.getfield 7, 3) := by decide +kernel
theorem d_MO_isBridge_14 : decode prog_9_method_18_code 14 = .ok (.iload_n 1, 1) := by decide +kernel
theorem d_MO_isBridge_15 : decode prog_9_method_18_code 15 = .ok (.iaload, 1) := by decide +kernel
theorem d_MO_isBridge_16 : decode prog_9_method_18_code 16 = .ok (.ishl, 1) := by decide +kernel
theorem d_MO_isBridge_17 : decode prog_9_method_18_code 17 = .ok (.invokevirtual 60, 3) := by decide +kernel
theorem d_MO_isBridge_20 : decode prog_9_method_18_code 20 = .ok (.aload_n 0, 1) := by decide +kernel
theorem d_MO_isBridge_21 : decode prog_9_method_18_code 21 = .ok (.getfield 13, 3) := by decide +kernel
theorem d_MO_isBridge_24 : decode prog_9_method_18_code 24 = .ok (.iload_n 1, 1) := by decide +kernel
theorem d_MO_isBridge_25 : decode prog_9_method_18_code 25 = .ok (.iaload, 1) := by decide +kernel
theorem d_MO_isBridge_26 : decode prog_9_method_18_code 26 = .ok (.ishr, 1) := by decide +kernel
theorem d_MO_isBridge_27 : decode prog_9_method_18_code 27 = .ok (.iconst 1, 1) := by decide +kernel
theorem d_MO_isBridge_28 : decode prog_9_method_18_code 28 = .ok (.iand, 1) := by decide +kernel
theorem d_MO_isBridge_29 : decode prog_9_method_18_code 29 = .ok (.ifCond .ne 7, 3) := by decide +kernel
theorem d_MO_isBridge_32 : decode prog_9_method_18_code 32 = .ok (.iconst 1, 1) := by decide +kernel
theorem d_MO_isBridge_33 : decode prog_9_method_18_code 33 = .ok (.goto 4, 3) := by decide +kernel
theorem d_MO_isBridge_36 : decode prog_9_method_18_code 36 = .ok (.iconst 0, 1) := by decide +kernel
theorem d_MO_isBridge_37 : decode prog_9_method_18_code 37 = .ok (.ireturn, 1) := by decide +kernel
set_option maxHeartbeats 4000000 in
set_option maxRecDepth 100000 in
theorem c_MO_isBridge (l : Launch) (dC : Nat → ClassId) (dI : Nat → Nat → Nat) (cI cJ cZ : ClassId) (o fF fG fT fN fW fO fB fS fD : Nat) (th be bz sz : Int32) (nd ar : Nat) (F G : Nat → Nat) (P : Nat → Bool) (hF : ∀ k, F k < 14) (hG : ∀ k, G k < 14) (hnd : nd ≤ 14) (har : ar ≤ 40) (hM : ∀ e, e < ar → F e < nd ∧ G e < nd) (N0 : Nat → Int32) (x : Nat) (hxa : x < ar) : Met l ⟨"CutPointsModel", "isBridge", "(I)Z"⟩ (Cond.code ⟨"CutPointsModel", "isBridge", "(I)Z"⟩ prog_9_method_18_code 2 (some .boolean) :: TT) (rmk 1 27) (PM dC dI cI cJ cZ [.ref o, .int (nI x)] [(o, .inr (7, [.int th, .int (nI nd), .int (nI ar), .ref fF, .ref fG, .ref fT, .ref fN, .ref fW, .int be, .ref fO, .ref fB, .int bz, .ref fS, .ref fD, .int sz])), (fF, .inl (cI, 41, .inl (nF F))), (fG, .inl (cI, 41, .inl (nF G))), (fT, .inl (cZ, 41, .inl (bF P))), (fN, .inl (cI, 14, .inl N0))]) (va_Qi (S := Nat → Int32) (fun r u9 => r = bI (!dc (Rc (ad (lkT ar 0 P (nI x) (-1) (nI 0) F G) F G) (F x) (G x)))) (fun u9 t9 => va_P (dC, dI) cls ([(o, .inr (7, [.int th, .int (nI nd), .int (nI ar), .ref fF, .ref fG, .ref fT, .ref fN, .ref fW, .int be, .ref fO, .ref fB, .int bz, .ref fS, .ref fD, .int sz])), (fF, .inl (cI, 41, .inl (nF F))), (fG, .inl (cI, 41, .inl (nF G))), (fT, .inl (cZ, 41, .inl (bF P))), (fN, .inl (cI, 14, .inl u9))]) t9.heap) (ow [(o, .inr (7, [.int th, .int (nI nd), .int (nI ar), .ref fF, .ref fG, .ref fT, .ref fN, .ref fW, .int be, .ref fO, .ref fB, .int bz, .ref fS, .ref fD, .int sz])), (fF, .inl (cI, 41, .inl (nF F))), (fG, .inl (cI, 41, .inl (nF G))), (fT, .inl (cZ, 41, .inl (bF P))), (fN, .inl (cI, 14, .inl N0))])) 0 0 (ow [(o, .inr (7, [.int th, .int (nI nd), .int (nI ar), .ref fF, .ref fG, .ref fT, .ref fN, .ref fW, .int be, .ref fO, .ref fB, .int bz, .ref fS, .ref fD, .int sz])), (fF, .inl (cI, 41, .inl (nF F))), (fG, .inl (cI, 41, .inl (nF G))), (fT, .inl (cZ, 41, .inl (bF P))), (fN, .inl (cI, 14, .inl N0))]) := by
  refine Met.ofW (cc := prog_9_method_18_code) (maxL := 2) (ret := (some .boolean)) (by decide) rfl ?_
  intro p e s m args below meth c s₁ BB9 hml hv
  obtain ⟨rfl, hP, hK, hD0⟩ := hv
  have hx := BB9.exec
  have hb := BB9.bytes
  have hr := BB9.returns
  have hts : ∀ w ∈ TT, w.before _ s = true := fun w h => atoms_spec (ws := (Cond.code ⟨"CutPointsModel", "isBridge", "(I)Z"⟩ prog_9_method_18_code 2 (some .boolean) :: TT)) BB9.pre w (List.mem_cons_of_mem _ h)
  have hown : s.vm.findClass "CutPointsModel" = some m.cls := findClass_of_methodNamed BB9.named
  have hlocks := BB9.notSynchronized
  have hD := hD0.mine
  have hS : va_S (ow [(o, .inr (7, [.int th, .int (nI nd), .int (nI ar), .ref fF, .ref fG, .ref fT, .ref fN, .ref fW, .int be, .ref fO, .ref fB, .int bz, .ref fS, .ref fD, .int sz])), (fF, .inl (cI, 41, .inl (nF F))), (fG, .inl (cI, 41, .inl (nF G))), (fT, .inl (cZ, 41, .inl (bF P))), (fN, .inl (cI, 14, .inl N0))]) s.heap s.heap [] := va_S.rf
  have hl := lv_entry ([.ref o, .int (nI x)]) (n := 2) (Nat.le_of_ble_eq_true rfl)
  rw [lg_entry_eq]
  generalize (lg_sl ([.ref o, .int (nI x)]) ++ List.replicate (2 - (lg_sl ([.ref o, .int (nI x)])).length) Slot.unset).toArray = ls at hl ⊢
  have hl : lv_has ls 2 [(0, .ref o), (1, .int (nI x))] := hl
  refine lv_aload_n hx hb d_MO_isBridge_0 rfl (lv_at hl 0 rfl) ?_
  refine lv_iload_n hx hb d_MO_isBridge_1 rfl (lv_at hl 1 rfl) ?_
  refine lv_iconst (v := (-1)) hx hb d_MO_isBridge_2 (by decide) ?_
  refine lv_iconst (v := (nI 0)) hx hb d_MO_isBridge_3 (by decide) ?_
  refine lv_iconst (v := (nI 0)) hx hb d_MO_isBridge_4 (by decide) ?_
  refine x_cv (k_V (n := 4) (C := R_MO) (rest := []) ⟨hx, hb, hml, hown, hts⟩ (c_MO_look l dC dI cI cJ cZ o fF fG fT fN fW fO fB fS fD th be bz sz nd ar F G P hF hG N0 (nI x) (-1) (nI 0) 0 (by first | assumption | omega)) wml_MO_63 wim_MO_look wsel_MO_look wini_MO wcode_MO_look (by decide +kernel) ⟨Nat.le_of_ble_eq_true rfl, Nat.le_of_ble_eq_true rfl⟩ (preV_M (q := (R_MO, F_MO, 15)) (ci := 7) (q0 := 0) (hP.sub (ws' := [(o, .inr (7, [.int th, .int (nI nd), .int (nI ar), .ref fF, .ref fG, .ref fT, .ref fN, .ref fW, .int be, .ref fO, .ref fB, .int bz, .ref fS, .ref fD, .int sz])), (fF, .inl (cI, 41, .inl (nF F))), (fG, .inl (cI, 41, .inl (nF G))), (fT, .inl (cZ, 41, .inl (bF P))), (fN, .inl (cI, 14, .inl N0))]) [0, 1, 2, 3, 4] rfl) hK (hD.sub (ws' := [(o, .inr (7, [.int th, .int (nI nd), .int (nI ar), .ref fF, .ref fG, .ref fT, .ref fN, .ref fW, .int be, .ref fO, .ref fB, .int bz, .ref fS, .ref fD, .int sz])), (fF, .inl (cI, 41, .inl (nF F))), (fG, .inl (cI, 41, .inl (nF G))), (fT, .inl (cZ, 41, .inl (bF P))), (fN, .inl (cI, 14, .inl N0))]) [0, 1, 2, 3, 4] (by decide) rfl) rfl rfl) rfl hl.1 rfl (Nat.le_of_ble_eq_true rfl) d_MO_isBridge_5 ⟨Nat.zero_le _, Nat.zero_le _⟩) hP hD hS [0, 1, 2, 3, 4] rfl (fun _ => rfl) (fun u_1 H locs hu_1 hP hS => ?_)
  obtain ⟨N9_1, rfl⟩ : ∃ z, z = u_1 := ⟨_, rfl⟩
  have hP : va_P (dC, dI) cls [(o, .inr (7, [.int th, .int (nI nd), .int (nI ar), .ref fF, .ref fG, .ref fT, .ref fN, .ref fW, .int be, .ref fO, .ref fB, .int bz, .ref fS, .ref fD, .int sz])), (fF, .inl (cI, 41, .inl (nF F))), (fG, .inl (cI, 41, .inl (nF G))), (fT, .inl (cZ, 41, .inl (bF P))), (fN, .inl (cI, 14, .inl N9_1))] H := hP
  have hD := hD.addr (ws' := [(o, .inr (7, [.int th, .int (nI nd), .int (nI ar), .ref fF, .ref fG, .ref fT, .ref fN, .ref fW, .int be, .ref fO, .ref fB, .int bz, .ref fS, .ref fD, .int sz])), (fF, .inl (cI, 41, .inl (nF F))), (fG, .inl (cI, 41, .inl (nF G))), (fT, .inl (cZ, 41, .inl (bF P))), (fN, .inl (cI, 14, .inl N9_1))]) rfl
  refine lv_aload_n hx hb d_MO_isBridge_8 rfl (lv_at hl 0 rfl) ?_
  refine lv_iconst (v := (nI 1)) hx hb d_MO_isBridge_9 (by decide) ?_
  refine lv_aload_n hx hb d_MO_isBridge_10 rfl (lv_at hl 0 rfl) ?_
  refine va_get (D := (dC, dI)) (ci := 7) (v := .ref fF) (C := R_MO) (T := F_MO) (N := 15) hx hb hts in_MO hown hK.1 hP 0 rfl rfl 3 (by decide) (hts _ wfl_MO_7) (fun _ h9 => h9) rfl d_MO_isBridge_11 ?_
  refine lv_iload_n hx hb d_MO_isBridge_14 rfl (lv_at hl 1 rfl) ?_
  refine x_iald (n := 41) (f := (nF F)) (j := x) hx hb hK.1 hP 1 0 rfl rfl (by omega) (by omega) d_MO_isBridge_15 ?_
  refine xe_i (y := (nI (F x))) rfl ?_
  refine lv_ishl hx hb d_MO_isBridge_16 ?_
  refine xe_i (y := (sb (F x))) rfl ?_
  refine vp_callSi (va_Run.run (k_V (n := 1) (C := R_MO) (rest := []) ⟨hx, hb, hml, hown, hts⟩ (c_MO_reach l dC dI cI cJ cZ o fF fG fT fN fW fO fB fS fD th be bz sz nd ar (lkT ar 0 P (nI x) (-1) (nI 0) F G) F G N9_1 hu_1 (tEn_lk (mo := 0) hM) (sb (F x)) (by first | assumption | omega)) wml_MO_60 wim_MO_reach wsel_MO_reach wini_MO wcode_MO_reach (by decide +kernel) ⟨Nat.le_of_ble_eq_true rfl, Nat.le_of_ble_eq_true rfl⟩ (preV_R (q := (R_MO, F_MO, 15)) (ci := 7) (q0 := 0) (hP.sub (ws' := [(o, .inr (7, [.int th, .int (nI nd), .int (nI ar), .ref fF, .ref fG, .ref fT, .ref fN, .ref fW, .int be, .ref fO, .ref fB, .int bz, .ref fS, .ref fD, .int sz])), (fN, .inl (cI, 14, .inl N9_1))]) [0, 4] rfl) hK rfl rfl) rfl hl.1 rfl (Nat.le_of_ble_eq_true rfl) d_MO_isBridge_17 ⟨Nat.zero_le _, Nat.zero_le _⟩)) (fun r_2 hr_3 => ?_)
  refine lv_aload_n hx hb d_MO_isBridge_20 rfl (lv_at hl 0 rfl) ?_
  refine va_get (D := (dC, dI)) (ci := 7) (v := .ref fG) (C := R_MO) (T := F_MO) (N := 15) hx hb hts in_MO hown hK.1 hP 0 rfl rfl 4 (by decide) (hts _ wfl_MO_13) (fun _ h9 => h9) rfl d_MO_isBridge_21 ?_
  refine lv_iload_n hx hb d_MO_isBridge_24 rfl (lv_at hl 1 rfl) ?_
  refine x_iald (n := 41) (f := (nF G)) (j := x) hx hb hK.1 hP 2 0 rfl rfl (by omega) (by omega) d_MO_isBridge_25 ?_
  refine xe_i (y := (nI (G x))) rfl ?_
  refine lv_ishr hx hb d_MO_isBridge_26 ?_
  refine lv_iconst (v := (nI 1)) hx hb d_MO_isBridge_27 (by decide) ?_
  refine lv_iand hx hb d_MO_isBridge_28 ?_
  refine xe_i (y := (bI (bt r_2 (G x)))) (sh1 (Nat.lt_trans (hG _) (by decide))) ?_
  refine x_if_ne (tgt := 36) hx hb d_MO_isBridge_29 (by decide) (fun c_4 => ?_) (fun c_4 => ?_)
  · skip
    refine lv_iconst (v := (nI 0)) hx hb d_MO_isBridge_36 (by decide) ?_
    refine xe_i (y := bI false) rfl ?_
    exact W.zret (v := (bI false)) hx hb hr (bI_nar _) (fun t9 ht9 _ => ⟨⟨_, (N9_1), rfl, (by rw [dc_t.mpr ((hr_3.one (Nat.lt_trans (hF _) (by decide)) _).mp c_4)]; rfl), by show va_P (dC, dI) cls _ t9.heap; rw [ht9]; exact hP⟩, hS.F ht9⟩) hS.2.2 d_MO_isBridge_37
  · skip
    refine lv_iconst (v := (nI 1)) hx hb d_MO_isBridge_32 (by decide) ?_
    refine lv_goto (tgt := 37) hx hb d_MO_isBridge_33 (by decide) ?_
    refine xe_i (y := bI true) rfl ?_
    exact W.zret (v := (bI true)) hx hb hr (bI_nar _) (fun t9 ht9 _ => ⟨⟨_, (N9_1), rfl, (by rw [dc_f.mpr (fun q9 => by rw [(hr_3.one (Nat.lt_trans (hF _) (by decide)) _).mpr q9] at c_4; cases c_4)]; rfl), by show va_P (dC, dI) cls _ t9.heap; rw [ht9]; exact hP⟩, hS.F ht9⟩) hS.2.2 d_MO_isBridge_37

theorem d_MO_fallsOf_0 : decode prog_9_method_19_code 0 = .ok (.aload_n 0, 1) := by decide +kernel
theorem d_MO_fallsOf_1 : decode prog_9_method_19_code 1 = .ok (.iload_n 1, 1) := by decide +kernel
theorem d_MO_fallsOf_2 : decode prog_9_method_19_code 2 = .ok (.invokevirtual 70, 3) := by decide +kernel
theorem d_MO_fallsOf_5 : decode prog_9_method_19_code 5 = .ok (.iconst 1, 1) := by decide +kernel
theorem d_MO_fallsOf_6 : decode prog_9_method_19_code 6 = .ok (.iload_n 1, 1) := by decide +kernel
theorem d_MO_fallsOf_7 : decode prog_9_method_19_code 7 = .ok (.ishl, 1) := by decide +kernel
theorem d_MO_fallsOf_8 : decode prog_9_method_19_code 8 = .ok (.iconst (-1), 1) := by decide +kernel
theorem d_MO_fallsOf_9 : decode prog_9_method_19_code 9 = .ok (.ixor, 1) := by decide +kernel
theorem d_MO_fallsOf_10 : decode prog_9_method_19_code 10 = .ok (.iand, 1) := by decide +kernel
theorem d_MO_fallsOf_11 : decode prog_9_method_19_code 11 = .ok (.istore_n 2, 1) := by decide +kernel
theorem d_MO_fallsOf_12 : decode prog_9_method_19_code 12 = .ok (.aload_n 0, 1) := by decide +kernel
theorem d_MO_fallsOf_13 : decode prog_9_method_19_code 13 = .ok (.iconst (-1), 1) := by decide +kernel
theorem d_MO_fallsOf_14 : decode prog_9_method_19_code 14 = .ok (.iconst (-1), 1) := by decide +kernel
theorem d_MO_fallsOf_15 : decode prog_9_method_19_code 15 = .ok (.iconst 1, 1) := by decide +kernel
theorem d_MO_fallsOf_16 : decode prog_9_method_19_code 16 = .ok (.iload_n 1, 1) := by decide +kernel
theorem d_MO_fallsOf_17 : decode prog_9_method_19_code 17 = .ok (.ishl, 1) := by decide +kernel
theorem d_MO_fallsOf_18 : decode prog_9_method_19_code 18 = .ok (.iconst 0, 1) := by decide +kernel
theorem d_MO_fallsOf_19 : decode prog_9_method_19_code 19 = .ok (.invokevirtual 63, 3) := by decide +kernel
theorem d_MO_fallsOf_22 : decode prog_9_method_19_code 22 = .ok (.aload_n 0, 1) := by decide +kernel
theorem d_MO_fallsOf_23 : decode prog_9_method_19_code 23 = .ok (.iload_n 2, 1) := by decide +kernel
theorem d_MO_fallsOf_24 : decode prog_9_method_19_code 24 = .ok (.invokevirtual 73, 3) := by decide +kernel
theorem d_MO_fallsOf_27 : decode prog_9_method_19_code 27 = .ok (.ireturn, 1) := by decide +kernel
set_option maxHeartbeats 4000000 in
set_option maxRecDepth 100000 in
theorem c_MO_fallsOf (l : Launch) (dC : Nat → ClassId) (dI : Nat → Nat → Nat) (cI cJ cZ : ClassId) (o fF fG fT fN fW fO fB fS fD : Nat) (th be bz sz : Int32) (nd ar : Nat) (F G : Nat → Nat) (P : Nat → Bool) (hF : ∀ k, F k < 14) (hG : ∀ k, G k < 14) (hnd : nd ≤ 14) (har : ar ≤ 40) (hM : ∀ e, e < ar → F e < nd ∧ G e < nd) (N0 : Nat → Int32) (x : Nat) (hxn : x < nd) : Met l ⟨"CutPointsModel", "fallsOf", "(I)I"⟩ (Cond.code ⟨"CutPointsModel", "fallsOf", "(I)I"⟩ prog_9_method_19_code 3 (some .int) :: TT) (rmk 3 68) (PM dC dI cI cJ cZ [.ref o, .int (nI x)] [(o, .inr (7, [.int th, .int (nI nd), .int (nI ar), .ref fF, .ref fG, .ref fT, .ref fN, .ref fW, .int be, .ref fO, .ref fB, .int bz, .ref fS, .ref fD, .int sz])), (fF, .inl (cI, 41, .inl (nF F))), (fG, .inl (cI, 41, .inl (nF G))), (fT, .inl (cZ, 41, .inl (bF P))), (fN, .inl (cI, 14, .inl N0))]) (va_Qi (S := Nat → Int32) (fun r u9 => ∃ kk, r = nI kk ∧ ∃ pt, RcT (lkT ar 0 P (-1) (-1) (nI 0) F G) F G (sb x) pt ∧ kk = cn (ldB (lkT ar 0 P (-1) (-1) (sb x) F G) F G (pt &&& (sb x ^^^ (-1)))) 16) (fun u9 t9 => va_P (dC, dI) cls ([(o, .inr (7, [.int th, .int (nI nd), .int (nI ar), .ref fF, .ref fG, .ref fT, .ref fN, .ref fW, .int be, .ref fO, .ref fB, .int bz, .ref fS, .ref fD, .int sz])), (fF, .inl (cI, 41, .inl (nF F))), (fG, .inl (cI, 41, .inl (nF G))), (fT, .inl (cZ, 41, .inl (bF P))), (fN, .inl (cI, 14, .inl u9))]) t9.heap) (ow [(o, .inr (7, [.int th, .int (nI nd), .int (nI ar), .ref fF, .ref fG, .ref fT, .ref fN, .ref fW, .int be, .ref fO, .ref fB, .int bz, .ref fS, .ref fD, .int sz])), (fF, .inl (cI, 41, .inl (nF F))), (fG, .inl (cI, 41, .inl (nF G))), (fT, .inl (cZ, 41, .inl (bF P))), (fN, .inl (cI, 14, .inl N0))])) 0 0 (ow [(o, .inr (7, [.int th, .int (nI nd), .int (nI ar), .ref fF, .ref fG, .ref fT, .ref fN, .ref fW, .int be, .ref fO, .ref fB, .int bz, .ref fS, .ref fD, .int sz])), (fF, .inl (cI, 41, .inl (nF F))), (fG, .inl (cI, 41, .inl (nF G))), (fT, .inl (cZ, 41, .inl (bF P))), (fN, .inl (cI, 14, .inl N0))]) := by
  refine Met.ofW (cc := prog_9_method_19_code) (maxL := 3) (ret := (some .int)) (by decide) rfl ?_
  intro p e s m args below meth c s₁ BB9 hml hv
  obtain ⟨rfl, hP, hK, hD0⟩ := hv
  have hx := BB9.exec
  have hb := BB9.bytes
  have hr := BB9.returns
  have hts : ∀ w ∈ TT, w.before _ s = true := fun w h => atoms_spec (ws := (Cond.code ⟨"CutPointsModel", "fallsOf", "(I)I"⟩ prog_9_method_19_code 3 (some .int) :: TT)) BB9.pre w (List.mem_cons_of_mem _ h)
  have hown : s.vm.findClass "CutPointsModel" = some m.cls := findClass_of_methodNamed BB9.named
  have hlocks := BB9.notSynchronized
  have hD := hD0.mine
  have hS : va_S (ow [(o, .inr (7, [.int th, .int (nI nd), .int (nI ar), .ref fF, .ref fG, .ref fT, .ref fN, .ref fW, .int be, .ref fO, .ref fB, .int bz, .ref fS, .ref fD, .int sz])), (fF, .inl (cI, 41, .inl (nF F))), (fG, .inl (cI, 41, .inl (nF G))), (fT, .inl (cZ, 41, .inl (bF P))), (fN, .inl (cI, 14, .inl N0))]) s.heap s.heap [] := va_S.rf
  have hl := lv_entry ([.ref o, .int (nI x)]) (n := 3) (Nat.le_of_ble_eq_true rfl)
  rw [lg_entry_eq]
  generalize (lg_sl ([.ref o, .int (nI x)]) ++ List.replicate (3 - (lg_sl ([.ref o, .int (nI x)])).length) Slot.unset).toArray = ls at hl ⊢
  have hl : lv_has ls 3 [(0, .ref o), (1, .int (nI x))] := hl
  refine lv_aload_n hx hb d_MO_fallsOf_0 rfl (lv_at hl 0 rfl) ?_
  refine lv_iload_n hx hb d_MO_fallsOf_1 rfl (lv_at hl 1 rfl) ?_
  refine x_ci (k_V (n := 1) (C := R_MO) (rest := []) ⟨hx, hb, hml, hown, hts⟩ (c_MO_partSet l dC dI cI cJ cZ o fF fG fT fN fW fO fB fS fD th be bz sz nd ar F G P hF hG (by first | assumption | omega) (by first | assumption | omega) hM N0 x (by first | assumption | omega)) wml_MO_70 wim_MO_partSet wsel_MO_partSet wini_MO wcode_MO_partSet (by decide +kernel) ⟨Nat.le_of_ble_eq_true rfl, Nat.le_of_ble_eq_true rfl⟩ (preV_M (q := (R_MO, F_MO, 15)) (ci := 7) (q0 := 0) (hP.sub (ws' := [(o, .inr (7, [.int th, .int (nI nd), .int (nI ar), .ref fF, .ref fG, .ref fT, .ref fN, .ref fW, .int be, .ref fO, .ref fB, .int bz, .ref fS, .ref fD, .int sz])), (fF, .inl (cI, 41, .inl (nF F))), (fG, .inl (cI, 41, .inl (nF G))), (fT, .inl (cZ, 41, .inl (bF P))), (fN, .inl (cI, 14, .inl N0))]) [0, 1, 2, 3, 4] rfl) hK (hD.sub (ws' := [(o, .inr (7, [.int th, .int (nI nd), .int (nI ar), .ref fF, .ref fG, .ref fT, .ref fN, .ref fW, .int be, .ref fO, .ref fB, .int bz, .ref fS, .ref fD, .int sz])), (fF, .inl (cI, 41, .inl (nF F))), (fG, .inl (cI, 41, .inl (nF G))), (fT, .inl (cZ, 41, .inl (bF P))), (fN, .inl (cI, 14, .inl N0))]) [0, 1, 2, 3, 4] (by decide) rfl) rfl rfl) rfl hl.1 rfl (Nat.le_of_ble_eq_true rfl) d_MO_fallsOf_2 ⟨Nat.zero_le _, Nat.zero_le _⟩) hP hD hS [0, 1, 2, 3, 4] rfl (fun _ => rfl) (fun r_1 u_1 H locs hu_1 hP hS => ?_)
  obtain ⟨N9_1, rfl⟩ : ∃ z, z = u_1 := ⟨_, rfl⟩
  have hP : va_P (dC, dI) cls [(o, .inr (7, [.int th, .int (nI nd), .int (nI ar), .ref fF, .ref fG, .ref fT, .ref fN, .ref fW, .int be, .ref fO, .ref fB, .int bz, .ref fS, .ref fD, .int sz])), (fF, .inl (cI, 41, .inl (nF F))), (fG, .inl (cI, 41, .inl (nF G))), (fT, .inl (cZ, 41, .inl (bF P))), (fN, .inl (cI, 14, .inl N9_1))] H := hP
  have hD := hD.addr (ws' := [(o, .inr (7, [.int th, .int (nI nd), .int (nI ar), .ref fF, .ref fG, .ref fT, .ref fN, .ref fW, .int be, .ref fO, .ref fB, .int bz, .ref fS, .ref fD, .int sz])), (fF, .inl (cI, 41, .inl (nF F))), (fG, .inl (cI, 41, .inl (nF G))), (fT, .inl (cZ, 41, .inl (bF P))), (fN, .inl (cI, 14, .inl N9_1))]) rfl
  refine lv_iconst (v := (nI 1)) hx hb d_MO_fallsOf_5 (by decide) ?_
  refine lv_iload_n hx hb d_MO_fallsOf_6 rfl (lv_at hl 1 rfl) ?_
  refine lv_ishl hx hb d_MO_fallsOf_7 ?_
  refine xe_i (y := (sb x)) rfl ?_
  refine lv_iconst (v := (-1)) hx hb d_MO_fallsOf_8 (by decide) ?_
  refine lv_ixor hx hb d_MO_fallsOf_9 ?_
  refine lv_iand hx hb d_MO_fallsOf_10 ?_
  refine lv_istore_n (lv' := [(2, .int (r_1 &&& ((sb x) ^^^ (-1)))), (0, .ref o), (1, .int (nI x))]) hx hb d_MO_fallsOf_11 rfl hl (by decide) rfl (fun ls hl => ?_)
  refine lv_aload_n hx hb d_MO_fallsOf_12 rfl (lv_at hl 1 rfl) ?_
  refine lv_iconst (v := (-1)) hx hb d_MO_fallsOf_13 (by decide) ?_
  refine lv_iconst (v := (-1)) hx hb d_MO_fallsOf_14 (by decide) ?_
  refine lv_iconst (v := (nI 1)) hx hb d_MO_fallsOf_15 (by decide) ?_
  refine lv_iload_n hx hb d_MO_fallsOf_16 rfl (lv_at hl 2 rfl) ?_
  refine lv_ishl hx hb d_MO_fallsOf_17 ?_
  refine xe_i (y := (sb x)) rfl ?_
  refine lv_iconst (v := (nI 0)) hx hb d_MO_fallsOf_18 (by decide) ?_
  refine x_cv (k_V (n := 4) (C := R_MO) (rest := []) ⟨hx, hb, hml, hown, hts⟩ (c_MO_look l dC dI cI cJ cZ o fF fG fT fN fW fO fB fS fD th be bz sz nd ar F G P hF hG N9_1 (-1) (-1) (sb x) 0 (by first | assumption | omega)) wml_MO_63 wim_MO_look wsel_MO_look wini_MO wcode_MO_look (by decide +kernel) ⟨Nat.le_of_ble_eq_true rfl, Nat.le_of_ble_eq_true rfl⟩ (preV_M (q := (R_MO, F_MO, 15)) (ci := 7) (q0 := 0) (hP.sub (ws' := [(o, .inr (7, [.int th, .int (nI nd), .int (nI ar), .ref fF, .ref fG, .ref fT, .ref fN, .ref fW, .int be, .ref fO, .ref fB, .int bz, .ref fS, .ref fD, .int sz])), (fF, .inl (cI, 41, .inl (nF F))), (fG, .inl (cI, 41, .inl (nF G))), (fT, .inl (cZ, 41, .inl (bF P))), (fN, .inl (cI, 14, .inl N9_1))]) [0, 1, 2, 3, 4] rfl) hK (hD.sub (ws' := [(o, .inr (7, [.int th, .int (nI nd), .int (nI ar), .ref fF, .ref fG, .ref fT, .ref fN, .ref fW, .int be, .ref fO, .ref fB, .int bz, .ref fS, .ref fD, .int sz])), (fF, .inl (cI, 41, .inl (nF F))), (fG, .inl (cI, 41, .inl (nF G))), (fT, .inl (cZ, 41, .inl (bF P))), (fN, .inl (cI, 14, .inl N9_1))]) [0, 1, 2, 3, 4] (by decide) rfl) rfl rfl) rfl hl.1 rfl (Nat.le_of_ble_eq_true rfl) d_MO_fallsOf_19 ⟨Nat.zero_le _, Nat.zero_le _⟩) hP hD hS [0, 1, 2, 3, 4] rfl (fun _ => rfl) (fun u_2 H locs hu_2 hP hS => ?_)
  obtain ⟨N9_2, rfl⟩ : ∃ z, z = u_2 := ⟨_, rfl⟩
  have hP : va_P (dC, dI) cls [(o, .inr (7, [.int th, .int (nI nd), .int (nI ar), .ref fF, .ref fG, .ref fT, .ref fN, .ref fW, .int be, .ref fO, .ref fB, .int bz, .ref fS, .ref fD, .int sz])), (fF, .inl (cI, 41, .inl (nF F))), (fG, .inl (cI, 41, .inl (nF G))), (fT, .inl (cZ, 41, .inl (bF P))), (fN, .inl (cI, 14, .inl N9_2))] H := hP
  have hD := hD.addr (ws' := [(o, .inr (7, [.int th, .int (nI nd), .int (nI ar), .ref fF, .ref fG, .ref fT, .ref fN, .ref fW, .int be, .ref fO, .ref fB, .int bz, .ref fS, .ref fD, .int sz])), (fF, .inl (cI, 41, .inl (nF F))), (fG, .inl (cI, 41, .inl (nF G))), (fT, .inl (cZ, 41, .inl (bF P))), (fN, .inl (cI, 14, .inl N9_2))]) rfl
  refine lv_aload_n hx hb d_MO_fallsOf_22 rfl (lv_at hl 1 rfl) ?_
  refine lv_iload_n hx hb d_MO_fallsOf_23 rfl (lv_at hl 0 rfl) ?_
  refine vp_callSi (va_Run.run (k_V (n := 1) (C := R_MO) (rest := []) ⟨hx, hb, hml, hown, hts⟩ (c_MO_partsOf l dC dI cI cJ cZ o fF fG fT fN fW fO fB fS fD th be bz sz nd ar (lkT ar 0 P (-1) (-1) (sb x) F G) F G N9_2 hu_2 (tEn_lk (mo := 0) hM) (r_1 &&& ((sb x) ^^^ (-1))) (by first | assumption | omega) (fun y hy => Nat.lt_of_lt_of_le (RcT_lt (tEn_lk (mo := 0) hM) hu_1.1 (sb_lt hxn hnd) y (b_and'.mp hy).1) hnd)) wml_MO_73 wim_MO_partsOf wsel_MO_partsOf wini_MO wcode_MO_partsOf (by decide +kernel) ⟨Nat.le_of_ble_eq_true rfl, Nat.le_of_ble_eq_true rfl⟩ (preV_R (q := (R_MO, F_MO, 15)) (ci := 7) (q0 := 0) (hP.sub (ws' := [(o, .inr (7, [.int th, .int (nI nd), .int (nI ar), .ref fF, .ref fG, .ref fT, .ref fN, .ref fW, .int be, .ref fO, .ref fB, .int bz, .ref fS, .ref fD, .int sz])), (fN, .inl (cI, 14, .inl N9_2))]) [0, 4] rfl) hK rfl rfl) rfl hl.1 rfl (Nat.le_of_ble_eq_true rfl) d_MO_fallsOf_24 ⟨Nat.zero_le _, Nat.zero_le _⟩)) (fun r_3 hr_4 => ?_)
  refine xe_i (y := (nI (cn (ldB (lkT ar 0 P (-1) (-1) (sb x) F G) F G (r_1 &&& ((sb x) ^^^ (-1)))) 16))) hr_4 ?_
  exact W.iret (v := (nI (cn (ldB (lkT ar 0 P (-1) (-1) (sb x) F G) F G (r_1 &&& ((sb x) ^^^ (-1)))) 16))) hx hb hr (fun t9 ht9 _ => ⟨⟨_, (N9_2), rfl, ⟨_, rfl, _, hu_1.1, rfl⟩, by show va_P (dC, dI) cls _ t9.heap; rw [ht9]; exact hP⟩, hS.F ht9⟩) hS.2.2 d_MO_fallsOf_27

theorem d_MO_areBlock_0 : decode prog_9_method_20_code 0 = .ok (.iload_n 1, 1) := by decide +kernel
theorem d_MO_areBlock_1 : decode prog_9_method_20_code 1 = .ok (.iload_n 2, 1) := by decide +kernel
theorem d_MO_areBlock_2 : decode prog_9_method_20_code 2 = .ok (.if_icmp .ne 5, 3) := by decide +kernel
theorem d_MO_areBlock_5 : decode prog_9_method_20_code 5 = .ok (.iconst 1, 1) := by decide +kernel
theorem d_MO_areBlock_6 : decode prog_9_method_20_code 6 = .ok (.ireturn, 1) := by decide +kernel
theorem d_MO_areBlock_7 : decode prog_9_method_20_code 7 = .ok (.iconst 1, 1) := by decide +kernel
theorem d_MO_areBlock_8 : decode prog_9_method_20_code 8 = .ok (.aload_n 0, 1) := by decide +kernel
theorem d_MO_areBlock_9 : decode prog_9_method_20_code 9 = .ok (.getfield 7, 3) := by decide +kernel
theorem d_MO_areBlock_12 : decode prog_9_method_20_code 12 = .ok (.iload_n 1, 1) := by decide +kernel
theorem d_MO_areBlock_13 : decode prog_9_method_20_code 13 = .ok (.iaload, 1) := by decide +kernel
theorem d_MO_areBlock_14 : decode prog_9_method_20_code 14 = .ok (.ishl, 1) := by decide +kernel
theorem d_MO_areBlock_15 : decode prog_9_method_20_code 15 = .ok (.iconst 1, 1) := by decide +kernel
theorem d_MO_areBlock_16 : decode prog_9_method_20_code 16 = .ok (.aload_n 0, 1) := by decide +kernel
theorem d_MO_areBlock_17 : decode prog_9_method_20_code 17 = .ok (.getfield 13, 3) := by decide +kernel
theorem d_MO_areBlock_20 : decode prog_9_method_20_code 20 = .ok (.iload_n 1, 1) := by decide +kernel
theorem d_MO_areBlock_21 : decode prog_9_method_20_code 21 = .ok (.iaload, 1) := by decide +kernel
theorem d_MO_areBlock_22 : decode prog_9_method_20_code 22 = .ok (.ishl, 1) := by decide +kernel
theorem d_MO_areBlock_23 : decode prog_9_method_20_code 23 = .ok (.ior, 1) := by decide +kernel
theorem d_MO_areBlock_24 : decode prog_9_method_20_code 24 = .ok (.istore_n 3, 1) := by decide +kernel
theorem d_MO_areBlock_25 : decode prog_9_method_20_code 25 = .ok (.iconst 1, 1) := by decide +kernel
theorem d_MO_areBlock_26 : decode prog_9_method_20_code 26 = .ok (.aload_n 0, 1) := by decide +kernel
theorem d_MO_areBlock_27 : decode prog_9_method_20_code 27 = .ok (.getfield 7, 3) := by decide +kernel
theorem d_MO_areBlock_30 : decode prog_9_method_20_code 30 = .ok (.iload_n 2, 1) := by decide +kernel
theorem d_MO_areBlock_31 : decode prog_9_method_20_code 31 = .ok (.iaload, 1) := by decide +kernel
theorem d_MO_areBlock_32 : decode prog_9_method_20_code 32 = .ok (.ishl, 1) := by decide +kernel
theorem d_MO_areBlock_33 : decode prog_9_method_20_code 33 = .ok (.iconst 1, 1) := by decide +kernel
theorem d_MO_areBlock_34 : decode prog_9_method_20_code 34 = .ok (.aload_n 0, 1) := by decide +kernel
theorem d_MO_areBlock_35 : decode prog_9_method_20_code 35 = .ok (.getfield 13, 3) := by decide +kernel
theorem d_MO_areBlock_38 : decode prog_9_method_20_code 38 = .ok (.iload_n 2, 1) := by decide +kernel
theorem d_MO_areBlock_39 : decode prog_9_method_20_code 39 = .ok (.iaload, 1) := by decide +kernel
theorem d_MO_areBlock_40 : decode prog_9_method_20_code 40 = .ok (.ishl, 1) := by decide +kernel
theorem d_MO_areBlock_41 : decode prog_9_method_20_code 41 = .ok (.ior, 1) := by decide +kernel
theorem d_MO_areBlock_42 : decode prog_9_method_20_code 42 = .ok (.istore 4, 2) := by decide +kernel
theorem d_MO_areBlock_44 : decode prog_9_method_20_code 44 = .ok (.iconst 0, 1) := by decide +kernel
theorem d_MO_areBlock_45 : decode prog_9_method_20_code 45 = .ok (.istore 5, 2) := by decide +kernel
theorem d_MO_areBlock_47 : decode prog_9_method_20_code 47 = .ok (.iload 5, 2) := by decide +kernel
theorem d_MO_areBlock_49 : decode prog_9_method_20_code 49 = .ok (.aload_n 0, 1) := by decide +kernel
theorem d_MO_areBlock_50 : decode prog_9_method_20_code 50 = .ok (.getfield 42, 3) := by decide +kernel
theorem d_MO_areBlock_53 : decode prog_9_method_20_code 53 = .ok (.if_icmp .ge 47, 3) := by decide +kernel
theorem d_MO_areBlock_56 : decode prog_9_method_20_code 56 = .ok (.aload_n 0, 1) := by decide +kernel
theorem d_MO_areBlock_57 : decode prog_9_method_20_code 57 = .ok (.iload_n 1, 1) := by decide +kernel
theorem d_MO_areBlock_58 : decode prog_9_method_20_code 58 = .ok (.iload_n 2, 1) := by decide +kernel
theorem d_MO_areBlock_59 : decode prog_9_method_20_code 59 = .ok (.iconst 1, 1) := by decide +kernel
theorem d_MO_areBlock_60 : decode prog_9_method_20_code 60 = .ok (.iload 5, 2) := by decide +kernel
theorem d_MO_areBlock_62 : decode prog_9_method_20_code 62 = .ok (.ishl, 1) := by decide +kernel
theorem d_MO_areBlock_63 : decode prog_9_method_20_code 63 = .ok (.iconst 0, 1) := by decide +kernel
theorem d_MO_areBlock_64 : decode prog_9_method_20_code 64 = .ok (.invokevirtual 63, 3) := by decide +kernel
theorem d_MO_areBlock_67 : decode prog_9_method_20_code 67 = .ok (.aload_n 0, 1) := by decide +kernel
theorem d_MO_areBlock_68 : decode prog_9_method_20_code 68 = .ok (.iload_n 3, 1) := by decide +kernel
theorem d_MO_areBlock_69 : decode prog_9_method_20_code 69 = .ok (.iconst 1, 1) := by decide +kernel
theorem d_MO_areBlock_70 : decode prog_9_method_20_code 70 = .ok (.iload 5, 2) := by decide +kernel
theorem d_MO_areBlock_72 : decode prog_9_method_20_code 72 = .ok (.ishl, 1) := by decide +kernel
theorem d_MO_areBlock_73 : decode prog_9_method_20_code 73 = .ok (.iconst (-1), 1) := by decide +kernel
theorem d_MO_areBlock_74 : decode prog_9_method_20_code 74 = .ok (.ixor, 1) := by decide +kernel
theorem d_MO_areBlock_75 : decode prog_9_method_20_code 75 = .ok (.iand, 1) := by decide +kernel
theorem d_MO_areBlock_76 : decode prog_9_method_20_code 76 = .ok (.invokevirtual 60, 3) := by decide +kernel
theorem d_MO_areBlock_79 : decode prog_9_method_20_code 79 = .ok (.iload 4, 2) := by decide +kernel
theorem d_MO_areBlock_81 : decode prog_9_method_20_code 81 = .ok (.iand, 1) := by decide +kernel
theorem d_MO_areBlock_82 : decode prog_9_method_20_code 82 = .ok (.iconst 1, 1) := by decide +kernel
theorem d_MO_areBlock_83 : decode prog_9_method_20_code 83 = .ok (.iload 5, 2) := by decide +kernel
theorem d_MO_areBlock_85 : decode prog_9_method_20_code 85 = .ok (.ishl, 1) := by decide +kernel
theorem d_MO_areBlock_86 : decode prog_9_method_20_code 86 = .ok (.iconst (-1), 1) := by decide +kernel
theorem d_MO_areBlock_87 : decode prog_9_method_20_code 87 = .ok (.ixor, 1) := by decide +kernel
theorem d_MO_areBlock_88 : decode prog_9_method_20_code 88 = .ok (.iand, 1) := by decide +kernel
theorem d_MO_areBlock_89 : decode prog_9_method_20_code 89 = .ok (.ifCond .ne 5, 3) := by decide +kernel
theorem d_MO_areBlock_92 : decode prog_9_method_20_code 92 = .ok (.iconst 0, 1) := by decide +kernel
theorem d_MO_areBlock_93 : decode prog_9_method_20_code 93 = .ok (.ireturn, 1) := by decide +kernel
theorem d_MO_areBlock_94 : decode prog_9_method_20_code 94 = .ok (.iinc 5 1, 3) := by decide +kernel
theorem d_MO_areBlock_97 : decode prog_9_method_20_code 97 = .ok (.goto (-50), 3) := by decide +kernel
theorem d_MO_areBlock_100 : decode prog_9_method_20_code 100 = .ok (.iconst 1, 1) := by decide +kernel
theorem d_MO_areBlock_101 : decode prog_9_method_20_code 101 = .ok (.ireturn, 1) := by decide +kernel
set_option maxHeartbeats 4000000 in
set_option maxRecDepth 100000 in
theorem c_MO_areBlock (l : Launch) (dC : Nat → ClassId) (dI : Nat → Nat → Nat) (cI cJ cZ : ClassId) (o fF fG fT fN fW fO fB fS fD : Nat) (th be bz sz : Int32) (nd ar : Nat) (F G : Nat → Nat) (P : Nat → Bool) (hF : ∀ k, F k < 14) (hG : ∀ k, G k < 14) (hnd : nd ≤ 14) (har : ar ≤ 40) (hM : ∀ e, e < ar → F e < nd ∧ G e < nd) (N0 : Nat → Int32) (x y : Nat) (hxa : x < ar) (hya : y < ar) : Met l ⟨"CutPointsModel", "areBlock", "(II)Z"⟩ (Cond.code ⟨"CutPointsModel", "areBlock", "(II)Z"⟩ prog_9_method_20_code 6 (some .boolean) :: TT) (rmk 1 27) (PM dC dI cI cJ cZ [.ref o, .int (nI x), .int (nI y)] [(o, .inr (7, [.int th, .int (nI nd), .int (nI ar), .ref fF, .ref fG, .ref fT, .ref fN, .ref fW, .int be, .ref fO, .ref fB, .int bz, .ref fS, .ref fD, .int sz])), (fF, .inl (cI, 41, .inl (nF F))), (fG, .inl (cI, 41, .inl (nF G))), (fT, .inl (cZ, 41, .inl (bF P))), (fN, .inl (cI, 14, .inl N0))]) (va_Qi (S := Nat → Int32) (fun r u9 => r = bI (dc (abR ar nd P F G x y))) (fun u9 t9 => va_P (dC, dI) cls ([(o, .inr (7, [.int th, .int (nI nd), .int (nI ar), .ref fF, .ref fG, .ref fT, .ref fN, .ref fW, .int be, .ref fO, .ref fB, .int bz, .ref fS, .ref fD, .int sz])), (fF, .inl (cI, 41, .inl (nF F))), (fG, .inl (cI, 41, .inl (nF G))), (fT, .inl (cZ, 41, .inl (bF P))), (fN, .inl (cI, 14, .inl u9))]) t9.heap) (ow [(o, .inr (7, [.int th, .int (nI nd), .int (nI ar), .ref fF, .ref fG, .ref fT, .ref fN, .ref fW, .int be, .ref fO, .ref fB, .int bz, .ref fS, .ref fD, .int sz])), (fF, .inl (cI, 41, .inl (nF F))), (fG, .inl (cI, 41, .inl (nF G))), (fT, .inl (cZ, 41, .inl (bF P))), (fN, .inl (cI, 14, .inl N0))])) 0 0 (ow [(o, .inr (7, [.int th, .int (nI nd), .int (nI ar), .ref fF, .ref fG, .ref fT, .ref fN, .ref fW, .int be, .ref fO, .ref fB, .int bz, .ref fS, .ref fD, .int sz])), (fF, .inl (cI, 41, .inl (nF F))), (fG, .inl (cI, 41, .inl (nF G))), (fT, .inl (cZ, 41, .inl (bF P))), (fN, .inl (cI, 14, .inl N0))]) := by
  refine Met.ofW (cc := prog_9_method_20_code) (maxL := 6) (ret := (some .boolean)) (by decide) rfl ?_
  intro p e s m args below meth c s₁ BB9 hml hv
  obtain ⟨rfl, hP, hK, hD0⟩ := hv
  have hx := BB9.exec
  have hb := BB9.bytes
  have hr := BB9.returns
  have hts : ∀ w ∈ TT, w.before _ s = true := fun w h => atoms_spec (ws := (Cond.code ⟨"CutPointsModel", "areBlock", "(II)Z"⟩ prog_9_method_20_code 6 (some .boolean) :: TT)) BB9.pre w (List.mem_cons_of_mem _ h)
  have hown : s.vm.findClass "CutPointsModel" = some m.cls := findClass_of_methodNamed BB9.named
  have hlocks := BB9.notSynchronized
  have hD := hD0.mine
  have hS : va_S (ow [(o, .inr (7, [.int th, .int (nI nd), .int (nI ar), .ref fF, .ref fG, .ref fT, .ref fN, .ref fW, .int be, .ref fO, .ref fB, .int bz, .ref fS, .ref fD, .int sz])), (fF, .inl (cI, 41, .inl (nF F))), (fG, .inl (cI, 41, .inl (nF G))), (fT, .inl (cZ, 41, .inl (bF P))), (fN, .inl (cI, 14, .inl N0))]) s.heap s.heap [] := va_S.rf
  have hl := lv_entry ([.ref o, .int (nI x), .int (nI y)]) (n := 6) (Nat.le_of_ble_eq_true rfl)
  rw [lg_entry_eq]
  generalize (lg_sl ([.ref o, .int (nI x), .int (nI y)]) ++ List.replicate (6 - (lg_sl ([.ref o, .int (nI x), .int (nI y)])).length) Slot.unset).toArray = ls at hl ⊢
  have hl : lv_has ls 6 [(0, .ref o), (1, .int (nI x)), (2, .int (nI y))] := hl
  refine lv_iload_n hx hb d_MO_areBlock_0 rfl (lv_at hl 1 rfl) ?_
  refine lv_iload_n hx hb d_MO_areBlock_1 rfl (lv_at hl 2 rfl) ?_
  refine x_cmp_ne (a := x) (b := y) (tgt := 7) hx hb (by omega) (by omega) d_MO_areBlock_2 (by decide) (fun c_1 => ?_) (fun c_1 => ?_)
  · skip
    refine lv_iconst (v := (nI 1)) hx hb d_MO_areBlock_7 (by decide) ?_
    refine lv_aload_n hx hb d_MO_areBlock_8 rfl (lv_at hl 0 rfl) ?_
    refine va_get (D := (dC, dI)) (ci := 7) (v := .ref fF) (C := R_MO) (T := F_MO) (N := 15) hx hb hts in_MO hown hK.1 hP 0 rfl rfl 3 (by decide) (hts _ wfl_MO_7) (fun _ h9 => h9) rfl d_MO_areBlock_9 ?_
    refine lv_iload_n hx hb d_MO_areBlock_12 rfl (lv_at hl 1 rfl) ?_
    refine x_iald (n := 41) (f := (nF F)) (j := x) hx hb hK.1 hP 1 0 rfl rfl (by omega) (by omega) d_MO_areBlock_13 ?_
    refine xe_i (y := (nI (F x))) rfl ?_
    refine lv_ishl hx hb d_MO_areBlock_14 ?_
    refine xe_i (y := (sb (F x))) rfl ?_
    refine lv_iconst (v := (nI 1)) hx hb d_MO_areBlock_15 (by decide) ?_
    refine lv_aload_n hx hb d_MO_areBlock_16 rfl (lv_at hl 0 rfl) ?_
    refine va_get (D := (dC, dI)) (ci := 7) (v := .ref fG) (C := R_MO) (T := F_MO) (N := 15) hx hb hts in_MO hown hK.1 hP 0 rfl rfl 4 (by decide) (hts _ wfl_MO_13) (fun _ h9 => h9) rfl d_MO_areBlock_17 ?_
    refine lv_iload_n hx hb d_MO_areBlock_20 rfl (lv_at hl 1 rfl) ?_
    refine x_iald (n := 41) (f := (nF G)) (j := x) hx hb hK.1 hP 2 0 rfl rfl (by omega) (by omega) d_MO_areBlock_21 ?_
    refine xe_i (y := (nI (G x))) rfl ?_
    refine lv_ishl hx hb d_MO_areBlock_22 ?_
    refine xe_i (y := (sb (G x))) rfl ?_
    refine lv_ior hx hb d_MO_areBlock_23 ?_
    refine lv_istore_n (lv' := [(3, .int ((sb (F x)) ||| (sb (G x)))), (0, .ref o), (1, .int (nI x)), (2, .int (nI y))]) hx hb d_MO_areBlock_24 rfl hl (by decide) rfl (fun ls hl => ?_)
    refine lv_iconst (v := (nI 1)) hx hb d_MO_areBlock_25 (by decide) ?_
    refine lv_aload_n hx hb d_MO_areBlock_26 rfl (lv_at hl 1 rfl) ?_
    refine va_get (D := (dC, dI)) (ci := 7) (v := .ref fF) (C := R_MO) (T := F_MO) (N := 15) hx hb hts in_MO hown hK.1 hP 0 rfl rfl 3 (by decide) (hts _ wfl_MO_7) (fun _ h9 => h9) rfl d_MO_areBlock_27 ?_
    refine lv_iload_n hx hb d_MO_areBlock_30 rfl (lv_at hl 3 rfl) ?_
    refine x_iald (n := 41) (f := (nF F)) (j := y) hx hb hK.1 hP 1 0 rfl rfl (by omega) (by omega) d_MO_areBlock_31 ?_
    refine xe_i (y := (nI (F y))) rfl ?_
    refine lv_ishl hx hb d_MO_areBlock_32 ?_
    refine xe_i (y := (sb (F y))) rfl ?_
    refine lv_iconst (v := (nI 1)) hx hb d_MO_areBlock_33 (by decide) ?_
    refine lv_aload_n hx hb d_MO_areBlock_34 rfl (lv_at hl 1 rfl) ?_
    refine va_get (D := (dC, dI)) (ci := 7) (v := .ref fG) (C := R_MO) (T := F_MO) (N := 15) hx hb hts in_MO hown hK.1 hP 0 rfl rfl 4 (by decide) (hts _ wfl_MO_13) (fun _ h9 => h9) rfl d_MO_areBlock_35 ?_
    refine lv_iload_n hx hb d_MO_areBlock_38 rfl (lv_at hl 3 rfl) ?_
    refine x_iald (n := 41) (f := (nF G)) (j := y) hx hb hK.1 hP 2 0 rfl rfl (by omega) (by omega) d_MO_areBlock_39 ?_
    refine xe_i (y := (nI (G y))) rfl ?_
    refine lv_ishl hx hb d_MO_areBlock_40 ?_
    refine xe_i (y := (sb (G y))) rfl ?_
    refine lv_ior hx hb d_MO_areBlock_41 ?_
    refine lv_istore (lv' := [(4, .int ((sb (F y)) ||| (sb (G y)))), (3, .int ((sb (F x)) ||| (sb (G x)))), (0, .ref o), (1, .int (nI x)), (2, .int (nI y))]) hx hb d_MO_areBlock_42 hl (by decide) rfl (fun ls hl => ?_)
    refine lv_iconst (v := (nI 0)) hx hb d_MO_areBlock_44 (by decide) ?_
    refine lv_istore (lv' := [(5, .int (nI 0)), (4, .int ((sb (F y)) ||| (sb (G y)))), (3, .int ((sb (F x)) ||| (sb (G x)))), (0, .ref o), (1, .int (nI x)), (2, .int (nI y))]) hx hb d_MO_areBlock_45 hl (by decide) rfl (fun ls hl => ?_)
    have L47_2 : ∀ (n : Nat) (N2 : Nat → Int32) (i : Nat) (hn : nd - i < n) (hi : i ≤ nd) (hab : ∀ n, n < i → abM ar nd P F G x y n) (H : Heap) (locs : List Loc) (hP : va_P (dC, dI) cls [(o, .inr (7, [.int th, .int (nI nd), .int (nI ar), .ref fF, .ref fG, .ref fT, .ref fN, .ref fW, .int be, .ref fO, .ref fB, .int bz, .ref fS, .ref fD, .int sz])), (fF, .inl (cI, 41, .inl (nF F))), (fG, .inl (cI, 41, .inl (nF G))), (fT, .inl (cZ, 41, .inl (bF P))), (fN, .inl (cI, 14, .inl N2))] H) (hD : va_D (ow [(o, .inr (7, [.int th, .int (nI nd), .int (nI ar), .ref fF, .ref fG, .ref fT, .ref fN, .ref fW, .int be, .ref fO, .ref fB, .int bz, .ref fS, .ref fD, .int sz])), (fF, .inl (cI, 41, .inl (nF F))), (fG, .inl (cI, 41, .inl (nF G))), (fT, .inl (cZ, 41, .inl (bF P))), (fN, .inl (cI, 14, .inl N0))]) [(o, .inr (7, [.int th, .int (nI nd), .int (nI ar), .ref fF, .ref fG, .ref fT, .ref fN, .ref fW, .int be, .ref fO, .ref fB, .int bz, .ref fS, .ref fD, .int sz])), (fF, .inl (cI, 41, .inl (nF F))), (fG, .inl (cI, 41, .inl (nF G))), (fT, .inl (cZ, 41, .inl (bF P))), (fN, .inl (cI, 14, .inl N2))]) (hS : va_S (ow [(o, .inr (7, [.int th, .int (nI nd), .int (nI ar), .ref fF, .ref fG, .ref fT, .ref fN, .ref fW, .int be, .ref fO, .ref fB, .int bz, .ref fS, .ref fD, .int sz])), (fF, .inl (cI, 41, .inl (nF F))), (fG, .inl (cI, 41, .inl (nF G))), (fT, .inl (cZ, 41, .inl (bF P))), (fN, .inl (cI, 14, .inl N0))]) s.heap H locs) (ls : Array Slot) (hl : lv_has ls 6 [(0, .ref o), (1, .int (nI x)), (2, .int (nI y)), (3, .int ((sb (F x)) ||| (sb (G x)))), (4, .int ((sb (F y)) ||| (sb (G y)))), (5, .int (nI i))]), W p l e (headSpec (Cond.code ⟨"CutPointsModel", "areBlock", "(II)Z"⟩ prog_9_method_20_code 6 (some .boolean) :: TT) (rmk 1 27)).room s m ([.ref o, .int (nI x), .int (nI y)] : List Value).toArray below meth c H locs 0 0 (MQ below (va_Qi (S := Nat → Int32) (fun r u9 => r = bI (dc (abR ar nd P F G x y))) (fun u9 t9 => va_P (dC, dI) cls ([(o, .inr (7, [.int th, .int (nI nd), .int (nI ar), .ref fF, .ref fG, .ref fT, .ref fN, .ref fW, .int be, .ref fO, .ref fB, .int bz, .ref fS, .ref fD, .int sz])), (fF, .inl (cI, 41, .inl (nF F))), (fG, .inl (cI, 41, .inl (nF G))), (fT, .inl (cZ, 41, .inl (bF P))), (fN, .inl (cI, 14, .inl u9))]) t9.heap) (ow [(o, .inr (7, [.int th, .int (nI nd), .int (nI ar), .ref fF, .ref fG, .ref fT, .ref fN, .ref fW, .int be, .ref fO, .ref fB, .int bz, .ref fS, .ref fD, .int sz])), (fF, .inl (cI, 41, .inl (nF F))), (fG, .inl (cI, 41, .inl (nF G))), (fT, .inl (cZ, 41, .inl (bF P))), (fN, .inl (cI, 14, .inl N0))])) ([.ref o, .int (nI x), .int (nI y)] : List Value).toArray s 0 0 (ow [(o, .inr (7, [.int th, .int (nI nd), .int (nI ar), .ref fF, .ref fG, .ref fT, .ref fN, .ref fW, .int be, .ref fO, .ref fB, .int bz, .ref fS, .ref fD, .int sz])), (fF, .inl (cI, 41, .inl (nF F))), (fG, .inl (cI, 41, .inl (nF G))), (fT, .inl (cZ, 41, .inl (bF P))), (fN, .inl (cI, 14, .inl N0))])) (F0 m 47 ls []) := by
      intro n_47
      induction n_47 with
      | zero =>
        intro N2 i hn_47
        exact absurd hn_47 (Nat.not_lt_zero _)
      | succ n_47 ih_47 =>
        intro N2 i hn_47 hi hab H locs hP hD hS ls hl
        refine lv_iload hx hb d_MO_areBlock_47 (lv_at hl 5 rfl) ?_
        refine lv_aload_n hx hb d_MO_areBlock_49 rfl (lv_at hl 0 rfl) ?_
        refine va_get (D := (dC, dI)) (ci := 7) (v := .int (nI nd)) (C := R_MO) (T := F_MO) (N := 15) hx hb hts in_MO hown hK.1 hP 0 rfl rfl 1 (by decide) (hts _ wfl_MO_42) (fun _ h9 => h9) rfl d_MO_areBlock_50 ?_
        refine x_cmp_ge (a := i) (b := nd) (tgt := 100) hx hb (by omega) (by omega) d_MO_areBlock_53 (by decide) (fun c_3 => ?_) (fun c_3 => ?_)
        · skip
          refine lv_iconst (v := (nI 1)) hx hb d_MO_areBlock_100 (by decide) ?_
          refine xe_i (y := bI true) rfl ?_
          exact W.zret (v := (bI true)) hx hb hr (bI_nar _) (fun t9 ht9 _ => ⟨⟨_, (N2), rfl, (by rw [(dc_t (P := abR ar nd P F G x y)).mpr (Or.inr (fun n hn => hab n (by omega)))]), by show va_P (dC, dI) cls _ t9.heap; rw [ht9]; exact hP⟩, hS.F ht9⟩) hS.2.2 d_MO_areBlock_101
        · skip
          refine lv_aload_n hx hb d_MO_areBlock_56 rfl (lv_at hl 0 rfl) ?_
          refine lv_iload_n hx hb d_MO_areBlock_57 rfl (lv_at hl 1 rfl) ?_
          refine lv_iload_n hx hb d_MO_areBlock_58 rfl (lv_at hl 2 rfl) ?_
          refine lv_iconst (v := (nI 1)) hx hb d_MO_areBlock_59 (by decide) ?_
          refine lv_iload hx hb d_MO_areBlock_60 (lv_at hl 5 rfl) ?_
          refine lv_ishl hx hb d_MO_areBlock_62 ?_
          refine xe_i (y := (sb i)) rfl ?_
          refine lv_iconst (v := (nI 0)) hx hb d_MO_areBlock_63 (by decide) ?_
          refine x_cv (k_V (n := 4) (C := R_MO) (rest := []) ⟨hx, hb, hml, hown, hts⟩ (c_MO_look l dC dI cI cJ cZ o fF fG fT fN fW fO fB fS fD th be bz sz nd ar F G P hF hG N2 (nI x) (nI y) (sb i) 0 (by first | assumption | omega)) wml_MO_63 wim_MO_look wsel_MO_look wini_MO wcode_MO_look (by decide +kernel) ⟨Nat.le_of_ble_eq_true rfl, Nat.le_of_ble_eq_true rfl⟩ (preV_M (q := (R_MO, F_MO, 15)) (ci := 7) (q0 := 0) (hP.sub (ws' := [(o, .inr (7, [.int th, .int (nI nd), .int (nI ar), .ref fF, .ref fG, .ref fT, .ref fN, .ref fW, .int be, .ref fO, .ref fB, .int bz, .ref fS, .ref fD, .int sz])), (fF, .inl (cI, 41, .inl (nF F))), (fG, .inl (cI, 41, .inl (nF G))), (fT, .inl (cZ, 41, .inl (bF P))), (fN, .inl (cI, 14, .inl N2))]) [0, 1, 2, 3, 4] rfl) hK (hD.sub (ws' := [(o, .inr (7, [.int th, .int (nI nd), .int (nI ar), .ref fF, .ref fG, .ref fT, .ref fN, .ref fW, .int be, .ref fO, .ref fB, .int bz, .ref fS, .ref fD, .int sz])), (fF, .inl (cI, 41, .inl (nF F))), (fG, .inl (cI, 41, .inl (nF G))), (fT, .inl (cZ, 41, .inl (bF P))), (fN, .inl (cI, 14, .inl N2))]) [0, 1, 2, 3, 4] (by decide) rfl) rfl rfl) rfl hl.1 rfl (Nat.le_of_ble_eq_true rfl) d_MO_areBlock_64 ⟨Nat.zero_le _, Nat.zero_le _⟩) hP hD hS [0, 1, 2, 3, 4] rfl (fun _ => rfl) (fun u_4 H locs hu_4 hP hS => ?_)
          obtain ⟨N9_4, rfl⟩ : ∃ z, z = u_4 := ⟨_, rfl⟩
          have hP : va_P (dC, dI) cls [(o, .inr (7, [.int th, .int (nI nd), .int (nI ar), .ref fF, .ref fG, .ref fT, .ref fN, .ref fW, .int be, .ref fO, .ref fB, .int bz, .ref fS, .ref fD, .int sz])), (fF, .inl (cI, 41, .inl (nF F))), (fG, .inl (cI, 41, .inl (nF G))), (fT, .inl (cZ, 41, .inl (bF P))), (fN, .inl (cI, 14, .inl N9_4))] H := hP
          have hD := hD.addr (ws' := [(o, .inr (7, [.int th, .int (nI nd), .int (nI ar), .ref fF, .ref fG, .ref fT, .ref fN, .ref fW, .int be, .ref fO, .ref fB, .int bz, .ref fS, .ref fD, .int sz])), (fF, .inl (cI, 41, .inl (nF F))), (fG, .inl (cI, 41, .inl (nF G))), (fT, .inl (cZ, 41, .inl (bF P))), (fN, .inl (cI, 14, .inl N9_4))]) rfl
          refine lv_aload_n hx hb d_MO_areBlock_67 rfl (lv_at hl 0 rfl) ?_
          refine lv_iload_n hx hb d_MO_areBlock_68 rfl (lv_at hl 3 rfl) ?_
          refine lv_iconst (v := (nI 1)) hx hb d_MO_areBlock_69 (by decide) ?_
          refine lv_iload hx hb d_MO_areBlock_70 (lv_at hl 5 rfl) ?_
          refine lv_ishl hx hb d_MO_areBlock_72 ?_
          refine xe_i (y := (sb i)) rfl ?_
          refine lv_iconst (v := (-1)) hx hb d_MO_areBlock_73 (by decide) ?_
          refine lv_ixor hx hb d_MO_areBlock_74 ?_
          refine lv_iand hx hb d_MO_areBlock_75 ?_
          refine vp_callSi (va_Run.run (k_V (n := 1) (C := R_MO) (rest := []) ⟨hx, hb, hml, hown, hts⟩ (c_MO_reach l dC dI cI cJ cZ o fF fG fT fN fW fO fB fS fD th be bz sz nd ar (lkT ar 0 P (nI x) (nI y) (sb i) F G) F G N9_4 hu_4 (tEn_lk (mo := 0) hM) (((sb (F x)) ||| (sb (G x))) &&& ((sb i) ^^^ (-1))) (by first | assumption | omega)) wml_MO_60 wim_MO_reach wsel_MO_reach wini_MO wcode_MO_reach (by decide +kernel) ⟨Nat.le_of_ble_eq_true rfl, Nat.le_of_ble_eq_true rfl⟩ (preV_R (q := (R_MO, F_MO, 15)) (ci := 7) (q0 := 0) (hP.sub (ws' := [(o, .inr (7, [.int th, .int (nI nd), .int (nI ar), .ref fF, .ref fG, .ref fT, .ref fN, .ref fW, .int be, .ref fO, .ref fB, .int bz, .ref fS, .ref fD, .int sz])), (fN, .inl (cI, 14, .inl N9_4))]) [0, 4] rfl) hK rfl rfl) rfl hl.1 rfl (Nat.le_of_ble_eq_true rfl) d_MO_areBlock_76 ⟨Nat.zero_le _, Nat.zero_le _⟩)) (fun r_5 hr_6 => ?_)
          refine lv_iload hx hb d_MO_areBlock_79 (lv_at hl 4 rfl) ?_
          refine lv_iand hx hb d_MO_areBlock_81 ?_
          refine lv_iconst (v := (nI 1)) hx hb d_MO_areBlock_82 (by decide) ?_
          refine lv_iload hx hb d_MO_areBlock_83 (lv_at hl 5 rfl) ?_
          refine lv_ishl hx hb d_MO_areBlock_85 ?_
          refine xe_i (y := (sb i)) rfl ?_
          refine lv_iconst (v := (-1)) hx hb d_MO_areBlock_86 (by decide) ?_
          refine lv_ixor hx hb d_MO_areBlock_87 ?_
          refine lv_iand hx hb d_MO_areBlock_88 ?_
          refine lv_if_ne (tgt := 94) hx hb d_MO_areBlock_89 (by decide) (fun c_7 => ?_) (fun c_7 => ?_)
          · skip
            refine lv_iinc (v := (nI (i + 1))) (lv' := [(5, .int (nI (i + 1))), (0, .ref o), (1, .int (nI x)), (2, .int (nI y)), (3, .int ((sb (F x)) ||| (sb (G x)))), (4, .int ((sb (F y)) ||| (sb (G y))))]) hx hb d_MO_areBlock_94 hl (k := 5) rfl (nI_1 _) (by decide) rfl (fun ls hl => ?_)
            refine lv_goto (tgt := 47) hx hb d_MO_areBlock_97 (by decide) ?_
            exact ih_47 N9_4 (i + 1) (by omega) (by first | assumption | omega) (lt_s hab ((ab_iff hF hG (by omega) hr_6).mp c_7)) _ _ hP hD hS ls (lv_sub hl [1, 2, 3, 4, 5, 0] rfl)
          · skip
            refine lv_iconst (v := (nI 0)) hx hb d_MO_areBlock_92 (by decide) ?_
            refine xe_i (y := bI false) rfl ?_
            exact W.zret (v := (bI false)) hx hb hr (bI_nar _) (fun t9 ht9 _ => ⟨⟨_, (N9_4), rfl, (by rw [dc_f.mpr (fun q9 => q9.elim (fun z => c_1 z) (fun z => (ab_iff (nd := nd) hF hG (by omega) hr_6).mpr (z i (by assumption)) c_7))]), by show va_P (dC, dI) cls _ t9.heap; rw [ht9]; exact hP⟩, hS.F ht9⟩) hS.2.2 d_MO_areBlock_93
    exact L47_2 ((nd - 0) + 1) N0 0 (Nat.lt_succ_self _) (by first | assumption | omega) (fun n hn => absurd hn (Nat.not_lt_zero _)) _ _ hP hD hS ls (lv_sub hl [3, 4, 5, 2, 1, 0] rfl)
  · skip
    refine lv_iconst (v := (nI 1)) hx hb d_MO_areBlock_5 (by decide) ?_
    refine xe_i (y := bI true) rfl ?_
    exact W.zret (v := (bI true)) hx hb hr (bI_nar _) (fun t9 ht9 _ => ⟨⟨_, (N0), rfl, (by rw [(dc_t (P := abR ar nd P F G x y)).mpr (Or.inl c_1)]), by show va_P (dC, dI) cls _ t9.heap; rw [ht9]; exact hP⟩, hS.F ht9⟩) hS.2.2 d_MO_areBlock_6

theorem d_MO_blockOf_0 : decode prog_9_method_21_code 0 = .ok (.iconst 0, 1) := by decide +kernel
theorem d_MO_blockOf_1 : decode prog_9_method_21_code 1 = .ok (.istore_n 2, 1) := by decide +kernel
theorem d_MO_blockOf_2 : decode prog_9_method_21_code 2 = .ok (.aload_n 0, 1) := by decide +kernel
theorem d_MO_blockOf_3 : decode prog_9_method_21_code 3 = .ok (.getfield 16, 3) := by decide +kernel
theorem d_MO_blockOf_6 : decode prog_9_method_21_code 6 = .ok (.iload_n 2, 1) := by decide +kernel
theorem d_MO_blockOf_7 : decode prog_9_method_21_code 7 = .ok (.baload, 1) := by decide +kernel
theorem d_MO_blockOf_8 : decode prog_9_method_21_code 8 = .ok (.ifCond .eq 12, 3) := by decide +kernel
theorem d_MO_blockOf_11 : decode prog_9_method_21_code 11 = .ok (.aload_n 0, 1) := by decide +kernel
theorem d_MO_blockOf_12 : decode prog_9_method_21_code 12 = .ok (.iload_n 1, 1) := by decide +kernel
theorem d_MO_blockOf_13 : decode prog_9_method_21_code 13 = .ok (.iload_n 2, 1) := by decide +kernel
theorem d_MO_blockOf_14 : decode prog_9_method_21_code 14 = .ok (.invokevirtual 76, 3) := by decide +kernel
theorem d_MO_blockOf_17 : decode prog_9_method_21_code 17 = .ok (.ifCond .ne 9, 3) := by decide +kernel
theorem d_MO_blockOf_20 : decode prog_9_method_21_code 20 = .ok (.iinc 2 1, 3) := by decide +kernel
theorem d_MO_blockOf_23 : decode prog_9_method_21_code 23 = .ok (.goto (-21), 3) := by decide +kernel
theorem d_MO_blockOf_26 : decode prog_9_method_21_code 26 = .ok (.iload_n 2, 1) := by decide +kernel
theorem d_MO_blockOf_27 : decode prog_9_method_21_code 27 = .ok (.ireturn, 1) := by decide +kernel
set_option maxHeartbeats 4000000 in
set_option maxRecDepth 100000 in
theorem c_MO_blockOf (l : Launch) (dC : Nat → ClassId) (dI : Nat → Nat → Nat) (cI cJ cZ : ClassId) (o fF fG fT fN fW fO fB fS fD : Nat) (th be bz sz : Int32) (nd ar : Nat) (F G : Nat → Nat) (P : Nat → Bool) (hF : ∀ k, F k < 14) (hG : ∀ k, G k < 14) (hnd : nd ≤ 14) (har : ar ≤ 40) (hM : ∀ e, e < ar → F e < nd ∧ G e < nd) (N0 : Nat → Int32) (x : Nat) (hxa : x < ar) (hPx : P x = true) : Met l ⟨"CutPointsModel", "blockOf", "(I)I"⟩ (Cond.code ⟨"CutPointsModel", "blockOf", "(I)I"⟩ prog_9_method_21_code 3 (some .int) :: TT) (rmk 2 52) (PM dC dI cI cJ cZ [.ref o, .int (nI x)] [(o, .inr (7, [.int th, .int (nI nd), .int (nI ar), .ref fF, .ref fG, .ref fT, .ref fN, .ref fW, .int be, .ref fO, .ref fB, .int bz, .ref fS, .ref fD, .int sz])), (fF, .inl (cI, 41, .inl (nF F))), (fG, .inl (cI, 41, .inl (nF G))), (fT, .inl (cZ, 41, .inl (bF P))), (fN, .inl (cI, 14, .inl N0))]) (va_Qi (S := Nat → Int32) (fun r u9 => ∃ v, r = nI v ∧ v ≤ x ∧ (P v = true ∧ abR ar nd P F G x v) ∧ ∀ f, f < v → ¬ (P f = true ∧ abR ar nd P F G x f)) (fun u9 t9 => va_P (dC, dI) cls ([(o, .inr (7, [.int th, .int (nI nd), .int (nI ar), .ref fF, .ref fG, .ref fT, .ref fN, .ref fW, .int be, .ref fO, .ref fB, .int bz, .ref fS, .ref fD, .int sz])), (fF, .inl (cI, 41, .inl (nF F))), (fG, .inl (cI, 41, .inl (nF G))), (fT, .inl (cZ, 41, .inl (bF P))), (fN, .inl (cI, 14, .inl u9))]) t9.heap) (ow [(o, .inr (7, [.int th, .int (nI nd), .int (nI ar), .ref fF, .ref fG, .ref fT, .ref fN, .ref fW, .int be, .ref fO, .ref fB, .int bz, .ref fS, .ref fD, .int sz])), (fF, .inl (cI, 41, .inl (nF F))), (fG, .inl (cI, 41, .inl (nF G))), (fT, .inl (cZ, 41, .inl (bF P))), (fN, .inl (cI, 14, .inl N0))])) 0 0 (ow [(o, .inr (7, [.int th, .int (nI nd), .int (nI ar), .ref fF, .ref fG, .ref fT, .ref fN, .ref fW, .int be, .ref fO, .ref fB, .int bz, .ref fS, .ref fD, .int sz])), (fF, .inl (cI, 41, .inl (nF F))), (fG, .inl (cI, 41, .inl (nF G))), (fT, .inl (cZ, 41, .inl (bF P))), (fN, .inl (cI, 14, .inl N0))]) := by
  refine Met.ofW (cc := prog_9_method_21_code) (maxL := 3) (ret := (some .int)) (by decide) rfl ?_
  intro p e s m args below meth c s₁ BB9 hml hv
  obtain ⟨rfl, hP, hK, hD0⟩ := hv
  have hx := BB9.exec
  have hb := BB9.bytes
  have hr := BB9.returns
  have hts : ∀ w ∈ TT, w.before _ s = true := fun w h => atoms_spec (ws := (Cond.code ⟨"CutPointsModel", "blockOf", "(I)I"⟩ prog_9_method_21_code 3 (some .int) :: TT)) BB9.pre w (List.mem_cons_of_mem _ h)
  have hown : s.vm.findClass "CutPointsModel" = some m.cls := findClass_of_methodNamed BB9.named
  have hlocks := BB9.notSynchronized
  have hD := hD0.mine
  have hS : va_S (ow [(o, .inr (7, [.int th, .int (nI nd), .int (nI ar), .ref fF, .ref fG, .ref fT, .ref fN, .ref fW, .int be, .ref fO, .ref fB, .int bz, .ref fS, .ref fD, .int sz])), (fF, .inl (cI, 41, .inl (nF F))), (fG, .inl (cI, 41, .inl (nF G))), (fT, .inl (cZ, 41, .inl (bF P))), (fN, .inl (cI, 14, .inl N0))]) s.heap s.heap [] := va_S.rf
  have hl := lv_entry ([.ref o, .int (nI x)]) (n := 3) (Nat.le_of_ble_eq_true rfl)
  rw [lg_entry_eq]
  generalize (lg_sl ([.ref o, .int (nI x)]) ++ List.replicate (3 - (lg_sl ([.ref o, .int (nI x)])).length) Slot.unset).toArray = ls at hl ⊢
  have hl : lv_has ls 3 [(0, .ref o), (1, .int (nI x))] := hl
  refine lv_iconst (v := (nI 0)) hx hb d_MO_blockOf_0 (by decide) ?_
  refine lv_istore_n (lv' := [(2, .int (nI 0)), (0, .ref o), (1, .int (nI x))]) hx hb d_MO_blockOf_1 rfl hl (by decide) rfl (fun ls hl => ?_)
  have L2_1 : ∀ (n : Nat) (N2 : Nat → Int32) (i : Nat) (hn : x - i < n) (hi : i ≤ x) (hn : ∀ f, f < i → ¬ (P f = true ∧ abR ar nd P F G x f)) (H : Heap) (locs : List Loc) (hP : va_P (dC, dI) cls [(o, .inr (7, [.int th, .int (nI nd), .int (nI ar), .ref fF, .ref fG, .ref fT, .ref fN, .ref fW, .int be, .ref fO, .ref fB, .int bz, .ref fS, .ref fD, .int sz])), (fF, .inl (cI, 41, .inl (nF F))), (fG, .inl (cI, 41, .inl (nF G))), (fT, .inl (cZ, 41, .inl (bF P))), (fN, .inl (cI, 14, .inl N2))] H) (hD : va_D (ow [(o, .inr (7, [.int th, .int (nI nd), .int (nI ar), .ref fF, .ref fG, .ref fT, .ref fN, .ref fW, .int be, .ref fO, .ref fB, .int bz, .ref fS, .ref fD, .int sz])), (fF, .inl (cI, 41, .inl (nF F))), (fG, .inl (cI, 41, .inl (nF G))), (fT, .inl (cZ, 41, .inl (bF P))), (fN, .inl (cI, 14, .inl N0))]) [(o, .inr (7, [.int th, .int (nI nd), .int (nI ar), .ref fF, .ref fG, .ref fT, .ref fN, .ref fW, .int be, .ref fO, .ref fB, .int bz, .ref fS, .ref fD, .int sz])), (fF, .inl (cI, 41, .inl (nF F))), (fG, .inl (cI, 41, .inl (nF G))), (fT, .inl (cZ, 41, .inl (bF P))), (fN, .inl (cI, 14, .inl N2))]) (hS : va_S (ow [(o, .inr (7, [.int th, .int (nI nd), .int (nI ar), .ref fF, .ref fG, .ref fT, .ref fN, .ref fW, .int be, .ref fO, .ref fB, .int bz, .ref fS, .ref fD, .int sz])), (fF, .inl (cI, 41, .inl (nF F))), (fG, .inl (cI, 41, .inl (nF G))), (fT, .inl (cZ, 41, .inl (bF P))), (fN, .inl (cI, 14, .inl N0))]) s.heap H locs) (ls : Array Slot) (hl : lv_has ls 3 [(0, .ref o), (1, .int (nI x)), (2, .int (nI i))]), W p l e (headSpec (Cond.code ⟨"CutPointsModel", "blockOf", "(I)I"⟩ prog_9_method_21_code 3 (some .int) :: TT) (rmk 2 52)).room s m ([.ref o, .int (nI x)] : List Value).toArray below meth c H locs 0 0 (MQ below (va_Qi (S := Nat → Int32) (fun r u9 => ∃ v, r = nI v ∧ v ≤ x ∧ (P v = true ∧ abR ar nd P F G x v) ∧ ∀ f, f < v → ¬ (P f = true ∧ abR ar nd P F G x f)) (fun u9 t9 => va_P (dC, dI) cls ([(o, .inr (7, [.int th, .int (nI nd), .int (nI ar), .ref fF, .ref fG, .ref fT, .ref fN, .ref fW, .int be, .ref fO, .ref fB, .int bz, .ref fS, .ref fD, .int sz])), (fF, .inl (cI, 41, .inl (nF F))), (fG, .inl (cI, 41, .inl (nF G))), (fT, .inl (cZ, 41, .inl (bF P))), (fN, .inl (cI, 14, .inl u9))]) t9.heap) (ow [(o, .inr (7, [.int th, .int (nI nd), .int (nI ar), .ref fF, .ref fG, .ref fT, .ref fN, .ref fW, .int be, .ref fO, .ref fB, .int bz, .ref fS, .ref fD, .int sz])), (fF, .inl (cI, 41, .inl (nF F))), (fG, .inl (cI, 41, .inl (nF G))), (fT, .inl (cZ, 41, .inl (bF P))), (fN, .inl (cI, 14, .inl N0))])) ([.ref o, .int (nI x)] : List Value).toArray s 0 0 (ow [(o, .inr (7, [.int th, .int (nI nd), .int (nI ar), .ref fF, .ref fG, .ref fT, .ref fN, .ref fW, .int be, .ref fO, .ref fB, .int bz, .ref fS, .ref fD, .int sz])), (fF, .inl (cI, 41, .inl (nF F))), (fG, .inl (cI, 41, .inl (nF G))), (fT, .inl (cZ, 41, .inl (bF P))), (fN, .inl (cI, 14, .inl N0))])) (F0 m 2 ls []) := by
    intro n_2
    induction n_2 with
    | zero =>
      intro N2 i hn_2
      exact absurd hn_2 (Nat.not_lt_zero _)
    | succ n_2 ih_2 =>
      intro N2 i hn_2 hi hn H locs hP hD hS ls hl
      refine lv_aload_n hx hb d_MO_blockOf_2 rfl (lv_at hl 0 rfl) ?_
      refine va_get (D := (dC, dI)) (ci := 7) (v := .ref fT) (C := R_MO) (T := F_MO) (N := 15) hx hb hts in_MO hown hK.1 hP 0 rfl rfl 5 (by decide) (hts _ wfl_MO_16) (fun _ h9 => h9) rfl d_MO_blockOf_3 ?_
      refine lv_iload_n hx hb d_MO_blockOf_6 rfl (lv_at hl 2 rfl) ?_
      refine x_zald (n := 41) (f := (bF P)) (j := i) hx hb hK.1 hP 3 2 rfl rfl (by omega) (by omega) d_MO_blockOf_7 ?_
      refine xe_i (y := (bI (P i))) rfl ?_
      refine x_if_eq (tgt := 20) hx hb d_MO_blockOf_8 (by decide) (fun c_2 => ?_) (fun c_2 => ?_)
      · skip
        refine lv_iinc (v := (nI (i + 1))) (lv' := [(2, .int (nI (i + 1))), (0, .ref o), (1, .int (nI x))]) hx hb d_MO_blockOf_20 hl (k := 2) rfl (nI_1 _) (by decide) rfl (fun ls hl => ?_)
        refine lv_goto (tgt := 2) hx hb d_MO_blockOf_23 (by decide) ?_
        exact ih_2 N2 (i + 1) (by rcases Nat.lt_or_ge i x with q9 | q9; omega; exact absurd (show P i = true ∧ abR ar nd P F G x i from (by have e9 : i = x := (by omega); subst e9; exact ⟨hPx, Or.inl rfl⟩)) (fun z9 => by rw [c_2] at z9; cases z9.1)) (by rcases Nat.lt_or_ge i x with q9 | q9; exact q9; exact absurd (show P i = true ∧ abR ar nd P F G x i from (by have e9 : i = x := (by omega); subst e9; exact ⟨hPx, Or.inl rfl⟩)) (fun z9 => by rw [c_2] at z9; cases z9.1)) (lt_s hn (fun z9 => by rw [c_2] at z9; cases z9.1)) _ _ hP hD hS ls (lv_sub hl [1, 2, 0] rfl)
      · skip
        refine lv_aload_n hx hb d_MO_blockOf_11 rfl (lv_at hl 0 rfl) ?_
        refine lv_iload_n hx hb d_MO_blockOf_12 rfl (lv_at hl 1 rfl) ?_
        refine lv_iload_n hx hb d_MO_blockOf_13 rfl (lv_at hl 2 rfl) ?_
        refine x_ci (k_V (n := 2) (C := R_MO) (rest := []) ⟨hx, hb, hml, hown, hts⟩ (c_MO_areBlock l dC dI cI cJ cZ o fF fG fT fN fW fO fB fS fD th be bz sz nd ar F G P hF hG (by first | assumption | omega) (by first | assumption | omega) hM N2 x i (by first | assumption | omega) (by first | assumption | omega)) wml_MO_76 wim_MO_areBlock wsel_MO_areBlock wini_MO wcode_MO_areBlock (by decide +kernel) ⟨Nat.le_of_ble_eq_true rfl, Nat.le_of_ble_eq_true rfl⟩ (preV_M (q := (R_MO, F_MO, 15)) (ci := 7) (q0 := 0) (hP.sub (ws' := [(o, .inr (7, [.int th, .int (nI nd), .int (nI ar), .ref fF, .ref fG, .ref fT, .ref fN, .ref fW, .int be, .ref fO, .ref fB, .int bz, .ref fS, .ref fD, .int sz])), (fF, .inl (cI, 41, .inl (nF F))), (fG, .inl (cI, 41, .inl (nF G))), (fT, .inl (cZ, 41, .inl (bF P))), (fN, .inl (cI, 14, .inl N2))]) [0, 1, 2, 3, 4] rfl) hK (hD.sub (ws' := [(o, .inr (7, [.int th, .int (nI nd), .int (nI ar), .ref fF, .ref fG, .ref fT, .ref fN, .ref fW, .int be, .ref fO, .ref fB, .int bz, .ref fS, .ref fD, .int sz])), (fF, .inl (cI, 41, .inl (nF F))), (fG, .inl (cI, 41, .inl (nF G))), (fT, .inl (cZ, 41, .inl (bF P))), (fN, .inl (cI, 14, .inl N2))]) [0, 1, 2, 3, 4] (by decide) rfl) rfl rfl) rfl hl.1 rfl (Nat.le_of_ble_eq_true rfl) d_MO_blockOf_14 ⟨Nat.zero_le _, Nat.zero_le _⟩) hP hD hS [0, 1, 2, 3, 4] rfl (fun _ => rfl) (fun r_3 u_3 H locs hu_3 hP hS => ?_)
        obtain ⟨N9_3, rfl⟩ : ∃ z, z = u_3 := ⟨_, rfl⟩
        have hP : va_P (dC, dI) cls [(o, .inr (7, [.int th, .int (nI nd), .int (nI ar), .ref fF, .ref fG, .ref fT, .ref fN, .ref fW, .int be, .ref fO, .ref fB, .int bz, .ref fS, .ref fD, .int sz])), (fF, .inl (cI, 41, .inl (nF F))), (fG, .inl (cI, 41, .inl (nF G))), (fT, .inl (cZ, 41, .inl (bF P))), (fN, .inl (cI, 14, .inl N9_3))] H := hP
        have hD := hD.addr (ws' := [(o, .inr (7, [.int th, .int (nI nd), .int (nI ar), .ref fF, .ref fG, .ref fT, .ref fN, .ref fW, .int be, .ref fO, .ref fB, .int bz, .ref fS, .ref fD, .int sz])), (fF, .inl (cI, 41, .inl (nF F))), (fG, .inl (cI, 41, .inl (nF G))), (fT, .inl (cZ, 41, .inl (bF P))), (fN, .inl (cI, 14, .inl N9_3))]) rfl
        refine xe_i (y := (bI (dc (abR ar nd P F G x i)))) hu_3 ?_
        refine x_if_ne (tgt := 26) hx hb d_MO_blockOf_17 (by decide) (fun c_4 => ?_) (fun c_4 => ?_)
        · skip
          refine lv_iload_n hx hb d_MO_blockOf_26 rfl (lv_at hl 2 rfl) ?_
          exact W.iret (v := (nI i)) hx hb hr (fun t9 ht9 _ => ⟨⟨_, (N9_3), rfl, ⟨_, rfl, hi, ⟨c_2, dc_t.mp c_4⟩, hn⟩, by show va_P (dC, dI) cls _ t9.heap; rw [ht9]; exact hP⟩, hS.F ht9⟩) hS.2.2 d_MO_blockOf_27
        · skip
          refine lv_iinc (v := (nI (i + 1))) (lv' := [(2, .int (nI (i + 1))), (0, .ref o), (1, .int (nI x))]) hx hb d_MO_blockOf_20 hl (k := 2) rfl (nI_1 _) (by decide) rfl (fun ls hl => ?_)
          refine lv_goto (tgt := 2) hx hb d_MO_blockOf_23 (by decide) ?_
          exact ih_2 N9_3 (i + 1) (by rcases Nat.lt_or_ge i x with q9 | q9; omega; exact absurd (show P i = true ∧ abR ar nd P F G x i from (by have e9 : i = x := (by omega); subst e9; exact ⟨hPx, Or.inl rfl⟩)) (fun z9 => dc_f.mp c_4 z9.2)) (by rcases Nat.lt_or_ge i x with q9 | q9; exact q9; exact absurd (show P i = true ∧ abR ar nd P F G x i from (by have e9 : i = x := (by omega); subst e9; exact ⟨hPx, Or.inl rfl⟩)) (fun z9 => dc_f.mp c_4 z9.2)) (lt_s hn (fun z9 => dc_f.mp c_4 z9.2)) _ _ hP hD hS ls (lv_sub hl [1, 2, 0] rfl)
  exact L2_1 ((x - 0) + 1) N0 0 (Nat.lt_succ_self _) (by first | assumption | omega) (fun n hn => absurd hn (Nat.not_lt_zero _)) _ _ hP hD hS ls (lv_sub hl [1, 2, 0] rfl)

theorem d_MO_lookTwins_0 : decode prog_9_method_22_code 0 = .ok (.aload_n 0, 1) := by decide +kernel
theorem d_MO_lookTwins_1 : decode prog_9_method_22_code 1 = .ok (.iconst (-1), 1) := by decide +kernel
theorem d_MO_lookTwins_2 : decode prog_9_method_22_code 2 = .ok (.iconst (-1), 1) := by decide +kernel
theorem d_MO_lookTwins_3 : decode prog_9_method_22_code 3 = .ok (.iconst 0, 1) := by decide +kernel
theorem d_MO_lookTwins_4 : decode prog_9_method_22_code 4 = .ok (.iload_n 1, 1) := by decide +kernel
theorem d_MO_lookTwins_5 : decode prog_9_method_22_code 5 = .ok (.invokevirtual 63, 3) := by decide +kernel
theorem d_MO_lookTwins_8 : decode prog_9_method_22_code 8 = .ok (.iconst 0, 1) := by decide +kernel
theorem d_MO_lookTwins_9 : decode prog_9_method_22_code 9 = .ok (.istore_n 2, 1) := by decide +kernel
theorem d_MO_lookTwins_10 : decode prog_9_method_22_code 10 = .ok (.iload_n 2, 1) := by decide +kernel
theorem d_MO_lookTwins_11 : decode prog_9_method_22_code 11 = .ok (.aload_n 0, 1) := by decide +kernel
theorem d_MO_lookTwins_12 : decode prog_9_method_22_code 12 = .ok (.getfield 42, 3) := by decide +kernel
theorem d_MO_lookTwins_15 : decode prog_9_method_22_code 15 = .ok (.if_icmp .ge 22, 3) := by decide +kernel
theorem d_MO_lookTwins_18 : decode prog_9_method_22_code 18 = .ok (.aload_n 0, 1) := by decide +kernel
theorem d_MO_lookTwins_19 : decode prog_9_method_22_code 19 = .ok (.getfield 23, 3) := by decide +kernel
theorem d_MO_lookTwins_22 : decode prog_9_method_22_code 22 = .ok (.iload_n 2, 1) := by decide +kernel
theorem d_MO_lookTwins_23 : decode prog_9_method_22_code 23 = .ok (.aload_n 0, 1) := by decide +kernel
theorem d_MO_lookTwins_24 : decode prog_9_method_22_code 24 = .ok (.iconst 1, 1) := by decide +kernel
theorem d_MO_lookTwins_25 : decode prog_9_method_22_code 25 = .ok (.iload_n 2, 1) := by decide +kernel
theorem d_MO_lookTwins_26 : decode prog_9_method_22_code 26 = .ok (.ishl, 1) := by decide +kernel
theorem d_MO_lookTwins_27 : decode prog_9_method_22_code 27 = .ok (.invokevirtual 60, 3) := by decide +kernel
theorem d_MO_lookTwins_30 : decode prog_9_method_22_code 30 = .ok (.iastore, 1) := by decide +kernel
theorem d_MO_lookTwins_31 : decode prog_9_method_22_code 31 = .ok (.iinc 2 1, 3) := by decide +kernel
theorem d_MO_lookTwins_34 : decode prog_9_method_22_code 34 = .ok (.goto (-24), 3) := by decide +kernel
theorem d_MO_lookTwins_37 : decode prog_9_method_22_code 37 = .ok (.iconst 0, 1) := by decide +kernel
theorem d_MO_lookTwins_38 : decode prog_9_method_22_code 38 = .ok (.istore_n 2, 1) := by decide +kernel
theorem d_MO_lookTwins_39 : decode prog_9_method_22_code 39 = .ok (.iload_n 2, 1) := by decide +kernel
theorem d_MO_lookTwins_40 : decode prog_9_method_22_code 40 = .ok (.aload_n 0, 1) := by decide +kernel
theorem d_MO_lookTwins_41 : decode prog_9_method_22_code 41 = .ok (.getfield 45, 3) := by decide +kernel
theorem d_MO_lookTwins_44 : decode prog_9_method_22_code 44 = .ok (.iload_n 1, 1) := by decide +kernel
theorem d_MO_lookTwins_45 : decode prog_9_method_22_code 45 = .ok (.iadd, 1) := by decide +kernel
theorem d_MO_lookTwins_46 : decode prog_9_method_22_code 46 = .ok (.if_icmp .ge 70, 3) := by decide +kernel
theorem d_MO_lookTwins_49 : decode prog_9_method_22_code 49 = .ok (.iload_n 2, 1) := by decide +kernel
theorem d_MO_lookTwins_50 : decode prog_9_method_22_code 50 = .ok (.aload_n 0, 1) := by decide +kernel
theorem d_MO_lookTwins_51 : decode prog_9_method_22_code 51 = .ok (.getfield 45, 3) := by decide +kernel
theorem d_MO_lookTwins_54 : decode prog_9_method_22_code 54 = .ok (.if_icmp .eq 12, 3) := by decide +kernel
theorem d_MO_lookTwins_57 : decode prog_9_method_22_code 57 = .ok (.aload_n 0, 1) := by decide +kernel
theorem d_MO_lookTwins_58 : decode prog_9_method_22_code 58 = .ok (.getfield 16, 3) := by decide +kernel
theorem d_MO_lookTwins_61 : decode prog_9_method_22_code 61 = .ok (.iload_n 2, 1) := by decide +kernel
theorem d_MO_lookTwins_62 : decode prog_9_method_22_code 62 = .ok (.baload, 1) := by decide +kernel
theorem d_MO_lookTwins_63 : decode prog_9_method_22_code 63 = .ok (.ifCond .eq 47, 3) := by decide +kernel
theorem d_MO_lookTwins_66 : decode prog_9_method_22_code 66 = .ok (.aload_n 0, 1) := by decide +kernel
theorem d_MO_lookTwins_67 : decode prog_9_method_22_code 67 = .ok (.iload_n 2, 1) := by decide +kernel
theorem d_MO_lookTwins_68 : decode prog_9_method_22_code 68 = .ok (.iconst (-1), 1) := by decide +kernel
theorem d_MO_lookTwins_69 : decode prog_9_method_22_code 69 = .ok (.iconst 0, 1) := by decide +kernel
theorem d_MO_lookTwins_70 : decode prog_9_method_22_code 70 = .ok (.iload_n 1, 1) := by decide +kernel
theorem d_MO_lookTwins_71 : decode prog_9_method_22_code 71 = .ok (.invokevirtual 63, 3) := by decide +kernel
theorem d_MO_lookTwins_74 : decode prog_9_method_22_code 74 = .ok (.iconst 0, 1) := by decide +kernel
theorem d_MO_lookTwins_75 : decode prog_9_method_22_code 75 = .ok (.istore_n 3, 1) := by decide +kernel
theorem d_MO_lookTwins_76 : decode prog_9_method_22_code 76 = .ok (.iload_n 3, 1) := by decide +kernel
theorem d_MO_lookTwins_77 : decode prog_9_method_22_code 77 = .ok (.aload_n 0, 1) := by decide +kernel
theorem d_MO_lookTwins_78 : decode prog_9_method_22_code 78 = .ok (.getfield 42, 3) := by decide +kernel
theorem d_MO_lookTwins_81 : decode prog_9_method_22_code 81 = .ok (.if_icmp .ge 29, 3) := by decide +kernel
theorem d_MO_lookTwins_84 : decode prog_9_method_22_code 84 = .ok (.aload_n 0, 1) := by decide +kernel
theorem d_MO_lookTwins_85 : decode prog_9_method_22_code 85 = .ok (.getfield 23, 3) := by decide +kernel
theorem d_MO_lookTwins_88 : decode prog_9_method_22_code 88 = .ok (.iload_n 3, 1) := by decide +kernel
theorem d_MO_lookTwins_89 : decode prog_9_method_22_code 89 = .ok (.aload_n 0, 1) := by decide +kernel
theorem d_MO_lookTwins_90 : decode prog_9_method_22_code 90 = .ok (.getfield 23, 3) := by decide +kernel
theorem d_MO_lookTwins_93 : decode prog_9_method_22_code 93 = .ok (.iload_n 3, 1) := by decide +kernel
theorem d_MO_lookTwins_94 : decode prog_9_method_22_code 94 = .ok (.iaload, 1) := by decide +kernel
theorem d_MO_lookTwins_95 : decode prog_9_method_22_code 95 = .ok (.aload_n 0, 1) := by decide +kernel
theorem d_MO_lookTwins_96 : decode prog_9_method_22_code 96 = .ok (.iconst 1, 1) := by decide +kernel
theorem d_MO_lookTwins_97 : decode prog_9_method_22_code 97 = .ok (.iload_n 3, 1) := by decide +kernel
theorem d_MO_lookTwins_98 : decode prog_9_method_22_code 98 = .ok (.ishl, 1) := by decide +kernel
theorem d_MO_lookTwins_99 : decode prog_9_method_22_code 99 = .ok (.invokevirtual 60, 3) := by decide +kernel
theorem d_MO_lookTwins_102 : decode prog_9_method_22_code 102 = .ok (.iand, 1) := by decide +kernel
theorem d_MO_lookTwins_103 : decode prog_9_method_22_code 103 = .ok (.iastore, 1) := by decide +kernel
theorem d_MO_lookTwins_104 : decode prog_9_method_22_code 104 = .ok (.iinc 3 1, 3) := by decide +kernel
theorem d_MO_lookTwins_107 : decode prog_9_method_22_code 107 = .ok (.goto (-31), 3) := by decide +kernel
theorem d_MO_lookTwins_110 : decode prog_9_method_22_code 110 = .ok (.iinc 2 1, 3) := by decide +kernel
theorem d_MO_lookTwins_113 : decode prog_9_method_22_code 113 = .ok (.goto (-74), 3) := by decide +kernel
theorem d_MO_lookTwins_116 : decode prog_9_method_22_code 116 = .ok (.return_, 1) := by decide +kernel
set_option maxHeartbeats 4000000 in
set_option maxRecDepth 100000 in
theorem c_MO_lookTwins (l : Launch) (dC : Nat → ClassId) (dI : Nat → Nat → Nat) (cI cJ cZ : ClassId) (o fF fG fT fN fW fO fB fS fD : Nat) (th be bz sz : Int32) (nd ar : Nat) (F G : Nat → Nat) (P : Nat → Bool) (hF : ∀ k, F k < 14) (hG : ∀ k, G k < 14) (hnd : nd ≤ 14) (har : ar ≤ 40) (mo : Nat) (hmo : ar + mo ≤ 41) (hM : ∀ e, e < ar + mo → F e < nd ∧ G e < nd) (N0 W0 : Nat → Int32) : Met l ⟨"CutPointsModel", "lookTwins", "(I)V"⟩ (Cond.code ⟨"CutPointsModel", "lookTwins", "(I)V"⟩ prog_9_method_22_code 4 none :: TT) (rmk 1 27) (PM dC dI cI cJ cZ [.ref o, .int (nI mo)] [(o, .inr (7, [.int th, .int (nI nd), .int (nI ar), .ref fF, .ref fG, .ref fT, .ref fN, .ref fW, .int be, .ref fO, .ref fB, .int bz, .ref fS, .ref fD, .int sz])), (fF, .inl (cI, 41, .inl (nF F))), (fG, .inl (cI, 41, .inl (nF G))), (fT, .inl (cZ, 41, .inl (bF P))), (fN, .inl (cI, 14, .inl N0)), (fW, .inl (cI, 14, .inl W0))]) (va_Qv (S := (Nat → Int32) × (Nat → Int32)) (fun u9 => twI ar mo nd P F G u9.2 (ar + mo)) (fun u9 t9 => va_P (dC, dI) cls ([(o, .inr (7, [.int th, .int (nI nd), .int (nI ar), .ref fF, .ref fG, .ref fT, .ref fN, .ref fW, .int be, .ref fO, .ref fB, .int bz, .ref fS, .ref fD, .int sz])), (fF, .inl (cI, 41, .inl (nF F))), (fG, .inl (cI, 41, .inl (nF G))), (fT, .inl (cZ, 41, .inl (bF P))), (fN, .inl (cI, 14, .inl u9.1)), (fW, .inl (cI, 14, .inl u9.2))]) t9.heap) (ow [(o, .inr (7, [.int th, .int (nI nd), .int (nI ar), .ref fF, .ref fG, .ref fT, .ref fN, .ref fW, .int be, .ref fO, .ref fB, .int bz, .ref fS, .ref fD, .int sz])), (fF, .inl (cI, 41, .inl (nF F))), (fG, .inl (cI, 41, .inl (nF G))), (fT, .inl (cZ, 41, .inl (bF P))), (fN, .inl (cI, 14, .inl N0)), (fW, .inl (cI, 14, .inl W0))])) 0 0 (ow [(o, .inr (7, [.int th, .int (nI nd), .int (nI ar), .ref fF, .ref fG, .ref fT, .ref fN, .ref fW, .int be, .ref fO, .ref fB, .int bz, .ref fS, .ref fD, .int sz])), (fF, .inl (cI, 41, .inl (nF F))), (fG, .inl (cI, 41, .inl (nF G))), (fT, .inl (cZ, 41, .inl (bF P))), (fN, .inl (cI, 14, .inl N0)), (fW, .inl (cI, 14, .inl W0))]) := by
  refine Met.ofW (cc := prog_9_method_22_code) (maxL := 4) (ret := none) (by decide) rfl ?_
  intro p e s m args below meth c s₁ BB9 hml hv
  obtain ⟨rfl, hP, hK, hD0⟩ := hv
  have hx := BB9.exec
  have hb := BB9.bytes
  have hr := BB9.returns
  have hts : ∀ w ∈ TT, w.before _ s = true := fun w h => atoms_spec (ws := (Cond.code ⟨"CutPointsModel", "lookTwins", "(I)V"⟩ prog_9_method_22_code 4 none :: TT)) BB9.pre w (List.mem_cons_of_mem _ h)
  have hown : s.vm.findClass "CutPointsModel" = some m.cls := findClass_of_methodNamed BB9.named
  have hlocks := BB9.notSynchronized
  have hD := hD0.mine
  have hS : va_S (ow [(o, .inr (7, [.int th, .int (nI nd), .int (nI ar), .ref fF, .ref fG, .ref fT, .ref fN, .ref fW, .int be, .ref fO, .ref fB, .int bz, .ref fS, .ref fD, .int sz])), (fF, .inl (cI, 41, .inl (nF F))), (fG, .inl (cI, 41, .inl (nF G))), (fT, .inl (cZ, 41, .inl (bF P))), (fN, .inl (cI, 14, .inl N0)), (fW, .inl (cI, 14, .inl W0))]) s.heap s.heap [] := va_S.rf
  have hl := lv_entry ([.ref o, .int (nI mo)]) (n := 4) (Nat.le_of_ble_eq_true rfl)
  rw [lg_entry_eq]
  generalize (lg_sl ([.ref o, .int (nI mo)]) ++ List.replicate (4 - (lg_sl ([.ref o, .int (nI mo)])).length) Slot.unset).toArray = ls at hl ⊢
  have hl : lv_has ls 4 [(0, .ref o), (1, .int (nI mo))] := hl
  refine lv_aload_n hx hb d_MO_lookTwins_0 rfl (lv_at hl 0 rfl) ?_
  refine lv_iconst (v := (-1)) hx hb d_MO_lookTwins_1 (by decide) ?_
  refine lv_iconst (v := (-1)) hx hb d_MO_lookTwins_2 (by decide) ?_
  refine lv_iconst (v := (nI 0)) hx hb d_MO_lookTwins_3 (by decide) ?_
  refine lv_iload_n hx hb d_MO_lookTwins_4 rfl (lv_at hl 1 rfl) ?_
  refine x_cv (k_V (n := 4) (C := R_MO) (rest := []) ⟨hx, hb, hml, hown, hts⟩ (c_MO_look l dC dI cI cJ cZ o fF fG fT fN fW fO fB fS fD th be bz sz nd ar F G P hF hG N0 (-1) (-1) (nI 0) mo (by first | assumption | omega)) wml_MO_63 wim_MO_look wsel_MO_look wini_MO wcode_MO_look (by decide +kernel) ⟨Nat.le_of_ble_eq_true rfl, Nat.le_of_ble_eq_true rfl⟩ (preV_M (q := (R_MO, F_MO, 15)) (ci := 7) (q0 := 0) (hP.sub (ws' := [(o, .inr (7, [.int th, .int (nI nd), .int (nI ar), .ref fF, .ref fG, .ref fT, .ref fN, .ref fW, .int be, .ref fO, .ref fB, .int bz, .ref fS, .ref fD, .int sz])), (fF, .inl (cI, 41, .inl (nF F))), (fG, .inl (cI, 41, .inl (nF G))), (fT, .inl (cZ, 41, .inl (bF P))), (fN, .inl (cI, 14, .inl N0))]) [0, 1, 2, 3, 4] rfl) hK (hD.sub (ws' := [(o, .inr (7, [.int th, .int (nI nd), .int (nI ar), .ref fF, .ref fG, .ref fT, .ref fN, .ref fW, .int be, .ref fO, .ref fB, .int bz, .ref fS, .ref fD, .int sz])), (fF, .inl (cI, 41, .inl (nF F))), (fG, .inl (cI, 41, .inl (nF G))), (fT, .inl (cZ, 41, .inl (bF P))), (fN, .inl (cI, 14, .inl N0))]) [0, 1, 2, 3, 4] (by decide) rfl) rfl rfl) rfl hl.1 rfl (Nat.le_of_ble_eq_true rfl) d_MO_lookTwins_5 ⟨Nat.zero_le _, Nat.zero_le _⟩) hP hD hS [0, 1, 2, 3, 4] rfl (fun _ => rfl) (fun u_1 H locs hu_1 hP hS => ?_)
  obtain ⟨N9_1, rfl⟩ : ∃ z, z = u_1 := ⟨_, rfl⟩
  have hP : va_P (dC, dI) cls [(o, .inr (7, [.int th, .int (nI nd), .int (nI ar), .ref fF, .ref fG, .ref fT, .ref fN, .ref fW, .int be, .ref fO, .ref fB, .int bz, .ref fS, .ref fD, .int sz])), (fF, .inl (cI, 41, .inl (nF F))), (fG, .inl (cI, 41, .inl (nF G))), (fT, .inl (cZ, 41, .inl (bF P))), (fN, .inl (cI, 14, .inl N9_1)), (fW, .inl (cI, 14, .inl W0))] H := hP
  have hD := hD.addr (ws' := [(o, .inr (7, [.int th, .int (nI nd), .int (nI ar), .ref fF, .ref fG, .ref fT, .ref fN, .ref fW, .int be, .ref fO, .ref fB, .int bz, .ref fS, .ref fD, .int sz])), (fF, .inl (cI, 41, .inl (nF F))), (fG, .inl (cI, 41, .inl (nF G))), (fT, .inl (cZ, 41, .inl (bF P))), (fN, .inl (cI, 14, .inl N9_1)), (fW, .inl (cI, 14, .inl W0))]) rfl
  refine lv_iconst (v := (nI 0)) hx hb d_MO_lookTwins_8 (by decide) ?_
  refine lv_istore_n (lv' := [(2, .int (nI 0)), (0, .ref o), (1, .int (nI mo))]) hx hb d_MO_lookTwins_9 rfl hl (by decide) rfl (fun ls hl => ?_)
  have L10_2 : ∀ (n : Nat) (W2 : Nat → Int32) (j : Nat) (hn : nd - j < n) (hj : j ≤ nd) (h0 : tw0 (lkT ar mo P (-1) (-1) (nI 0) F G) F G W2 j) (H : Heap) (locs : List Loc) (hP : va_P (dC, dI) cls [(o, .inr (7, [.int th, .int (nI nd), .int (nI ar), .ref fF, .ref fG, .ref fT, .ref fN, .ref fW, .int be, .ref fO, .ref fB, .int bz, .ref fS, .ref fD, .int sz])), (fF, .inl (cI, 41, .inl (nF F))), (fG, .inl (cI, 41, .inl (nF G))), (fT, .inl (cZ, 41, .inl (bF P))), (fN, .inl (cI, 14, .inl N9_1)), (fW, .inl (cI, 14, .inl W2))] H) (hD : va_D (ow [(o, .inr (7, [.int th, .int (nI nd), .int (nI ar), .ref fF, .ref fG, .ref fT, .ref fN, .ref fW, .int be, .ref fO, .ref fB, .int bz, .ref fS, .ref fD, .int sz])), (fF, .inl (cI, 41, .inl (nF F))), (fG, .inl (cI, 41, .inl (nF G))), (fT, .inl (cZ, 41, .inl (bF P))), (fN, .inl (cI, 14, .inl N0)), (fW, .inl (cI, 14, .inl W0))]) [(o, .inr (7, [.int th, .int (nI nd), .int (nI ar), .ref fF, .ref fG, .ref fT, .ref fN, .ref fW, .int be, .ref fO, .ref fB, .int bz, .ref fS, .ref fD, .int sz])), (fF, .inl (cI, 41, .inl (nF F))), (fG, .inl (cI, 41, .inl (nF G))), (fT, .inl (cZ, 41, .inl (bF P))), (fN, .inl (cI, 14, .inl N9_1)), (fW, .inl (cI, 14, .inl W2))]) (hS : va_S (ow [(o, .inr (7, [.int th, .int (nI nd), .int (nI ar), .ref fF, .ref fG, .ref fT, .ref fN, .ref fW, .int be, .ref fO, .ref fB, .int bz, .ref fS, .ref fD, .int sz])), (fF, .inl (cI, 41, .inl (nF F))), (fG, .inl (cI, 41, .inl (nF G))), (fT, .inl (cZ, 41, .inl (bF P))), (fN, .inl (cI, 14, .inl N0)), (fW, .inl (cI, 14, .inl W0))]) s.heap H locs) (ls : Array Slot) (hl : lv_has ls 4 [(0, .ref o), (1, .int (nI mo)), (2, .int (nI j))]), W p l e (headSpec (Cond.code ⟨"CutPointsModel", "lookTwins", "(I)V"⟩ prog_9_method_22_code 4 none :: TT) (rmk 1 27)).room s m ([.ref o, .int (nI mo)] : List Value).toArray below meth c H locs 0 0 (MQ below (va_Qv (S := (Nat → Int32) × (Nat → Int32)) (fun u9 => twI ar mo nd P F G u9.2 (ar + mo)) (fun u9 t9 => va_P (dC, dI) cls ([(o, .inr (7, [.int th, .int (nI nd), .int (nI ar), .ref fF, .ref fG, .ref fT, .ref fN, .ref fW, .int be, .ref fO, .ref fB, .int bz, .ref fS, .ref fD, .int sz])), (fF, .inl (cI, 41, .inl (nF F))), (fG, .inl (cI, 41, .inl (nF G))), (fT, .inl (cZ, 41, .inl (bF P))), (fN, .inl (cI, 14, .inl u9.1)), (fW, .inl (cI, 14, .inl u9.2))]) t9.heap) (ow [(o, .inr (7, [.int th, .int (nI nd), .int (nI ar), .ref fF, .ref fG, .ref fT, .ref fN, .ref fW, .int be, .ref fO, .ref fB, .int bz, .ref fS, .ref fD, .int sz])), (fF, .inl (cI, 41, .inl (nF F))), (fG, .inl (cI, 41, .inl (nF G))), (fT, .inl (cZ, 41, .inl (bF P))), (fN, .inl (cI, 14, .inl N0)), (fW, .inl (cI, 14, .inl W0))])) ([.ref o, .int (nI mo)] : List Value).toArray s 0 0 (ow [(o, .inr (7, [.int th, .int (nI nd), .int (nI ar), .ref fF, .ref fG, .ref fT, .ref fN, .ref fW, .int be, .ref fO, .ref fB, .int bz, .ref fS, .ref fD, .int sz])), (fF, .inl (cI, 41, .inl (nF F))), (fG, .inl (cI, 41, .inl (nF G))), (fT, .inl (cZ, 41, .inl (bF P))), (fN, .inl (cI, 14, .inl N0)), (fW, .inl (cI, 14, .inl W0))])) (F0 m 10 ls []) := by
    intro n_10
    induction n_10 with
    | zero =>
      intro W2 j hn_10
      exact absurd hn_10 (Nat.not_lt_zero _)
    | succ n_10 ih_10 =>
      intro W2 j hn_10 hj h0 H locs hP hD hS ls hl
      refine lv_iload_n hx hb d_MO_lookTwins_10 rfl (lv_at hl 2 rfl) ?_
      refine lv_aload_n hx hb d_MO_lookTwins_11 rfl (lv_at hl 0 rfl) ?_
      refine va_get (D := (dC, dI)) (ci := 7) (v := .int (nI nd)) (C := R_MO) (T := F_MO) (N := 15) hx hb hts in_MO hown hK.1 hP 0 rfl rfl 1 (by decide) (hts _ wfl_MO_42) (fun _ h9 => h9) rfl d_MO_lookTwins_12 ?_
      refine x_cmp_ge (a := j) (b := nd) (tgt := 37) hx hb (by omega) (by omega) d_MO_lookTwins_15 (by decide) (fun c_3 => ?_) (fun c_3 => ?_)
      · skip
        refine lv_iconst (v := (nI 0)) hx hb d_MO_lookTwins_37 (by decide) ?_
        refine lv_istore_n (lv' := [(2, .int (nI 0)), (0, .ref o), (1, .int (nI mo))]) hx hb d_MO_lookTwins_38 rfl hl (by decide) rfl (fun ls hl => ?_)
        have L39_4 : ∀ (n : Nat) (N2 : Nat → Int32) (W2 : Nat → Int32) (i : Nat) (hn : ar + mo - i < n) (hi : i ≤ ar + mo) (hw : twI ar mo nd P F G W2 i) (H : Heap) (locs : List Loc) (hP : va_P (dC, dI) cls [(o, .inr (7, [.int th, .int (nI nd), .int (nI ar), .ref fF, .ref fG, .ref fT, .ref fN, .ref fW, .int be, .ref fO, .ref fB, .int bz, .ref fS, .ref fD, .int sz])), (fF, .inl (cI, 41, .inl (nF F))), (fG, .inl (cI, 41, .inl (nF G))), (fT, .inl (cZ, 41, .inl (bF P))), (fN, .inl (cI, 14, .inl N2)), (fW, .inl (cI, 14, .inl W2))] H) (hD : va_D (ow [(o, .inr (7, [.int th, .int (nI nd), .int (nI ar), .ref fF, .ref fG, .ref fT, .ref fN, .ref fW, .int be, .ref fO, .ref fB, .int bz, .ref fS, .ref fD, .int sz])), (fF, .inl (cI, 41, .inl (nF F))), (fG, .inl (cI, 41, .inl (nF G))), (fT, .inl (cZ, 41, .inl (bF P))), (fN, .inl (cI, 14, .inl N0)), (fW, .inl (cI, 14, .inl W0))]) [(o, .inr (7, [.int th, .int (nI nd), .int (nI ar), .ref fF, .ref fG, .ref fT, .ref fN, .ref fW, .int be, .ref fO, .ref fB, .int bz, .ref fS, .ref fD, .int sz])), (fF, .inl (cI, 41, .inl (nF F))), (fG, .inl (cI, 41, .inl (nF G))), (fT, .inl (cZ, 41, .inl (bF P))), (fN, .inl (cI, 14, .inl N2)), (fW, .inl (cI, 14, .inl W2))]) (hS : va_S (ow [(o, .inr (7, [.int th, .int (nI nd), .int (nI ar), .ref fF, .ref fG, .ref fT, .ref fN, .ref fW, .int be, .ref fO, .ref fB, .int bz, .ref fS, .ref fD, .int sz])), (fF, .inl (cI, 41, .inl (nF F))), (fG, .inl (cI, 41, .inl (nF G))), (fT, .inl (cZ, 41, .inl (bF P))), (fN, .inl (cI, 14, .inl N0)), (fW, .inl (cI, 14, .inl W0))]) s.heap H locs) (ls : Array Slot) (hl : lv_has ls 4 [(0, .ref o), (1, .int (nI mo)), (2, .int (nI i))]), W p l e (headSpec (Cond.code ⟨"CutPointsModel", "lookTwins", "(I)V"⟩ prog_9_method_22_code 4 none :: TT) (rmk 1 27)).room s m ([.ref o, .int (nI mo)] : List Value).toArray below meth c H locs 0 0 (MQ below (va_Qv (S := (Nat → Int32) × (Nat → Int32)) (fun u9 => twI ar mo nd P F G u9.2 (ar + mo)) (fun u9 t9 => va_P (dC, dI) cls ([(o, .inr (7, [.int th, .int (nI nd), .int (nI ar), .ref fF, .ref fG, .ref fT, .ref fN, .ref fW, .int be, .ref fO, .ref fB, .int bz, .ref fS, .ref fD, .int sz])), (fF, .inl (cI, 41, .inl (nF F))), (fG, .inl (cI, 41, .inl (nF G))), (fT, .inl (cZ, 41, .inl (bF P))), (fN, .inl (cI, 14, .inl u9.1)), (fW, .inl (cI, 14, .inl u9.2))]) t9.heap) (ow [(o, .inr (7, [.int th, .int (nI nd), .int (nI ar), .ref fF, .ref fG, .ref fT, .ref fN, .ref fW, .int be, .ref fO, .ref fB, .int bz, .ref fS, .ref fD, .int sz])), (fF, .inl (cI, 41, .inl (nF F))), (fG, .inl (cI, 41, .inl (nF G))), (fT, .inl (cZ, 41, .inl (bF P))), (fN, .inl (cI, 14, .inl N0)), (fW, .inl (cI, 14, .inl W0))])) ([.ref o, .int (nI mo)] : List Value).toArray s 0 0 (ow [(o, .inr (7, [.int th, .int (nI nd), .int (nI ar), .ref fF, .ref fG, .ref fT, .ref fN, .ref fW, .int be, .ref fO, .ref fB, .int bz, .ref fS, .ref fD, .int sz])), (fF, .inl (cI, 41, .inl (nF F))), (fG, .inl (cI, 41, .inl (nF G))), (fT, .inl (cZ, 41, .inl (bF P))), (fN, .inl (cI, 14, .inl N0)), (fW, .inl (cI, 14, .inl W0))])) (F0 m 39 ls []) := by
          intro n_39
          induction n_39 with
          | zero =>
            intro N2 W2 i hn_39
            exact absurd hn_39 (Nat.not_lt_zero _)
          | succ n_39 ih_39 =>
            intro N2 W2 i hn_39 hi hw H locs hP hD hS ls hl
            refine lv_iload_n hx hb d_MO_lookTwins_39 rfl (lv_at hl 2 rfl) ?_
            refine lv_aload_n hx hb d_MO_lookTwins_40 rfl (lv_at hl 0 rfl) ?_
            refine va_get (D := (dC, dI)) (ci := 7) (v := .int (nI ar)) (C := R_MO) (T := F_MO) (N := 15) hx hb hts in_MO hown hK.1 hP 0 rfl rfl 2 (by decide) (hts _ wfl_MO_45) (fun _ h9 => h9) rfl d_MO_lookTwins_41 ?_
            refine lv_iload_n hx hb d_MO_lookTwins_44 rfl (lv_at hl 1 rfl) ?_
            refine lv_iadd hx hb d_MO_lookTwins_45 ?_
            refine xe_i (nI_add _ _) ?_
            refine x_cmp_ge (a := i) (b := (ar + mo)) (tgt := 116) hx hb (by omega) (by omega) d_MO_lookTwins_46 (by decide) (fun c_5 => ?_) (fun c_5 => ?_)
            · skip
              exact W.vret hx hb hr (fun t9 ht9 _ => ⟨⟨(N2, W2), rfl, (by have e9 : i = ar + mo := (by omega); subst e9; exact hw), by show va_P (dC, dI) cls _ t9.heap; rw [ht9]; exact hP⟩, hS.F ht9⟩) hS.2.2 d_MO_lookTwins_116
            · skip
              refine lv_iload_n hx hb d_MO_lookTwins_49 rfl (lv_at hl 2 rfl) ?_
              refine lv_aload_n hx hb d_MO_lookTwins_50 rfl (lv_at hl 0 rfl) ?_
              refine va_get (D := (dC, dI)) (ci := 7) (v := .int (nI ar)) (C := R_MO) (T := F_MO) (N := 15) hx hb hts in_MO hown hK.1 hP 0 rfl rfl 2 (by decide) (hts _ wfl_MO_45) (fun _ h9 => h9) rfl d_MO_lookTwins_51 ?_
              refine x_cmp_eq (a := i) (b := ar) (tgt := 66) hx hb (by omega) (by omega) d_MO_lookTwins_54 (by decide) (fun c_6 => ?_) (fun c_6 => ?_)
              · skip
                refine lv_aload_n hx hb d_MO_lookTwins_66 rfl (lv_at hl 0 rfl) ?_
                refine lv_iload_n hx hb d_MO_lookTwins_67 rfl (lv_at hl 2 rfl) ?_
                refine lv_iconst (v := (-1)) hx hb d_MO_lookTwins_68 (by decide) ?_
                refine lv_iconst (v := (nI 0)) hx hb d_MO_lookTwins_69 (by decide) ?_
                refine lv_iload_n hx hb d_MO_lookTwins_70 rfl (lv_at hl 1 rfl) ?_
                refine x_cv (k_V (n := 4) (C := R_MO) (rest := []) ⟨hx, hb, hml, hown, hts⟩ (c_MO_look l dC dI cI cJ cZ o fF fG fT fN fW fO fB fS fD th be bz sz nd ar F G P hF hG N2 (nI i) (-1) (nI 0) mo (by first | assumption | omega)) wml_MO_63 wim_MO_look wsel_MO_look wini_MO wcode_MO_look (by decide +kernel) ⟨Nat.le_of_ble_eq_true rfl, Nat.le_of_ble_eq_true rfl⟩ (preV_M (q := (R_MO, F_MO, 15)) (ci := 7) (q0 := 0) (hP.sub (ws' := [(o, .inr (7, [.int th, .int (nI nd), .int (nI ar), .ref fF, .ref fG, .ref fT, .ref fN, .ref fW, .int be, .ref fO, .ref fB, .int bz, .ref fS, .ref fD, .int sz])), (fF, .inl (cI, 41, .inl (nF F))), (fG, .inl (cI, 41, .inl (nF G))), (fT, .inl (cZ, 41, .inl (bF P))), (fN, .inl (cI, 14, .inl N2))]) [0, 1, 2, 3, 4] rfl) hK (hD.sub (ws' := [(o, .inr (7, [.int th, .int (nI nd), .int (nI ar), .ref fF, .ref fG, .ref fT, .ref fN, .ref fW, .int be, .ref fO, .ref fB, .int bz, .ref fS, .ref fD, .int sz])), (fF, .inl (cI, 41, .inl (nF F))), (fG, .inl (cI, 41, .inl (nF G))), (fT, .inl (cZ, 41, .inl (bF P))), (fN, .inl (cI, 14, .inl N2))]) [0, 1, 2, 3, 4] (by decide) rfl) rfl rfl) rfl hl.1 rfl (Nat.le_of_ble_eq_true rfl) d_MO_lookTwins_71 ⟨Nat.zero_le _, Nat.zero_le _⟩) hP hD hS [0, 1, 2, 3, 4] rfl (fun _ => rfl) (fun u_7 H locs hu_7 hP hS => ?_)
                obtain ⟨N9_7, rfl⟩ : ∃ z, z = u_7 := ⟨_, rfl⟩
                have hP : va_P (dC, dI) cls [(o, .inr (7, [.int th, .int (nI nd), .int (nI ar), .ref fF, .ref fG, .ref fT, .ref fN, .ref fW, .int be, .ref fO, .ref fB, .int bz, .ref fS, .ref fD, .int sz])), (fF, .inl (cI, 41, .inl (nF F))), (fG, .inl (cI, 41, .inl (nF G))), (fT, .inl (cZ, 41, .inl (bF P))), (fN, .inl (cI, 14, .inl N9_7)), (fW, .inl (cI, 14, .inl W2))] H := hP
                have hD := hD.addr (ws' := [(o, .inr (7, [.int th, .int (nI nd), .int (nI ar), .ref fF, .ref fG, .ref fT, .ref fN, .ref fW, .int be, .ref fO, .ref fB, .int bz, .ref fS, .ref fD, .int sz])), (fF, .inl (cI, 41, .inl (nF F))), (fG, .inl (cI, 41, .inl (nF G))), (fT, .inl (cZ, 41, .inl (bF P))), (fN, .inl (cI, 14, .inl N9_7)), (fW, .inl (cI, 14, .inl W2))]) rfl
                refine lv_iconst (v := (nI 0)) hx hb d_MO_lookTwins_74 (by decide) ?_
                refine lv_istore_n (lv' := [(3, .int (nI 0)), (0, .ref o), (1, .int (nI mo)), (2, .int (nI i))]) hx hb d_MO_lookTwins_75 rfl hl (by decide) rfl (fun ls hl => ?_)
                have L76_8 : ∀ (n : Nat) (W3 : Nat → Int32) (j : Nat) (hn : nd - j < n) (hj : j ≤ nd) (hh : twH ar mo nd P F G W2 W3 i j) (H : Heap) (locs : List Loc) (hP : va_P (dC, dI) cls [(o, .inr (7, [.int th, .int (nI nd), .int (nI ar), .ref fF, .ref fG, .ref fT, .ref fN, .ref fW, .int be, .ref fO, .ref fB, .int bz, .ref fS, .ref fD, .int sz])), (fF, .inl (cI, 41, .inl (nF F))), (fG, .inl (cI, 41, .inl (nF G))), (fT, .inl (cZ, 41, .inl (bF P))), (fN, .inl (cI, 14, .inl N9_7)), (fW, .inl (cI, 14, .inl W3))] H) (hD : va_D (ow [(o, .inr (7, [.int th, .int (nI nd), .int (nI ar), .ref fF, .ref fG, .ref fT, .ref fN, .ref fW, .int be, .ref fO, .ref fB, .int bz, .ref fS, .ref fD, .int sz])), (fF, .inl (cI, 41, .inl (nF F))), (fG, .inl (cI, 41, .inl (nF G))), (fT, .inl (cZ, 41, .inl (bF P))), (fN, .inl (cI, 14, .inl N0)), (fW, .inl (cI, 14, .inl W0))]) [(o, .inr (7, [.int th, .int (nI nd), .int (nI ar), .ref fF, .ref fG, .ref fT, .ref fN, .ref fW, .int be, .ref fO, .ref fB, .int bz, .ref fS, .ref fD, .int sz])), (fF, .inl (cI, 41, .inl (nF F))), (fG, .inl (cI, 41, .inl (nF G))), (fT, .inl (cZ, 41, .inl (bF P))), (fN, .inl (cI, 14, .inl N9_7)), (fW, .inl (cI, 14, .inl W3))]) (hS : va_S (ow [(o, .inr (7, [.int th, .int (nI nd), .int (nI ar), .ref fF, .ref fG, .ref fT, .ref fN, .ref fW, .int be, .ref fO, .ref fB, .int bz, .ref fS, .ref fD, .int sz])), (fF, .inl (cI, 41, .inl (nF F))), (fG, .inl (cI, 41, .inl (nF G))), (fT, .inl (cZ, 41, .inl (bF P))), (fN, .inl (cI, 14, .inl N0)), (fW, .inl (cI, 14, .inl W0))]) s.heap H locs) (ls : Array Slot) (hl : lv_has ls 4 [(0, .ref o), (1, .int (nI mo)), (2, .int (nI i)), (3, .int (nI j))]), W p l e (headSpec (Cond.code ⟨"CutPointsModel", "lookTwins", "(I)V"⟩ prog_9_method_22_code 4 none :: TT) (rmk 1 27)).room s m ([.ref o, .int (nI mo)] : List Value).toArray below meth c H locs 0 0 (MQ below (va_Qv (S := (Nat → Int32) × (Nat → Int32)) (fun u9 => twI ar mo nd P F G u9.2 (ar + mo)) (fun u9 t9 => va_P (dC, dI) cls ([(o, .inr (7, [.int th, .int (nI nd), .int (nI ar), .ref fF, .ref fG, .ref fT, .ref fN, .ref fW, .int be, .ref fO, .ref fB, .int bz, .ref fS, .ref fD, .int sz])), (fF, .inl (cI, 41, .inl (nF F))), (fG, .inl (cI, 41, .inl (nF G))), (fT, .inl (cZ, 41, .inl (bF P))), (fN, .inl (cI, 14, .inl u9.1)), (fW, .inl (cI, 14, .inl u9.2))]) t9.heap) (ow [(o, .inr (7, [.int th, .int (nI nd), .int (nI ar), .ref fF, .ref fG, .ref fT, .ref fN, .ref fW, .int be, .ref fO, .ref fB, .int bz, .ref fS, .ref fD, .int sz])), (fF, .inl (cI, 41, .inl (nF F))), (fG, .inl (cI, 41, .inl (nF G))), (fT, .inl (cZ, 41, .inl (bF P))), (fN, .inl (cI, 14, .inl N0)), (fW, .inl (cI, 14, .inl W0))])) ([.ref o, .int (nI mo)] : List Value).toArray s 0 0 (ow [(o, .inr (7, [.int th, .int (nI nd), .int (nI ar), .ref fF, .ref fG, .ref fT, .ref fN, .ref fW, .int be, .ref fO, .ref fB, .int bz, .ref fS, .ref fD, .int sz])), (fF, .inl (cI, 41, .inl (nF F))), (fG, .inl (cI, 41, .inl (nF G))), (fT, .inl (cZ, 41, .inl (bF P))), (fN, .inl (cI, 14, .inl N0)), (fW, .inl (cI, 14, .inl W0))])) (F0 m 76 ls []) := by
                  intro n_76
                  induction n_76 with
                  | zero =>
                    intro W3 j hn_76
                    exact absurd hn_76 (Nat.not_lt_zero _)
                  | succ n_76 ih_76 =>
                    intro W3 j hn_76 hj hh H locs hP hD hS ls hl
                    refine lv_iload_n hx hb d_MO_lookTwins_76 rfl (lv_at hl 3 rfl) ?_
                    refine lv_aload_n hx hb d_MO_lookTwins_77 rfl (lv_at hl 0 rfl) ?_
                    refine va_get (D := (dC, dI)) (ci := 7) (v := .int (nI nd)) (C := R_MO) (T := F_MO) (N := 15) hx hb hts in_MO hown hK.1 hP 0 rfl rfl 1 (by decide) (hts _ wfl_MO_42) (fun _ h9 => h9) rfl d_MO_lookTwins_78 ?_
                    refine x_cmp_ge (a := j) (b := nd) (tgt := 110) hx hb (by omega) (by omega) d_MO_lookTwins_81 (by decide) (fun c_9 => ?_) (fun c_9 => ?_)
                    · skip
                      refine lv_iinc (v := (nI (i + 1))) (lv' := [(2, .int (nI (i + 1))), (0, .ref o), (1, .int (nI mo)), (3, .int (nI j))]) hx hb d_MO_lookTwins_110 hl (k := 2) rfl (nI_1 _) (by decide) rfl (fun ls hl => ?_)
                      refine lv_goto (tgt := 39) hx hb d_MO_lookTwins_113 (by decide) ?_
                      exact ih_39 N9_7 W3 (i + 1) (by omega) (by first | assumption | omega) (twI_n hw hh (by omega) (Or.inl c_6)) _ _ hP hD hS ls (lv_sub hl [1, 2, 0] rfl)
                    · skip
                      refine lv_aload_n hx hb d_MO_lookTwins_84 rfl (lv_at hl 0 rfl) ?_
                      refine va_get (D := (dC, dI)) (ci := 7) (v := .ref fW) (C := R_MO) (T := F_MO) (N := 15) hx hb hts in_MO hown hK.1 hP 0 rfl rfl 7 (by decide) (hts _ wfl_MO_23) (fun _ h9 => h9) rfl d_MO_lookTwins_85 ?_
                      refine lv_iload_n hx hb d_MO_lookTwins_88 rfl (lv_at hl 3 rfl) ?_
                      refine lv_aload_n hx hb d_MO_lookTwins_89 rfl (lv_at hl 0 rfl) ?_
                      refine va_get (D := (dC, dI)) (ci := 7) (v := .ref fW) (C := R_MO) (T := F_MO) (N := 15) hx hb hts in_MO hown hK.1 hP 0 rfl rfl 7 (by decide) (hts _ wfl_MO_23) (fun _ h9 => h9) rfl d_MO_lookTwins_90 ?_
                      refine lv_iload_n hx hb d_MO_lookTwins_93 rfl (lv_at hl 3 rfl) ?_
                      refine x_iald (n := 14) (f := W3) (j := j) hx hb hK.1 hP 5 0 rfl rfl (by omega) (by omega) d_MO_lookTwins_94 ?_
                      refine lv_aload_n hx hb d_MO_lookTwins_95 rfl (lv_at hl 0 rfl) ?_
                      refine lv_iconst (v := (nI 1)) hx hb d_MO_lookTwins_96 (by decide) ?_
                      refine lv_iload_n hx hb d_MO_lookTwins_97 rfl (lv_at hl 3 rfl) ?_
                      refine lv_ishl hx hb d_MO_lookTwins_98 ?_
                      refine xe_i (y := (sb j)) rfl ?_
                      refine vp_callSi (va_Run.run (k_V (n := 1) (C := R_MO) (rest := [.int (W3 j), .int (nI j), .ref fW]) ⟨hx, hb, hml, hown, hts⟩ (c_MO_reach l dC dI cI cJ cZ o fF fG fT fN fW fO fB fS fD th be bz sz nd ar (lkT ar mo P (nI i) (-1) (nI 0) F G) F G N9_7 hu_7 (tEn_lk hM) (sb j) (by first | assumption | omega)) wml_MO_60 wim_MO_reach wsel_MO_reach wini_MO wcode_MO_reach (by decide +kernel) ⟨Nat.le_of_ble_eq_true rfl, Nat.le_of_ble_eq_true rfl⟩ (preV_R (q := (R_MO, F_MO, 15)) (ci := 7) (q0 := 0) (hP.sub (ws' := [(o, .inr (7, [.int th, .int (nI nd), .int (nI ar), .ref fF, .ref fG, .ref fT, .ref fN, .ref fW, .int be, .ref fO, .ref fB, .int bz, .ref fS, .ref fD, .int sz])), (fN, .inl (cI, 14, .inl N9_7))]) [0, 4] rfl) hK rfl rfl) rfl hl.1 rfl (Nat.le_of_ble_eq_true rfl) d_MO_lookTwins_99 ⟨Nat.zero_le _, Nat.zero_le _⟩)) (fun r_10 hr_11 => ?_)
                      refine lv_iand hx hb d_MO_lookTwins_102 ?_
                      refine x_iast (g := (va_up W3 j ((W3 j) &&& r_10))) hx hb hK.1 hP hD hS 5 0 rfl rfl rfl (by omega) (by omega) d_MO_lookTwins_103 (fun H locs hP hD hS => ?_)
                      have hP : va_P (dC, dI) cls [(o, .inr (7, [.int th, .int (nI nd), .int (nI ar), .ref fF, .ref fG, .ref fT, .ref fN, .ref fW, .int be, .ref fO, .ref fB, .int bz, .ref fS, .ref fD, .int sz])), (fF, .inl (cI, 41, .inl (nF F))), (fG, .inl (cI, 41, .inl (nF G))), (fT, .inl (cZ, 41, .inl (bF P))), (fN, .inl (cI, 14, .inl N9_7)), (fW, .inl (cI, 14, .inl (va_up W3 j ((W3 j) &&& r_10))))] H := hP
                      have hD : va_D (ow [(o, .inr (7, [.int th, .int (nI nd), .int (nI ar), .ref fF, .ref fG, .ref fT, .ref fN, .ref fW, .int be, .ref fO, .ref fB, .int bz, .ref fS, .ref fD, .int sz])), (fF, .inl (cI, 41, .inl (nF F))), (fG, .inl (cI, 41, .inl (nF G))), (fT, .inl (cZ, 41, .inl (bF P))), (fN, .inl (cI, 14, .inl N0)), (fW, .inl (cI, 14, .inl W0))]) [(o, .inr (7, [.int th, .int (nI nd), .int (nI ar), .ref fF, .ref fG, .ref fT, .ref fN, .ref fW, .int be, .ref fO, .ref fB, .int bz, .ref fS, .ref fD, .int sz])), (fF, .inl (cI, 41, .inl (nF F))), (fG, .inl (cI, 41, .inl (nF G))), (fT, .inl (cZ, 41, .inl (bF P))), (fN, .inl (cI, 14, .inl N9_7)), (fW, .inl (cI, 14, .inl (va_up W3 j ((W3 j) &&& r_10))))] := hD
                      refine lv_iinc (v := (nI (j + 1))) (lv' := [(3, .int (nI (j + 1))), (0, .ref o), (1, .int (nI mo)), (2, .int (nI i))]) hx hb d_MO_lookTwins_104 hl (k := 3) rfl (nI_1 _) (by decide) rfl (fun ls hl => ?_)
                      refine lv_goto (tgt := 76) hx hb d_MO_lookTwins_107 (by decide) ?_
                      exact ih_76 (va_up W3 j ((W3 j) &&& r_10)) (j + 1) (by omega) (by first | assumption | omega) (twH_n (by omega) hh hr_11) _ _ hP hD hS ls (lv_sub hl [1, 2, 3, 0] rfl)
                exact L76_8 ((nd - 0) + 1) W2 0 (Nat.lt_succ_self _) (by first | assumption | omega) twH_0 _ _ hP hD hS ls (lv_sub hl [1, 2, 3, 0] rfl)
              · skip
                refine lv_aload_n hx hb d_MO_lookTwins_57 rfl (lv_at hl 0 rfl) ?_
                refine va_get (D := (dC, dI)) (ci := 7) (v := .ref fT) (C := R_MO) (T := F_MO) (N := 15) hx hb hts in_MO hown hK.1 hP 0 rfl rfl 5 (by decide) (hts _ wfl_MO_16) (fun _ h9 => h9) rfl d_MO_lookTwins_58 ?_
                refine lv_iload_n hx hb d_MO_lookTwins_61 rfl (lv_at hl 2 rfl) ?_
                refine x_zald (n := 41) (f := (bF P)) (j := i) hx hb hK.1 hP 3 2 rfl rfl (by omega) (by omega) d_MO_lookTwins_62 ?_
                refine xe_i (y := (bI (P i))) rfl ?_
                refine x_if_eq (tgt := 110) hx hb d_MO_lookTwins_63 (by decide) (fun c_12 => ?_) (fun c_12 => ?_)
                · skip
                  refine lv_iinc (v := (nI (i + 1))) (lv' := [(2, .int (nI (i + 1))), (0, .ref o), (1, .int (nI mo))]) hx hb d_MO_lookTwins_110 hl (k := 2) rfl (nI_1 _) (by decide) rfl (fun ls hl => ?_)
                  refine lv_goto (tgt := 39) hx hb d_MO_lookTwins_113 (by decide) ?_
                  exact ih_39 N2 W2 (i + 1) (by omega) (by first | assumption | omega) (twI_f hw c_6 c_12) _ _ hP hD hS ls (lv_sub hl [1, 2, 0] rfl)
                · skip
                  refine lv_aload_n hx hb d_MO_lookTwins_66 rfl (lv_at hl 0 rfl) ?_
                  refine lv_iload_n hx hb d_MO_lookTwins_67 rfl (lv_at hl 2 rfl) ?_
                  refine lv_iconst (v := (-1)) hx hb d_MO_lookTwins_68 (by decide) ?_
                  refine lv_iconst (v := (nI 0)) hx hb d_MO_lookTwins_69 (by decide) ?_
                  refine lv_iload_n hx hb d_MO_lookTwins_70 rfl (lv_at hl 1 rfl) ?_
                  refine x_cv (k_V (n := 4) (C := R_MO) (rest := []) ⟨hx, hb, hml, hown, hts⟩ (c_MO_look l dC dI cI cJ cZ o fF fG fT fN fW fO fB fS fD th be bz sz nd ar F G P hF hG N2 (nI i) (-1) (nI 0) mo (by first | assumption | omega)) wml_MO_63 wim_MO_look wsel_MO_look wini_MO wcode_MO_look (by decide +kernel) ⟨Nat.le_of_ble_eq_true rfl, Nat.le_of_ble_eq_true rfl⟩ (preV_M (q := (R_MO, F_MO, 15)) (ci := 7) (q0 := 0) (hP.sub (ws' := [(o, .inr (7, [.int th, .int (nI nd), .int (nI ar), .ref fF, .ref fG, .ref fT, .ref fN, .ref fW, .int be, .ref fO, .ref fB, .int bz, .ref fS, .ref fD, .int sz])), (fF, .inl (cI, 41, .inl (nF F))), (fG, .inl (cI, 41, .inl (nF G))), (fT, .inl (cZ, 41, .inl (bF P))), (fN, .inl (cI, 14, .inl N2))]) [0, 1, 2, 3, 4] rfl) hK (hD.sub (ws' := [(o, .inr (7, [.int th, .int (nI nd), .int (nI ar), .ref fF, .ref fG, .ref fT, .ref fN, .ref fW, .int be, .ref fO, .ref fB, .int bz, .ref fS, .ref fD, .int sz])), (fF, .inl (cI, 41, .inl (nF F))), (fG, .inl (cI, 41, .inl (nF G))), (fT, .inl (cZ, 41, .inl (bF P))), (fN, .inl (cI, 14, .inl N2))]) [0, 1, 2, 3, 4] (by decide) rfl) rfl rfl) rfl hl.1 rfl (Nat.le_of_ble_eq_true rfl) d_MO_lookTwins_71 ⟨Nat.zero_le _, Nat.zero_le _⟩) hP hD hS [0, 1, 2, 3, 4] rfl (fun _ => rfl) (fun u_13 H locs hu_13 hP hS => ?_)
                  obtain ⟨N9_13, rfl⟩ : ∃ z, z = u_13 := ⟨_, rfl⟩
                  have hP : va_P (dC, dI) cls [(o, .inr (7, [.int th, .int (nI nd), .int (nI ar), .ref fF, .ref fG, .ref fT, .ref fN, .ref fW, .int be, .ref fO, .ref fB, .int bz, .ref fS, .ref fD, .int sz])), (fF, .inl (cI, 41, .inl (nF F))), (fG, .inl (cI, 41, .inl (nF G))), (fT, .inl (cZ, 41, .inl (bF P))), (fN, .inl (cI, 14, .inl N9_13)), (fW, .inl (cI, 14, .inl W2))] H := hP
                  have hD := hD.addr (ws' := [(o, .inr (7, [.int th, .int (nI nd), .int (nI ar), .ref fF, .ref fG, .ref fT, .ref fN, .ref fW, .int be, .ref fO, .ref fB, .int bz, .ref fS, .ref fD, .int sz])), (fF, .inl (cI, 41, .inl (nF F))), (fG, .inl (cI, 41, .inl (nF G))), (fT, .inl (cZ, 41, .inl (bF P))), (fN, .inl (cI, 14, .inl N9_13)), (fW, .inl (cI, 14, .inl W2))]) rfl
                  refine lv_iconst (v := (nI 0)) hx hb d_MO_lookTwins_74 (by decide) ?_
                  refine lv_istore_n (lv' := [(3, .int (nI 0)), (0, .ref o), (1, .int (nI mo)), (2, .int (nI i))]) hx hb d_MO_lookTwins_75 rfl hl (by decide) rfl (fun ls hl => ?_)
                  have L76_14 : ∀ (n : Nat) (W3 : Nat → Int32) (j : Nat) (hn : nd - j < n) (hj : j ≤ nd) (hh : twH ar mo nd P F G W2 W3 i j) (H : Heap) (locs : List Loc) (hP : va_P (dC, dI) cls [(o, .inr (7, [.int th, .int (nI nd), .int (nI ar), .ref fF, .ref fG, .ref fT, .ref fN, .ref fW, .int be, .ref fO, .ref fB, .int bz, .ref fS, .ref fD, .int sz])), (fF, .inl (cI, 41, .inl (nF F))), (fG, .inl (cI, 41, .inl (nF G))), (fT, .inl (cZ, 41, .inl (bF P))), (fN, .inl (cI, 14, .inl N9_13)), (fW, .inl (cI, 14, .inl W3))] H) (hD : va_D (ow [(o, .inr (7, [.int th, .int (nI nd), .int (nI ar), .ref fF, .ref fG, .ref fT, .ref fN, .ref fW, .int be, .ref fO, .ref fB, .int bz, .ref fS, .ref fD, .int sz])), (fF, .inl (cI, 41, .inl (nF F))), (fG, .inl (cI, 41, .inl (nF G))), (fT, .inl (cZ, 41, .inl (bF P))), (fN, .inl (cI, 14, .inl N0)), (fW, .inl (cI, 14, .inl W0))]) [(o, .inr (7, [.int th, .int (nI nd), .int (nI ar), .ref fF, .ref fG, .ref fT, .ref fN, .ref fW, .int be, .ref fO, .ref fB, .int bz, .ref fS, .ref fD, .int sz])), (fF, .inl (cI, 41, .inl (nF F))), (fG, .inl (cI, 41, .inl (nF G))), (fT, .inl (cZ, 41, .inl (bF P))), (fN, .inl (cI, 14, .inl N9_13)), (fW, .inl (cI, 14, .inl W3))]) (hS : va_S (ow [(o, .inr (7, [.int th, .int (nI nd), .int (nI ar), .ref fF, .ref fG, .ref fT, .ref fN, .ref fW, .int be, .ref fO, .ref fB, .int bz, .ref fS, .ref fD, .int sz])), (fF, .inl (cI, 41, .inl (nF F))), (fG, .inl (cI, 41, .inl (nF G))), (fT, .inl (cZ, 41, .inl (bF P))), (fN, .inl (cI, 14, .inl N0)), (fW, .inl (cI, 14, .inl W0))]) s.heap H locs) (ls : Array Slot) (hl : lv_has ls 4 [(0, .ref o), (1, .int (nI mo)), (2, .int (nI i)), (3, .int (nI j))]), W p l e (headSpec (Cond.code ⟨"CutPointsModel", "lookTwins", "(I)V"⟩ prog_9_method_22_code 4 none :: TT) (rmk 1 27)).room s m ([.ref o, .int (nI mo)] : List Value).toArray below meth c H locs 0 0 (MQ below (va_Qv (S := (Nat → Int32) × (Nat → Int32)) (fun u9 => twI ar mo nd P F G u9.2 (ar + mo)) (fun u9 t9 => va_P (dC, dI) cls ([(o, .inr (7, [.int th, .int (nI nd), .int (nI ar), .ref fF, .ref fG, .ref fT, .ref fN, .ref fW, .int be, .ref fO, .ref fB, .int bz, .ref fS, .ref fD, .int sz])), (fF, .inl (cI, 41, .inl (nF F))), (fG, .inl (cI, 41, .inl (nF G))), (fT, .inl (cZ, 41, .inl (bF P))), (fN, .inl (cI, 14, .inl u9.1)), (fW, .inl (cI, 14, .inl u9.2))]) t9.heap) (ow [(o, .inr (7, [.int th, .int (nI nd), .int (nI ar), .ref fF, .ref fG, .ref fT, .ref fN, .ref fW, .int be, .ref fO, .ref fB, .int bz, .ref fS, .ref fD, .int sz])), (fF, .inl (cI, 41, .inl (nF F))), (fG, .inl (cI, 41, .inl (nF G))), (fT, .inl (cZ, 41, .inl (bF P))), (fN, .inl (cI, 14, .inl N0)), (fW, .inl (cI, 14, .inl W0))])) ([.ref o, .int (nI mo)] : List Value).toArray s 0 0 (ow [(o, .inr (7, [.int th, .int (nI nd), .int (nI ar), .ref fF, .ref fG, .ref fT, .ref fN, .ref fW, .int be, .ref fO, .ref fB, .int bz, .ref fS, .ref fD, .int sz])), (fF, .inl (cI, 41, .inl (nF F))), (fG, .inl (cI, 41, .inl (nF G))), (fT, .inl (cZ, 41, .inl (bF P))), (fN, .inl (cI, 14, .inl N0)), (fW, .inl (cI, 14, .inl W0))])) (F0 m 76 ls []) := by
                    intro n_76
                    induction n_76 with
                    | zero =>
                      intro W3 j hn_76
                      exact absurd hn_76 (Nat.not_lt_zero _)
                    | succ n_76 ih_76 =>
                      intro W3 j hn_76 hj hh H locs hP hD hS ls hl
                      refine lv_iload_n hx hb d_MO_lookTwins_76 rfl (lv_at hl 3 rfl) ?_
                      refine lv_aload_n hx hb d_MO_lookTwins_77 rfl (lv_at hl 0 rfl) ?_
                      refine va_get (D := (dC, dI)) (ci := 7) (v := .int (nI nd)) (C := R_MO) (T := F_MO) (N := 15) hx hb hts in_MO hown hK.1 hP 0 rfl rfl 1 (by decide) (hts _ wfl_MO_42) (fun _ h9 => h9) rfl d_MO_lookTwins_78 ?_
                      refine x_cmp_ge (a := j) (b := nd) (tgt := 110) hx hb (by omega) (by omega) d_MO_lookTwins_81 (by decide) (fun c_15 => ?_) (fun c_15 => ?_)
                      · skip
                        refine lv_iinc (v := (nI (i + 1))) (lv' := [(2, .int (nI (i + 1))), (0, .ref o), (1, .int (nI mo)), (3, .int (nI j))]) hx hb d_MO_lookTwins_110 hl (k := 2) rfl (nI_1 _) (by decide) rfl (fun ls hl => ?_)
                        refine lv_goto (tgt := 39) hx hb d_MO_lookTwins_113 (by decide) ?_
                        exact ih_39 N9_13 W3 (i + 1) (by omega) (by first | assumption | omega) (twI_n hw hh (by omega) (Or.inr c_12)) _ _ hP hD hS ls (lv_sub hl [1, 2, 0] rfl)
                      · skip
                        refine lv_aload_n hx hb d_MO_lookTwins_84 rfl (lv_at hl 0 rfl) ?_
                        refine va_get (D := (dC, dI)) (ci := 7) (v := .ref fW) (C := R_MO) (T := F_MO) (N := 15) hx hb hts in_MO hown hK.1 hP 0 rfl rfl 7 (by decide) (hts _ wfl_MO_23) (fun _ h9 => h9) rfl d_MO_lookTwins_85 ?_
                        refine lv_iload_n hx hb d_MO_lookTwins_88 rfl (lv_at hl 3 rfl) ?_
                        refine lv_aload_n hx hb d_MO_lookTwins_89 rfl (lv_at hl 0 rfl) ?_
                        refine va_get (D := (dC, dI)) (ci := 7) (v := .ref fW) (C := R_MO) (T := F_MO) (N := 15) hx hb hts in_MO hown hK.1 hP 0 rfl rfl 7 (by decide) (hts _ wfl_MO_23) (fun _ h9 => h9) rfl d_MO_lookTwins_90 ?_
                        refine lv_iload_n hx hb d_MO_lookTwins_93 rfl (lv_at hl 3 rfl) ?_
                        refine x_iald (n := 14) (f := W3) (j := j) hx hb hK.1 hP 5 0 rfl rfl (by omega) (by omega) d_MO_lookTwins_94 ?_
                        refine lv_aload_n hx hb d_MO_lookTwins_95 rfl (lv_at hl 0 rfl) ?_
                        refine lv_iconst (v := (nI 1)) hx hb d_MO_lookTwins_96 (by decide) ?_
                        refine lv_iload_n hx hb d_MO_lookTwins_97 rfl (lv_at hl 3 rfl) ?_
                        refine lv_ishl hx hb d_MO_lookTwins_98 ?_
                        refine xe_i (y := (sb j)) rfl ?_
                        refine vp_callSi (va_Run.run (k_V (n := 1) (C := R_MO) (rest := [.int (W3 j), .int (nI j), .ref fW]) ⟨hx, hb, hml, hown, hts⟩ (c_MO_reach l dC dI cI cJ cZ o fF fG fT fN fW fO fB fS fD th be bz sz nd ar (lkT ar mo P (nI i) (-1) (nI 0) F G) F G N9_13 hu_13 (tEn_lk hM) (sb j) (by first | assumption | omega)) wml_MO_60 wim_MO_reach wsel_MO_reach wini_MO wcode_MO_reach (by decide +kernel) ⟨Nat.le_of_ble_eq_true rfl, Nat.le_of_ble_eq_true rfl⟩ (preV_R (q := (R_MO, F_MO, 15)) (ci := 7) (q0 := 0) (hP.sub (ws' := [(o, .inr (7, [.int th, .int (nI nd), .int (nI ar), .ref fF, .ref fG, .ref fT, .ref fN, .ref fW, .int be, .ref fO, .ref fB, .int bz, .ref fS, .ref fD, .int sz])), (fN, .inl (cI, 14, .inl N9_13))]) [0, 4] rfl) hK rfl rfl) rfl hl.1 rfl (Nat.le_of_ble_eq_true rfl) d_MO_lookTwins_99 ⟨Nat.zero_le _, Nat.zero_le _⟩)) (fun r_16 hr_17 => ?_)
                        refine lv_iand hx hb d_MO_lookTwins_102 ?_
                        refine x_iast (g := (va_up W3 j ((W3 j) &&& r_16))) hx hb hK.1 hP hD hS 5 0 rfl rfl rfl (by omega) (by omega) d_MO_lookTwins_103 (fun H locs hP hD hS => ?_)
                        have hP : va_P (dC, dI) cls [(o, .inr (7, [.int th, .int (nI nd), .int (nI ar), .ref fF, .ref fG, .ref fT, .ref fN, .ref fW, .int be, .ref fO, .ref fB, .int bz, .ref fS, .ref fD, .int sz])), (fF, .inl (cI, 41, .inl (nF F))), (fG, .inl (cI, 41, .inl (nF G))), (fT, .inl (cZ, 41, .inl (bF P))), (fN, .inl (cI, 14, .inl N9_13)), (fW, .inl (cI, 14, .inl (va_up W3 j ((W3 j) &&& r_16))))] H := hP
                        have hD : va_D (ow [(o, .inr (7, [.int th, .int (nI nd), .int (nI ar), .ref fF, .ref fG, .ref fT, .ref fN, .ref fW, .int be, .ref fO, .ref fB, .int bz, .ref fS, .ref fD, .int sz])), (fF, .inl (cI, 41, .inl (nF F))), (fG, .inl (cI, 41, .inl (nF G))), (fT, .inl (cZ, 41, .inl (bF P))), (fN, .inl (cI, 14, .inl N0)), (fW, .inl (cI, 14, .inl W0))]) [(o, .inr (7, [.int th, .int (nI nd), .int (nI ar), .ref fF, .ref fG, .ref fT, .ref fN, .ref fW, .int be, .ref fO, .ref fB, .int bz, .ref fS, .ref fD, .int sz])), (fF, .inl (cI, 41, .inl (nF F))), (fG, .inl (cI, 41, .inl (nF G))), (fT, .inl (cZ, 41, .inl (bF P))), (fN, .inl (cI, 14, .inl N9_13)), (fW, .inl (cI, 14, .inl (va_up W3 j ((W3 j) &&& r_16))))] := hD
                        refine lv_iinc (v := (nI (j + 1))) (lv' := [(3, .int (nI (j + 1))), (0, .ref o), (1, .int (nI mo)), (2, .int (nI i))]) hx hb d_MO_lookTwins_104 hl (k := 3) rfl (nI_1 _) (by decide) rfl (fun ls hl => ?_)
                        refine lv_goto (tgt := 76) hx hb d_MO_lookTwins_107 (by decide) ?_
                        exact ih_76 (va_up W3 j ((W3 j) &&& r_16)) (j + 1) (by omega) (by first | assumption | omega) (twH_n (by omega) hh hr_17) _ _ hP hD hS ls (lv_sub hl [1, 2, 3, 0] rfl)
                  exact L76_14 ((nd - 0) + 1) W2 0 (Nat.lt_succ_self _) (by first | assumption | omega) twH_0 _ _ hP hD hS ls (lv_sub hl [1, 2, 3, 0] rfl)
        exact L39_4 ((ar + mo - 0) + 1) N9_1 W2 0 (Nat.lt_succ_self _) (by first | assumption | omega) (twI_0 h0 (by omega)) _ _ hP hD hS ls (lv_sub hl [1, 2, 0] rfl)
      · skip
        refine lv_aload_n hx hb d_MO_lookTwins_18 rfl (lv_at hl 0 rfl) ?_
        refine va_get (D := (dC, dI)) (ci := 7) (v := .ref fW) (C := R_MO) (T := F_MO) (N := 15) hx hb hts in_MO hown hK.1 hP 0 rfl rfl 7 (by decide) (hts _ wfl_MO_23) (fun _ h9 => h9) rfl d_MO_lookTwins_19 ?_
        refine lv_iload_n hx hb d_MO_lookTwins_22 rfl (lv_at hl 2 rfl) ?_
        refine lv_aload_n hx hb d_MO_lookTwins_23 rfl (lv_at hl 0 rfl) ?_
        refine lv_iconst (v := (nI 1)) hx hb d_MO_lookTwins_24 (by decide) ?_
        refine lv_iload_n hx hb d_MO_lookTwins_25 rfl (lv_at hl 2 rfl) ?_
        refine lv_ishl hx hb d_MO_lookTwins_26 ?_
        refine xe_i (y := (sb j)) rfl ?_
        refine vp_callSi (va_Run.run (k_V (n := 1) (C := R_MO) (rest := [.int (nI j), .ref fW]) ⟨hx, hb, hml, hown, hts⟩ (c_MO_reach l dC dI cI cJ cZ o fF fG fT fN fW fO fB fS fD th be bz sz nd ar (lkT ar mo P (-1) (-1) (nI 0) F G) F G N9_1 hu_1 (tEn_lk hM) (sb j) (by first | assumption | omega)) wml_MO_60 wim_MO_reach wsel_MO_reach wini_MO wcode_MO_reach (by decide +kernel) ⟨Nat.le_of_ble_eq_true rfl, Nat.le_of_ble_eq_true rfl⟩ (preV_R (q := (R_MO, F_MO, 15)) (ci := 7) (q0 := 0) (hP.sub (ws' := [(o, .inr (7, [.int th, .int (nI nd), .int (nI ar), .ref fF, .ref fG, .ref fT, .ref fN, .ref fW, .int be, .ref fO, .ref fB, .int bz, .ref fS, .ref fD, .int sz])), (fN, .inl (cI, 14, .inl N9_1))]) [0, 4] rfl) hK rfl rfl) rfl hl.1 rfl (Nat.le_of_ble_eq_true rfl) d_MO_lookTwins_27 ⟨Nat.zero_le _, Nat.zero_le _⟩)) (fun r_18 hr_19 => ?_)
        refine x_iast (g := (va_up W2 j r_18)) hx hb hK.1 hP hD hS 5 0 rfl rfl rfl (by omega) (by omega) d_MO_lookTwins_30 (fun H locs hP hD hS => ?_)
        have hP : va_P (dC, dI) cls [(o, .inr (7, [.int th, .int (nI nd), .int (nI ar), .ref fF, .ref fG, .ref fT, .ref fN, .ref fW, .int be, .ref fO, .ref fB, .int bz, .ref fS, .ref fD, .int sz])), (fF, .inl (cI, 41, .inl (nF F))), (fG, .inl (cI, 41, .inl (nF G))), (fT, .inl (cZ, 41, .inl (bF P))), (fN, .inl (cI, 14, .inl N9_1)), (fW, .inl (cI, 14, .inl (va_up W2 j r_18)))] H := hP
        have hD : va_D (ow [(o, .inr (7, [.int th, .int (nI nd), .int (nI ar), .ref fF, .ref fG, .ref fT, .ref fN, .ref fW, .int be, .ref fO, .ref fB, .int bz, .ref fS, .ref fD, .int sz])), (fF, .inl (cI, 41, .inl (nF F))), (fG, .inl (cI, 41, .inl (nF G))), (fT, .inl (cZ, 41, .inl (bF P))), (fN, .inl (cI, 14, .inl N0)), (fW, .inl (cI, 14, .inl W0))]) [(o, .inr (7, [.int th, .int (nI nd), .int (nI ar), .ref fF, .ref fG, .ref fT, .ref fN, .ref fW, .int be, .ref fO, .ref fB, .int bz, .ref fS, .ref fD, .int sz])), (fF, .inl (cI, 41, .inl (nF F))), (fG, .inl (cI, 41, .inl (nF G))), (fT, .inl (cZ, 41, .inl (bF P))), (fN, .inl (cI, 14, .inl N9_1)), (fW, .inl (cI, 14, .inl (va_up W2 j r_18)))] := hD
        refine lv_iinc (v := (nI (j + 1))) (lv' := [(2, .int (nI (j + 1))), (0, .ref o), (1, .int (nI mo))]) hx hb d_MO_lookTwins_31 hl (k := 2) rfl (nI_1 _) (by decide) rfl (fun ls hl => ?_)
        refine lv_goto (tgt := 10) hx hb d_MO_lookTwins_34 (by decide) ?_
        exact ih_10 (va_up W2 j r_18) (j + 1) (by omega) (by first | assumption | omega) (tw0_n (by omega) h0 hr_19) _ _ hP hD hS ls (lv_sub hl [1, 2, 0] rfl)
  exact L10_2 ((nd - 0) + 1) W0 0 (Nat.lt_succ_self _) (by first | assumption | omega) (fun n hn => absurd hn (Nat.not_lt_zero _)) _ _ hP hD hS ls (lv_sub hl [1, 2, 0] rfl)
