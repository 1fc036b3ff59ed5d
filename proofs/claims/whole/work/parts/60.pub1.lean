theorem d_MO_clear_0 : decode prog_9_method_6_code 0 = .ok (.aload_n 0, 1) := by decide +kernel
theorem d_MO_clear_1 : decode prog_9_method_6_code 1 = .ok (.iconst 0, 1) := by decide +kernel
theorem d_MO_clear_2 : decode prog_9_method_6_code 2 = .ok (.putfield 38, 3) := by decide +kernel
theorem d_MO_clear_5 : decode prog_9_method_6_code 5 = .ok (.aload_n 0, 1) := by decide +kernel
theorem d_MO_clear_6 : decode prog_9_method_6_code 6 = .ok (.iconst 0, 1) := by decide +kernel
theorem d_MO_clear_7 : decode prog_9_method_6_code 7 = .ok (.putfield 42, 3) := by decide +kernel
theorem d_MO_clear_10 : decode prog_9_method_6_code 10 = .ok (.aload_n 0, 1) := by decide +kernel
theorem d_MO_clear_11 : decode prog_9_method_6_code 11 = .ok (.iconst 0, 1) := by decide +kernel
theorem d_MO_clear_12 : decode prog_9_method_6_code 12 = .ok (.putfield 45, 3) := by decide +kernel
theorem d_MO_clear_15 : decode prog_9_method_6_code 15 = .ok (.return_, 1) := by decide +kernel
theorem tm_tt {e ar : Nat} {P : Nat → Bool} (hn : ar ≤ 41) (he : e < ar) (hl : P e = true) : (vd (nI e) ar && P (nI e).toNatClampNeg) = true := by rw [vd_tt hn he, nI_clamp (by omega), hl]; rfl
set_option maxHeartbeats 4000000 in
set_option maxRecDepth 100000 in
theorem c_MO_clear (l : Launch) (dC : Nat → ClassId) (dI : Nat → Nat → Nat) (cI cJ cZ : ClassId) (o fF fG fT fN fW fO fB fS fD : Nat) (th be bz sz : Int32) (nd ar : Nat) : Met l ⟨"CutPointsModel", "clear", "()V"⟩ (Cond.code ⟨"CutPointsModel", "clear", "()V"⟩ prog_9_method_6_code 1 none :: TT) (rmk 0 0) (PM dC dI cI cJ cZ [.ref o] [(o, .inr (7, [.int th, .int (nI nd), .int (nI ar), .ref fF, .ref fG, .ref fT, .ref fN, .ref fW, .int be, .ref fO, .ref fB, .int bz, .ref fS, .ref fD, .int sz]))]) (va_Qv (S := Unit) (fun u9 => True) (fun u9 t9 => va_P (dC, dI) cls ([(o, .inr (7, [.int (nI 0), .int (nI 0), .int (nI 0), .ref fF, .ref fG, .ref fT, .ref fN, .ref fW, .int be, .ref fO, .ref fB, .int bz, .ref fS, .ref fD, .int sz]))]) t9.heap) (ow [(o, .inr (7, [.int th, .int (nI nd), .int (nI ar), .ref fF, .ref fG, .ref fT, .ref fN, .ref fW, .int be, .ref fO, .ref fB, .int bz, .ref fS, .ref fD, .int sz]))])) 0 0 (ow [(o, .inr (7, [.int th, .int (nI nd), .int (nI ar), .ref fF, .ref fG, .ref fT, .ref fN, .ref fW, .int be, .ref fO, .ref fB, .int bz, .ref fS, .ref fD, .int sz]))]) := by
  refine Met.ofW (cc := prog_9_method_6_code) (maxL := 1) (ret := none) (by decide) rfl ?_
  intro p e s m args below meth c s₁ BB9 hml hv
  obtain ⟨rfl, hP, hK, hD0⟩ := hv
  have hx := BB9.exec
  have hb := BB9.bytes
  have hr := BB9.returns
  have hts : ∀ w ∈ TT, w.before _ s = true := fun w h => atoms_spec (ws := (Cond.code ⟨"CutPointsModel", "clear", "()V"⟩ prog_9_method_6_code 1 none :: TT)) BB9.pre w (List.mem_cons_of_mem _ h)
  have hown : s.vm.findClass "CutPointsModel" = some m.cls := findClass_of_methodNamed BB9.named
  have hlocks := BB9.notSynchronized
  have hD := hD0.mine
  have hS : va_S (ow [(o, .inr (7, [.int th, .int (nI nd), .int (nI ar), .ref fF, .ref fG, .ref fT, .ref fN, .ref fW, .int be, .ref fO, .ref fB, .int bz, .ref fS, .ref fD, .int sz]))]) s.heap s.heap [] := va_S.rf
  have hl := lv_entry ([.ref o]) (n := 1) (Nat.le_of_ble_eq_true rfl)
  rw [lg_entry_eq]
  generalize (lg_sl ([.ref o]) ++ List.replicate (1 - (lg_sl ([.ref o])).length) Slot.unset).toArray = ls at hl ⊢
  have hl : lv_has ls 1 [(0, .ref o)] := hl
  refine lv_aload_n hx hb d_MO_clear_0 rfl (lv_at hl 0 rfl) ?_
  refine lv_iconst (v := (nI 0)) hx hb d_MO_clear_1 (by decide) ?_
  refine va_put (D := (dC, dI)) (ci := 7) (v := .int (nI 0)) (ty := .int) (C := R_MO) (T := F_MO) (N := 15) hx hb hts in_MO t_MO t_MO_ok n_MO hown hK.1 hP hD hS 0 rfl rfl 0 (by decide) (hts _ wfl_MO_38) (fun _ h9 => h9) rfl (by decide +kernel) rfl rfl (Nat.le_of_ble_eq_true rfl) d_MO_clear_2 (fun H locs hP hD hS => ?_)
  have hP : va_P (dC, dI) cls [(o, .inr (7, [.int (nI 0), .int (nI nd), .int (nI ar), .ref fF, .ref fG, .ref fT, .ref fN, .ref fW, .int be, .ref fO, .ref fB, .int bz, .ref fS, .ref fD, .int sz]))] H := hP
  have hD : va_D (ow [(o, .inr (7, [.int th, .int (nI nd), .int (nI ar), .ref fF, .ref fG, .ref fT, .ref fN, .ref fW, .int be, .ref fO, .ref fB, .int bz, .ref fS, .ref fD, .int sz]))]) [(o, .inr (7, [.int (nI 0), .int (nI nd), .int (nI ar), .ref fF, .ref fG, .ref fT, .ref fN, .ref fW, .int be, .ref fO, .ref fB, .int bz, .ref fS, .ref fD, .int sz]))] := hD
  refine lv_aload_n hx hb d_MO_clear_5 rfl (lv_at hl 0 rfl) ?_
  refine lv_iconst (v := (nI 0)) hx hb d_MO_clear_6 (by decide) ?_
  refine va_put (D := (dC, dI)) (ci := 7) (v := .int (nI 0)) (ty := .int) (C := R_MO) (T := F_MO) (N := 15) hx hb hts in_MO t_MO t_MO_ok n_MO hown hK.1 hP hD hS 0 rfl rfl 1 (by decide) (hts _ wfl_MO_42) (fun _ h9 => h9) rfl (by decide +kernel) rfl rfl (Nat.le_of_ble_eq_true rfl) d_MO_clear_7 (fun H locs hP hD hS => ?_)
  have hP : va_P (dC, dI) cls [(o, .inr (7, [.int (nI 0), .int (nI 0), .int (nI ar), .ref fF, .ref fG, .ref fT, .ref fN, .ref fW, .int be, .ref fO, .ref fB, .int bz, .ref fS, .ref fD, .int sz]))] H := hP
  have hD : va_D (ow [(o, .inr (7, [.int th, .int (nI nd), .int (nI ar), .ref fF, .ref fG, .ref fT, .ref fN, .ref fW, .int be, .ref fO, .ref fB, .int bz, .ref fS, .ref fD, .int sz]))]) [(o, .inr (7, [.int (nI 0), .int (nI 0), .int (nI ar), .ref fF, .ref fG, .ref fT, .ref fN, .ref fW, .int be, .ref fO, .ref fB, .int bz, .ref fS, .ref fD, .int sz]))] := hD
  refine lv_aload_n hx hb d_MO_clear_10 rfl (lv_at hl 0 rfl) ?_
  refine lv_iconst (v := (nI 0)) hx hb d_MO_clear_11 (by decide) ?_
  refine va_put (D := (dC, dI)) (ci := 7) (v := .int (nI 0)) (ty := .int) (C := R_MO) (T := F_MO) (N := 15) hx hb hts in_MO t_MO t_MO_ok n_MO hown hK.1 hP hD hS 0 rfl rfl 2 (by decide) (hts _ wfl_MO_45) (fun _ h9 => h9) rfl (by decide +kernel) rfl rfl (Nat.le_of_ble_eq_true rfl) d_MO_clear_12 (fun H locs hP hD hS => ?_)
  have hP : va_P (dC, dI) cls [(o, .inr (7, [.int (nI 0), .int (nI 0), .int (nI 0), .ref fF, .ref fG, .ref fT, .ref fN, .ref fW, .int be, .ref fO, .ref fB, .int bz, .ref fS, .ref fD, .int sz]))] H := hP
  have hD : va_D (ow [(o, .inr (7, [.int th, .int (nI nd), .int (nI ar), .ref fF, .ref fG, .ref fT, .ref fN, .ref fW, .int be, .ref fO, .ref fB, .int bz, .ref fS, .ref fD, .int sz]))]) [(o, .inr (7, [.int (nI 0), .int (nI 0), .int (nI 0), .ref fF, .ref fG, .ref fT, .ref fN, .ref fW, .int be, .ref fO, .ref fB, .int bz, .ref fS, .ref fD, .int sz]))] := hD
  exact W.vret hx hb hr (fun t9 ht9 _ => ⟨⟨(), rfl, trivial, by show va_P (dC, dI) cls _ t9.heap; rw [ht9]; exact hP⟩, hS.F ht9⟩) hS.2.2 d_MO_clear_15

theorem d_MO_node_0 : decode prog_9_method_7_code 0 = .ok (.aload_n 0, 1) := by decide +kernel
theorem d_MO_node_1 : decode prog_9_method_7_code 1 = .ok (.iconst 0, 1) := by decide +kernel
theorem d_MO_node_2 : decode prog_9_method_7_code 2 = .ok (.putfield 38, 3) := by decide +kernel
theorem d_MO_node_5 : decode prog_9_method_7_code 5 = .ok (.aload_n 0, 1) := by decide +kernel
theorem d_MO_node_6 : decode prog_9_method_7_code 6 = .ok (.getfield 42, 3) := by decide +kernel
theorem d_MO_node_9 : decode prog_9_method_7_code 9 = .ok (.bipush 14, 2) := by decide +kernel
theorem d_MO_node_11 : decode prog_9_method_7_code 11 = .ok (.if_icmp .ne 6, 3) := by decide +kernel
theorem d_MO_node_14 : decode prog_9_method_7_code 14 = .ok (.bipush (-4), 2) := by decide +kernel
theorem d_MO_node_16 : decode prog_9_method_7_code 16 = .ok (.ireturn, 1) := by decide +kernel
theorem d_MO_node_17 : decode prog_9_method_7_code 17 = .ok (.aload_n 0, 1) := by decide +kernel
theorem d_MO_node_18 : decode prog_9_method_7_code 18 = .ok (.dup, 1) := by decide +kernel
theorem d_MO_node_19 : decode prog_9_method_7_code 19 = .ok (.getfield 42, 3) := by decide +kernel
theorem d_MO_node_22 : decode prog_9_method_7_code 22 = .ok (.iconst 1, 1) := by decide +kernel
theorem d_MO_node_23 : decode prog_9_method_7_code 23 = .ok (.iadd, 1) := by decide +kernel
theorem d_MO_node_24 : decode prog_9_method_7_code 24 = .ok (.putfield 42, 3) := by decide +kernel
theorem d_MO_node_27 : decode prog_9_method_7_code 27 = .ok (.aload_n 0, 1) := by decide +kernel
theorem d_MO_node_28 : decode prog_9_method_7_code 28 = .ok (.getfield 42, 3) := by decide +kernel
theorem d_MO_node_31 : decode prog_9_method_7_code 31 = .ok (.iconst 1, 1) := by decide +kernel
theorem d_MO_node_32 : decode prog_9_method_7_code 32 = .ok (.isub, 1) := by decide +kernel
theorem d_MO_node_33 : decode prog_9_method_7_code 33 = .ok (.ireturn, 1) := by decide +kernel
set_option maxHeartbeats 4000000 in
set_option maxRecDepth 100000 in
theorem c_MO_node_f (l : Launch) (dC : Nat → ClassId) (dI : Nat → Nat → Nat) (cI cJ cZ : ClassId) (o fF fG fT fN fW fO fB fS fD : Nat) (th be bz sz : Int32) (nd ar : Nat) (hnd : nd = 14) : Met l ⟨"CutPointsModel", "node", "()I"⟩ (Cond.code ⟨"CutPointsModel", "node", "()I"⟩ prog_9_method_7_code 1 (some .int) :: TT) (rmk 0 0) (PM dC dI cI cJ cZ [.ref o] [(o, .inr (7, [.int th, .int (nI nd), .int (nI ar), .ref fF, .ref fG, .ref fT, .ref fN, .ref fW, .int be, .ref fO, .ref fB, .int bz, .ref fS, .ref fD, .int sz]))]) (va_Qi (S := Unit) (fun r u9 => r = -4) (fun u9 t9 => va_P (dC, dI) cls ([(o, .inr (7, [.int (nI 0), .int (nI nd), .int (nI ar), .ref fF, .ref fG, .ref fT, .ref fN, .ref fW, .int be, .ref fO, .ref fB, .int bz, .ref fS, .ref fD, .int sz]))]) t9.heap) (ow [(o, .inr (7, [.int th, .int (nI nd), .int (nI ar), .ref fF, .ref fG, .ref fT, .ref fN, .ref fW, .int be, .ref fO, .ref fB, .int bz, .ref fS, .ref fD, .int sz]))])) 0 0 (ow [(o, .inr (7, [.int th, .int (nI nd), .int (nI ar), .ref fF, .ref fG, .ref fT, .ref fN, .ref fW, .int be, .ref fO, .ref fB, .int bz, .ref fS, .ref fD, .int sz]))]) := by
  refine Met.ofW (cc := prog_9_method_7_code) (maxL := 1) (ret := (some .int)) (by decide) rfl ?_
  intro p e s m args below meth c s₁ BB9 hml hv
  obtain ⟨rfl, hP, hK, hD0⟩ := hv
  have hx := BB9.exec
  have hb := BB9.bytes
  have hr := BB9.returns
  have hts : ∀ w ∈ TT, w.before _ s = true := fun w h => atoms_spec (ws := (Cond.code ⟨"CutPointsModel", "node", "()I"⟩ prog_9_method_7_code 1 (some .int) :: TT)) BB9.pre w (List.mem_cons_of_mem _ h)
  have hown : s.vm.findClass "CutPointsModel" = some m.cls := findClass_of_methodNamed BB9.named
  have hlocks := BB9.notSynchronized
  have hD := hD0.mine
  have hS : va_S (ow [(o, .inr (7, [.int th, .int (nI nd), .int (nI ar), .ref fF, .ref fG, .ref fT, .ref fN, .ref fW, .int be, .ref fO, .ref fB, .int bz, .ref fS, .ref fD, .int sz]))]) s.heap s.heap [] := va_S.rf
  have hl := lv_entry ([.ref o]) (n := 1) (Nat.le_of_ble_eq_true rfl)
  rw [lg_entry_eq]
  generalize (lg_sl ([.ref o]) ++ List.replicate (1 - (lg_sl ([.ref o])).length) Slot.unset).toArray = ls at hl ⊢
  have hl : lv_has ls 1 [(0, .ref o)] := hl
  refine lv_aload_n hx hb d_MO_node_0 rfl (lv_at hl 0 rfl) ?_
  refine lv_iconst (v := (nI 0)) hx hb d_MO_node_1 (by decide) ?_
  refine va_put (D := (dC, dI)) (ci := 7) (v := .int (nI 0)) (ty := .int) (C := R_MO) (T := F_MO) (N := 15) hx hb hts in_MO t_MO t_MO_ok n_MO hown hK.1 hP hD hS 0 rfl rfl 0 (by decide) (hts _ wfl_MO_38) (fun _ h9 => h9) rfl (by decide +kernel) rfl rfl (Nat.le_of_ble_eq_true rfl) d_MO_node_2 (fun H locs hP hD hS => ?_)
  have hP : va_P (dC, dI) cls [(o, .inr (7, [.int (nI 0), .int (nI nd), .int (nI ar), .ref fF, .ref fG, .ref fT, .ref fN, .ref fW, .int be, .ref fO, .ref fB, .int bz, .ref fS, .ref fD, .int sz]))] H := hP
  have hD : va_D (ow [(o, .inr (7, [.int th, .int (nI nd), .int (nI ar), .ref fF, .ref fG, .ref fT, .ref fN, .ref fW, .int be, .ref fO, .ref fB, .int bz, .ref fS, .ref fD, .int sz]))]) [(o, .inr (7, [.int (nI 0), .int (nI nd), .int (nI ar), .ref fF, .ref fG, .ref fT, .ref fN, .ref fW, .int be, .ref fO, .ref fB, .int bz, .ref fS, .ref fD, .int sz]))] := hD
  refine lv_aload_n hx hb d_MO_node_5 rfl (lv_at hl 0 rfl) ?_
  refine va_get (D := (dC, dI)) (ci := 7) (v := .int (nI nd)) (C := R_MO) (T := F_MO) (N := 15) hx hb hts in_MO hown hK.1 hP 0 rfl rfl 1 (by decide) (hts _ wfl_MO_42) (fun _ h9 => h9) rfl d_MO_node_6 ?_
  refine lv_bipush (v := (nI 14)) hx hb d_MO_node_9 (by decide) ?_
  refine x_cmp_ne (a := nd) (b := 14) (tgt := 17) hx hb (by omega) (by omega) d_MO_node_11 (by decide) (fun c_1 => ?_) (fun c_1 => ?_)
  · skip
    omega
  · skip
    refine lv_bipush (v := (-4)) hx hb d_MO_node_14 (by decide) ?_
    exact W.iret (v := (-4)) hx hb hr (fun t9 ht9 _ => ⟨⟨_, (), rfl, rfl, by show va_P (dC, dI) cls _ t9.heap; rw [ht9]; exact hP⟩, hS.F ht9⟩) hS.2.2 d_MO_node_16

set_option maxHeartbeats 4000000 in
set_option maxRecDepth 100000 in
theorem c_MO_node_k (l : Launch) (dC : Nat → ClassId) (dI : Nat → Nat → Nat) (cI cJ cZ : ClassId) (o fF fG fT fN fW fO fB fS fD : Nat) (th be bz sz : Int32) (nd ar : Nat) (hnd : nd < 14) : Met l ⟨"CutPointsModel", "node", "()I"⟩ (Cond.code ⟨"CutPointsModel", "node", "()I"⟩ prog_9_method_7_code 1 (some .int) :: TT) (rmk 0 0) (PM dC dI cI cJ cZ [.ref o] [(o, .inr (7, [.int th, .int (nI nd), .int (nI ar), .ref fF, .ref fG, .ref fT, .ref fN, .ref fW, .int be, .ref fO, .ref fB, .int bz, .ref fS, .ref fD, .int sz]))]) (va_Qi (S := Unit) (fun r u9 => r = nI nd) (fun u9 t9 => va_P (dC, dI) cls ([(o, .inr (7, [.int (nI 0), .int (nI (nd + 1)), .int (nI ar), .ref fF, .ref fG, .ref fT, .ref fN, .ref fW, .int be, .ref fO, .ref fB, .int bz, .ref fS, .ref fD, .int sz]))]) t9.heap) (ow [(o, .inr (7, [.int th, .int (nI nd), .int (nI ar), .ref fF, .ref fG, .ref fT, .ref fN, .ref fW, .int be, .ref fO, .ref fB, .int bz, .ref fS, .ref fD, .int sz]))])) 0 0 (ow [(o, .inr (7, [.int th, .int (nI nd), .int (nI ar), .ref fF, .ref fG, .ref fT, .ref fN, .ref fW, .int be, .ref fO, .ref fB, .int bz, .ref fS, .ref fD, .int sz]))]) := by
  refine Met.ofW (cc := prog_9_method_7_code) (maxL := 1) (ret := (some .int)) (by decide) rfl ?_
  intro p e s m args below meth c s₁ BB9 hml hv
  obtain ⟨rfl, hP, hK, hD0⟩ := hv
  have hx := BB9.exec
  have hb := BB9.bytes
  have hr := BB9.returns
  have hts : ∀ w ∈ TT, w.before _ s = true := fun w h => atoms_spec (ws := (Cond.code ⟨"CutPointsModel", "node", "()I"⟩ prog_9_method_7_code 1 (some .int) :: TT)) BB9.pre w (List.mem_cons_of_mem _ h)
  have hown : s.vm.findClass "CutPointsModel" = some m.cls := findClass_of_methodNamed BB9.named
  have hlocks := BB9.notSynchronized
  have hD := hD0.mine
  have hS : va_S (ow [(o, .inr (7, [.int th, .int (nI nd), .int (nI ar), .ref fF, .ref fG, .ref fT, .ref fN, .ref fW, .int be, .ref fO, .ref fB, .int bz, .ref fS, .ref fD, .int sz]))]) s.heap s.heap [] := va_S.rf
  have hl := lv_entry ([.ref o]) (n := 1) (Nat.le_of_ble_eq_true rfl)
  rw [lg_entry_eq]
  generalize (lg_sl ([.ref o]) ++ List.replicate (1 - (lg_sl ([.ref o])).length) Slot.unset).toArray = ls at hl ⊢
  have hl : lv_has ls 1 [(0, .ref o)] := hl
  refine lv_aload_n hx hb d_MO_node_0 rfl (lv_at hl 0 rfl) ?_
  refine lv_iconst (v := (nI 0)) hx hb d_MO_node_1 (by decide) ?_
  refine va_put (D := (dC, dI)) (ci := 7) (v := .int (nI 0)) (ty := .int) (C := R_MO) (T := F_MO) (N := 15) hx hb hts in_MO t_MO t_MO_ok n_MO hown hK.1 hP hD hS 0 rfl rfl 0 (by decide) (hts _ wfl_MO_38) (fun _ h9 => h9) rfl (by decide +kernel) rfl rfl (Nat.le_of_ble_eq_true rfl) d_MO_node_2 (fun H locs hP hD hS => ?_)
  have hP : va_P (dC, dI) cls [(o, .inr (7, [.int (nI 0), .int (nI nd), .int (nI ar), .ref fF, .ref fG, .ref fT, .ref fN, .ref fW, .int be, .ref fO, .ref fB, .int bz, .ref fS, .ref fD, .int sz]))] H := hP
  have hD : va_D (ow [(o, .inr (7, [.int th, .int (nI nd), .int (nI ar), .ref fF, .ref fG, .ref fT, .ref fN, .ref fW, .int be, .ref fO, .ref fB, .int bz, .ref fS, .ref fD, .int sz]))]) [(o, .inr (7, [.int (nI 0), .int (nI nd), .int (nI ar), .ref fF, .ref fG, .ref fT, .ref fN, .ref fW, .int be, .ref fO, .ref fB, .int bz, .ref fS, .ref fD, .int sz]))] := hD
  refine lv_aload_n hx hb d_MO_node_5 rfl (lv_at hl 0 rfl) ?_
  refine va_get (D := (dC, dI)) (ci := 7) (v := .int (nI nd)) (C := R_MO) (T := F_MO) (N := 15) hx hb hts in_MO hown hK.1 hP 0 rfl rfl 1 (by decide) (hts _ wfl_MO_42) (fun _ h9 => h9) rfl d_MO_node_6 ?_
  refine lv_bipush (v := (nI 14)) hx hb d_MO_node_9 (by decide) ?_
  refine x_cmp_ne (a := nd) (b := 14) (tgt := 17) hx hb (by omega) (by omega) d_MO_node_11 (by decide) (fun c_1 => ?_) (fun c_1 => ?_)
  · skip
    refine lv_aload_n hx hb d_MO_node_17 rfl (lv_at hl 0 rfl) ?_
    refine lv_dup hx hb d_MO_node_18 rfl ?_
    refine va_get (D := (dC, dI)) (ci := 7) (v := .int (nI nd)) (C := R_MO) (T := F_MO) (N := 15) hx hb hts in_MO hown hK.1 hP 0 rfl rfl 1 (by decide) (hts _ wfl_MO_42) (fun _ h9 => h9) rfl d_MO_node_19 ?_
    refine lv_iconst (v := (nI 1)) hx hb d_MO_node_22 (by decide) ?_
    refine lv_iadd hx hb d_MO_node_23 ?_
    refine xe_i (nI_add _ _) ?_
    refine va_put (D := (dC, dI)) (ci := 7) (v := .int (nI (nd + 1))) (ty := .int) (C := R_MO) (T := F_MO) (N := 15) hx hb hts in_MO t_MO t_MO_ok n_MO hown hK.1 hP hD hS 0 rfl rfl 1 (by decide) (hts _ wfl_MO_42) (fun _ h9 => h9) rfl (by decide +kernel) rfl rfl (Nat.le_of_ble_eq_true rfl) d_MO_node_24 (fun H locs hP hD hS => ?_)
    have hP : va_P (dC, dI) cls [(o, .inr (7, [.int (nI 0), .int (nI (nd + 1)), .int (nI ar), .ref fF, .ref fG, .ref fT, .ref fN, .ref fW, .int be, .ref fO, .ref fB, .int bz, .ref fS, .ref fD, .int sz]))] H := hP
    have hD : va_D (ow [(o, .inr (7, [.int th, .int (nI nd), .int (nI ar), .ref fF, .ref fG, .ref fT, .ref fN, .ref fW, .int be, .ref fO, .ref fB, .int bz, .ref fS, .ref fD, .int sz]))]) [(o, .inr (7, [.int (nI 0), .int (nI (nd + 1)), .int (nI ar), .ref fF, .ref fG, .ref fT, .ref fN, .ref fW, .int be, .ref fO, .ref fB, .int bz, .ref fS, .ref fD, .int sz]))] := hD
    refine lv_aload_n hx hb d_MO_node_27 rfl (lv_at hl 0 rfl) ?_
    refine va_get (D := (dC, dI)) (ci := 7) (v := .int (nI (nd + 1))) (C := R_MO) (T := F_MO) (N := 15) hx hb hts in_MO hown hK.1 hP 0 rfl rfl 1 (by decide) (hts _ wfl_MO_42) (fun _ h9 => h9) rfl d_MO_node_28 ?_
    refine lv_iconst (v := (nI 1)) hx hb d_MO_node_31 (by decide) ?_
    refine lv_isub hx hb d_MO_node_32 ?_
    refine xe_i (pk_sub (by omega)) ?_
    exact W.iret (v := (nI ((nd + 1) - 1))) hx hb hr (fun t9 ht9 _ => ⟨⟨_, (), rfl, rfl, by show va_P (dC, dI) cls _ t9.heap; rw [ht9]; exact hP⟩, hS.F ht9⟩) hS.2.2 d_MO_node_33
  · skip
    omega

theorem d_MO_arc_0 : decode prog_9_method_10_code 0 = .ok (.aload_n 0, 1) := by decide +kernel
theorem d_MO_arc_1 : decode prog_9_method_10_code 1 = .ok (.iconst 0, 1) := by decide +kernel
theorem d_MO_arc_2 : decode prog_9_method_10_code 2 = .ok (.putfield 38, 3) := by decide +kernel
theorem d_MO_arc_5 : decode prog_9_method_10_code 5 = .ok (.aload_n 0, 1) := by decide +kernel
theorem d_MO_arc_6 : decode prog_9_method_10_code 6 = .ok (.iload_n 1, 1) := by decide +kernel
theorem d_MO_arc_7 : decode prog_9_method_10_code 7 = .ok (.invokevirtual 52, 3) := by decide +kernel
theorem d_MO_arc_10 : decode prog_9_method_10_code 10 = .ok (.ifCond .eq 11, 3) := by decide +kernel
theorem d_MO_arc_13 : decode prog_9_method_10_code 13 = .ok (.aload_n 0, 1) := by decide +kernel
theorem d_MO_arc_14 : decode prog_9_method_10_code 14 = .ok (.iload_n 2, 1) := by decide +kernel
theorem d_MO_arc_15 : decode prog_9_method_10_code 15 = .ok (.invokevirtual 52, 3) := by decide +kernel
theorem d_MO_arc_18 : decode prog_9_method_10_code 18 = .ok (.ifCond .ne 5, 3) := by decide +kernel
theorem d_MO_arc_21 : decode prog_9_method_10_code 21 = .ok (.iconst (-1), 1) := by decide +kernel
theorem d_MO_arc_22 : decode prog_9_method_10_code 22 = .ok (.ireturn, 1) := by decide +kernel
theorem d_MO_arc_23 : decode prog_9_method_10_code 23 = .ok (.iload_n 1, 1) := by decide +kernel
theorem d_MO_arc_24 : decode prog_9_method_10_code 24 = .ok (.iload_n 2, 1) := by decide +kernel
theorem d_MO_arc_25 : decode prog_9_method_10_code 25 = .ok (.if_icmp .ne 6, 3) := by decide +kernel
theorem d_MO_arc_28 : decode prog_9_method_10_code 28 = .ok (.bipush (-3), 2) := by decide +kernel
theorem d_MO_arc_30 : decode prog_9_method_10_code 30 = .ok (.ireturn, 1) := by decide +kernel
theorem d_MO_arc_31 : decode prog_9_method_10_code 31 = .ok (.aload_n 0, 1) := by decide +kernel
theorem d_MO_arc_32 : decode prog_9_method_10_code 32 = .ok (.getfield 45, 3) := by decide +kernel
theorem d_MO_arc_35 : decode prog_9_method_10_code 35 = .ok (.bipush 40, 2) := by decide +kernel
theorem d_MO_arc_37 : decode prog_9_method_10_code 37 = .ok (.if_icmp .ne 6, 3) := by decide +kernel
theorem d_MO_arc_40 : decode prog_9_method_10_code 40 = .ok (.bipush (-4), 2) := by decide +kernel
theorem d_MO_arc_42 : decode prog_9_method_10_code 42 = .ok (.ireturn, 1) := by decide +kernel
theorem d_MO_arc_43 : decode prog_9_method_10_code 43 = .ok (.aload_n 0, 1) := by decide +kernel
theorem d_MO_arc_44 : decode prog_9_method_10_code 44 = .ok (.getfield 7, 3) := by decide +kernel
theorem d_MO_arc_47 : decode prog_9_method_10_code 47 = .ok (.aload_n 0, 1) := by decide +kernel
theorem d_MO_arc_48 : decode prog_9_method_10_code 48 = .ok (.getfield 45, 3) := by decide +kernel
theorem d_MO_arc_51 : decode prog_9_method_10_code 51 = .ok (.iload_n 1, 1) := by decide +kernel
theorem d_MO_arc_52 : decode prog_9_method_10_code 52 = .ok (.iastore, 1) := by decide +kernel
theorem d_MO_arc_53 : decode prog_9_method_10_code 53 = .ok (.aload_n 0, 1) := by decide +kernel
theorem d_MO_arc_54 : decode prog_9_method_10_code 54 = .ok (.getfield 13, 3) := by decide +kernel
theorem d_MO_arc_57 : decode prog_9_method_10_code 57 = .ok (.aload_n 0, 1) := by decide +kernel
theorem d_MO_arc_58 : decode prog_9_method_10_code 58 = .ok (.getfield 45, 3) := by decide +kernel
theorem d_MO_arc_61 : decode prog_9_method_10_code 61 = .ok (.iload_n 2, 1) := by decide +kernel
theorem d_MO_arc_62 : decode prog_9_method_10_code 62 = .ok (.iastore, 1) := by decide +kernel
theorem d_MO_arc_63 : decode prog_9_method_10_code 63 = .ok (.aload_n 0, 1) := by decide +kernel
theorem d_MO_arc_64 : decode prog_9_method_10_code 64 = .ok (.getfield 16, 3) := by decide +kernel
theorem d_MO_arc_67 : decode prog_9_method_10_code 67 = .ok (.aload_n 0, 1) := by decide +kernel
theorem d_MO_arc_68 : decode prog_9_method_10_code 68 = .ok (.getfield 45, 3) := by decide +kernel
theorem d_MO_arc_71 : decode prog_9_method_10_code 71 = .ok (.iconst 1, 1) := by decide +kernel
theorem d_MO_arc_72 : decode prog_9_method_10_code 72 = .ok (.bastore, 1) := by decide +kernel
theorem d_MO_arc_73 : decode prog_9_method_10_code 73 = .ok (.aload_n 0, 1) := by decide +kernel
theorem d_MO_arc_74 : decode prog_9_method_10_code 74 = .ok (.dup, 1) := by decide +kernel
theorem d_MO_arc_75 : decode prog_9_method_10_code 75 = .ok (.getfield 45, 3) := by decide +kernel
theorem d_MO_arc_78 : decode prog_9_method_10_code 78 = .ok (.iconst 1, 1) := by decide +kernel
theorem d_MO_arc_79 : decode prog_9_method_10_code 79 = .ok (.iadd, 1) := by decide +kernel
theorem d_MO_arc_80 : decode prog_9_method_10_code 80 = .ok (.putfield 45, 3) := by decide +kernel
theorem d_MO_arc_83 : decode prog_9_method_10_code 83 = .ok (.aload_n 0, 1) := by decide +kernel
theorem d_MO_arc_84 : decode prog_9_method_10_code 84 = .ok (.getfield 45, 3) := by decide +kernel
theorem d_MO_arc_87 : decode prog_9_method_10_code 87 = .ok (.iconst 1, 1) := by decide +kernel
theorem d_MO_arc_88 : decode prog_9_method_10_code 88 = .ok (.isub, 1) := by decide +kernel
theorem d_MO_arc_89 : decode prog_9_method_10_code 89 = .ok (.ireturn, 1) := by decide +kernel
set_option maxHeartbeats 4000000 in
set_option maxRecDepth 100000 in
theorem c_MO_arc_b (l : Launch) (dC : Nat → ClassId) (dI : Nat → Nat → Nat) (cI cJ cZ : ClassId) (o fF fG fT fN fW fO fB fS fD : Nat) (th be bz sz : Int32) (nd ar : Nat) (x y : Int32) (hnd14 : nd ≤ 14) (hbad : (vd x nd && vd y nd) = false) : Met l ⟨"CutPointsModel", "arc", "(II)I"⟩ (Cond.code ⟨"CutPointsModel", "arc", "(II)I"⟩ prog_9_method_10_code 3 (some .int) :: TT) (rmk 2 43) (PM dC dI cI cJ cZ [.ref o, .int x, .int y] [(o, .inr (7, [.int th, .int (nI nd), .int (nI ar), .ref fF, .ref fG, .ref fT, .ref fN, .ref fW, .int be, .ref fO, .ref fB, .int bz, .ref fS, .ref fD, .int sz]))]) (va_Qi (S := Unit) (fun r u9 => r = -1) (fun u9 t9 => va_P (dC, dI) cls ([(o, .inr (7, [.int (nI 0), .int (nI nd), .int (nI ar), .ref fF, .ref fG, .ref fT, .ref fN, .ref fW, .int be, .ref fO, .ref fB, .int bz, .ref fS, .ref fD, .int sz]))]) t9.heap) (ow [(o, .inr (7, [.int th, .int (nI nd), .int (nI ar), .ref fF, .ref fG, .ref fT, .ref fN, .ref fW, .int be, .ref fO, .ref fB, .int bz, .ref fS, .ref fD, .int sz]))])) 0 0 (ow [(o, .inr (7, [.int th, .int (nI nd), .int (nI ar), .ref fF, .ref fG, .ref fT, .ref fN, .ref fW, .int be, .ref fO, .ref fB, .int bz, .ref fS, .ref fD, .int sz]))]) := by
  refine Met.ofW (cc := prog_9_method_10_code) (maxL := 3) (ret := (some .int)) (by decide) rfl ?_
  intro p e s m args below meth c s₁ BB9 hml hv
  obtain ⟨rfl, hP, hK, hD0⟩ := hv
  have hx := BB9.exec
  have hb := BB9.bytes
  have hr := BB9.returns
  have hts : ∀ w ∈ TT, w.before _ s = true := fun w h => atoms_spec (ws := (Cond.code ⟨"CutPointsModel", "arc", "(II)I"⟩ prog_9_method_10_code 3 (some .int) :: TT)) BB9.pre w (List.mem_cons_of_mem _ h)
  have hown : s.vm.findClass "CutPointsModel" = some m.cls := findClass_of_methodNamed BB9.named
  have hlocks := BB9.notSynchronized
  have hD := hD0.mine
  have hS : va_S (ow [(o, .inr (7, [.int th, .int (nI nd), .int (nI ar), .ref fF, .ref fG, .ref fT, .ref fN, .ref fW, .int be, .ref fO, .ref fB, .int bz, .ref fS, .ref fD, .int sz]))]) s.heap s.heap [] := va_S.rf
  have hl := lv_entry ([.ref o, .int x, .int y]) (n := 3) (Nat.le_of_ble_eq_true rfl)
  rw [lg_entry_eq]
  generalize (lg_sl ([.ref o, .int x, .int y]) ++ List.replicate (3 - (lg_sl ([.ref o, .int x, .int y])).length) Slot.unset).toArray = ls at hl ⊢
  have hl : lv_has ls 3 [(0, .ref o), (1, .int x), (2, .int y)] := hl
  refine lv_aload_n hx hb d_MO_arc_0 rfl (lv_at hl 0 rfl) ?_
  refine lv_iconst (v := (nI 0)) hx hb d_MO_arc_1 (by decide) ?_
  refine va_put (D := (dC, dI)) (ci := 7) (v := .int (nI 0)) (ty := .int) (C := R_MO) (T := F_MO) (N := 15) hx hb hts in_MO t_MO t_MO_ok n_MO hown hK.1 hP hD hS 0 rfl rfl 0 (by decide) (hts _ wfl_MO_38) (fun _ h9 => h9) rfl (by decide +kernel) rfl rfl (Nat.le_of_ble_eq_true rfl) d_MO_arc_2 (fun H locs hP hD hS => ?_)
  have hP : va_P (dC, dI) cls [(o, .inr (7, [.int (nI 0), .int (nI nd), .int (nI ar), .ref fF, .ref fG, .ref fT, .ref fN, .ref fW, .int be, .ref fO, .ref fB, .int bz, .ref fS, .ref fD, .int sz]))] H := hP
  have hD : va_D (ow [(o, .inr (7, [.int th, .int (nI nd), .int (nI ar), .ref fF, .ref fG, .ref fT, .ref fN, .ref fW, .int be, .ref fO, .ref fB, .int bz, .ref fS, .ref fD, .int sz]))]) [(o, .inr (7, [.int (nI 0), .int (nI nd), .int (nI ar), .ref fF, .ref fG, .ref fT, .ref fN, .ref fW, .int be, .ref fO, .ref fB, .int bz, .ref fS, .ref fD, .int sz]))] := hD
  refine lv_aload_n hx hb d_MO_arc_5 rfl (lv_at hl 0 rfl) ?_
  refine lv_iload_n hx hb d_MO_arc_6 rfl (lv_at hl 1 rfl) ?_
  refine vp_callSi (va_Run.run (k_V (n := 1) (C := R_MO) (rest := []) ⟨hx, hb, hml, hown, hts⟩ (c_MO_isNode l dC dI cI cJ cZ o fF fG fT fN fW fO fB fS fD (nI 0) be bz sz nd ar x (by first | assumption | omega)) wml_MO_52 wim_MO_isNode wsel_MO_isNode wini_MO wcode_MO_isNode (by decide +kernel) ⟨Nat.le_of_ble_eq_true rfl, Nat.le_of_ble_eq_true rfl⟩ (preV_R (q := (R_MO, F_MO, 15)) (ci := 7) (q0 := 0) (hP.sub (ws' := [(o, .inr (7, [.int (nI 0), .int (nI nd), .int (nI ar), .ref fF, .ref fG, .ref fT, .ref fN, .ref fW, .int be, .ref fO, .ref fB, .int bz, .ref fS, .ref fD, .int sz]))]) [0] rfl) hK rfl rfl) rfl hl.1 rfl (Nat.le_of_ble_eq_true rfl) d_MO_arc_7 ⟨Nat.zero_le _, Nat.zero_le _⟩)) (fun r_1 hr_2 => ?_)
  refine xe_i (y := (bI (vd x nd))) hr_2 ?_
  refine x_if_eq (tgt := 21) hx hb d_MO_arc_10 (by decide) (fun c_3 => ?_) (fun c_3 => ?_)
  · skip
    refine lv_iconst (v := (-1)) hx hb d_MO_arc_21 (by decide) ?_
    exact W.iret (v := (-1)) hx hb hr (fun t9 ht9 _ => ⟨⟨_, (), rfl, rfl, by show va_P (dC, dI) cls _ t9.heap; rw [ht9]; exact hP⟩, hS.F ht9⟩) hS.2.2 d_MO_arc_22
  · skip
    refine lv_aload_n hx hb d_MO_arc_13 rfl (lv_at hl 0 rfl) ?_
    refine lv_iload_n hx hb d_MO_arc_14 rfl (lv_at hl 2 rfl) ?_
    refine vp_callSi (va_Run.run (k_V (n := 1) (C := R_MO) (rest := []) ⟨hx, hb, hml, hown, hts⟩ (c_MO_isNode l dC dI cI cJ cZ o fF fG fT fN fW fO fB fS fD (nI 0) be bz sz nd ar y (by first | assumption | omega)) wml_MO_52 wim_MO_isNode wsel_MO_isNode wini_MO wcode_MO_isNode (by decide +kernel) ⟨Nat.le_of_ble_eq_true rfl, Nat.le_of_ble_eq_true rfl⟩ (preV_R (q := (R_MO, F_MO, 15)) (ci := 7) (q0 := 0) (hP.sub (ws' := [(o, .inr (7, [.int (nI 0), .int (nI nd), .int (nI ar), .ref fF, .ref fG, .ref fT, .ref fN, .ref fW, .int be, .ref fO, .ref fB, .int bz, .ref fS, .ref fD, .int sz]))]) [0] rfl) hK rfl rfl) rfl hl.1 rfl (Nat.le_of_ble_eq_true rfl) d_MO_arc_15 ⟨Nat.zero_le _, Nat.zero_le _⟩)) (fun r_4 hr_5 => ?_)
    refine xe_i (y := (bI (vd y nd))) hr_5 ?_
    refine x_if_ne (tgt := 23) hx hb d_MO_arc_18 (by decide) (fun c_6 => ?_) (fun c_6 => ?_)
    · skip
      rw [c_3, c_6] at hbad; cases hbad
    · skip
      refine lv_iconst (v := (-1)) hx hb d_MO_arc_21 (by decide) ?_
      exact W.iret (v := (-1)) hx hb hr (fun t9 ht9 _ => ⟨⟨_, (), rfl, rfl, by show va_P (dC, dI) cls _ t9.heap; rw [ht9]; exact hP⟩, hS.F ht9⟩) hS.2.2 d_MO_arc_22

set_option maxHeartbeats 4000000 in
set_option maxRecDepth 100000 in
theorem c_MO_arc_s (l : Launch) (dC : Nat → ClassId) (dI : Nat → Nat → Nat) (cI cJ cZ : ClassId) (o fF fG fT fN fW fO fB fS fD : Nat) (th be bz sz : Int32) (nd ar : Nat) (a b : Nat) (hnd14 : nd ≤ 14) (ha : a < nd) (hab : a = b) : Met l ⟨"CutPointsModel", "arc", "(II)I"⟩ (Cond.code ⟨"CutPointsModel", "arc", "(II)I"⟩ prog_9_method_10_code 3 (some .int) :: TT) (rmk 2 43) (PM dC dI cI cJ cZ [.ref o, .int (nI a), .int (nI b)] [(o, .inr (7, [.int th, .int (nI nd), .int (nI ar), .ref fF, .ref fG, .ref fT, .ref fN, .ref fW, .int be, .ref fO, .ref fB, .int bz, .ref fS, .ref fD, .int sz]))]) (va_Qi (S := Unit) (fun r u9 => r = -3) (fun u9 t9 => va_P (dC, dI) cls ([(o, .inr (7, [.int (nI 0), .int (nI nd), .int (nI ar), .ref fF, .ref fG, .ref fT, .ref fN, .ref fW, .int be, .ref fO, .ref fB, .int bz, .ref fS, .ref fD, .int sz]))]) t9.heap) (ow [(o, .inr (7, [.int th, .int (nI nd), .int (nI ar), .ref fF, .ref fG, .ref fT, .ref fN, .ref fW, .int be, .ref fO, .ref fB, .int bz, .ref fS, .ref fD, .int sz]))])) 0 0 (ow [(o, .inr (7, [.int th, .int (nI nd), .int (nI ar), .ref fF, .ref fG, .ref fT, .ref fN, .ref fW, .int be, .ref fO, .ref fB, .int bz, .ref fS, .ref fD, .int sz]))]) := by
  refine Met.ofW (cc := prog_9_method_10_code) (maxL := 3) (ret := (some .int)) (by decide) rfl ?_
  intro p e s m args below meth c s₁ BB9 hml hv
  obtain ⟨rfl, hP, hK, hD0⟩ := hv
  have hx := BB9.exec
  have hb := BB9.bytes
  have hr := BB9.returns
  have hts : ∀ w ∈ TT, w.before _ s = true := fun w h => atoms_spec (ws := (Cond.code ⟨"CutPointsModel", "arc", "(II)I"⟩ prog_9_method_10_code 3 (some .int) :: TT)) BB9.pre w (List.mem_cons_of_mem _ h)
  have hown : s.vm.findClass "CutPointsModel" = some m.cls := findClass_of_methodNamed BB9.named
  have hlocks := BB9.notSynchronized
  have hD := hD0.mine
  have hS : va_S (ow [(o, .inr (7, [.int th, .int (nI nd), .int (nI ar), .ref fF, .ref fG, .ref fT, .ref fN, .ref fW, .int be, .ref fO, .ref fB, .int bz, .ref fS, .ref fD, .int sz]))]) s.heap s.heap [] := va_S.rf
  have hl := lv_entry ([.ref o, .int (nI a), .int (nI b)]) (n := 3) (Nat.le_of_ble_eq_true rfl)
  rw [lg_entry_eq]
  generalize (lg_sl ([.ref o, .int (nI a), .int (nI b)]) ++ List.replicate (3 - (lg_sl ([.ref o, .int (nI a), .int (nI b)])).length) Slot.unset).toArray = ls at hl ⊢
  have hl : lv_has ls 3 [(0, .ref o), (1, .int (nI a)), (2, .int (nI b))] := hl
  refine lv_aload_n hx hb d_MO_arc_0 rfl (lv_at hl 0 rfl) ?_
  refine lv_iconst (v := (nI 0)) hx hb d_MO_arc_1 (by decide) ?_
  refine va_put (D := (dC, dI)) (ci := 7) (v := .int (nI 0)) (ty := .int) (C := R_MO) (T := F_MO) (N := 15) hx hb hts in_MO t_MO t_MO_ok n_MO hown hK.1 hP hD hS 0 rfl rfl 0 (by decide) (hts _ wfl_MO_38) (fun _ h9 => h9) rfl (by decide +kernel) rfl rfl (Nat.le_of_ble_eq_true rfl) d_MO_arc_2 (fun H locs hP hD hS => ?_)
  have hP : va_P (dC, dI) cls [(o, .inr (7, [.int (nI 0), .int (nI nd), .int (nI ar), .ref fF, .ref fG, .ref fT, .ref fN, .ref fW, .int be, .ref fO, .ref fB, .int bz, .ref fS, .ref fD, .int sz]))] H := hP
  have hD : va_D (ow [(o, .inr (7, [.int th, .int (nI nd), .int (nI ar), .ref fF, .ref fG, .ref fT, .ref fN, .ref fW, .int be, .ref fO, .ref fB, .int bz, .ref fS, .ref fD, .int sz]))]) [(o, .inr (7, [.int (nI 0), .int (nI nd), .int (nI ar), .ref fF, .ref fG, .ref fT, .ref fN, .ref fW, .int be, .ref fO, .ref fB, .int bz, .ref fS, .ref fD, .int sz]))] := hD
  refine lv_aload_n hx hb d_MO_arc_5 rfl (lv_at hl 0 rfl) ?_
  refine lv_iload_n hx hb d_MO_arc_6 rfl (lv_at hl 1 rfl) ?_
  refine vp_callSi (va_Run.run (k_V (n := 1) (C := R_MO) (rest := []) ⟨hx, hb, hml, hown, hts⟩ (c_MO_isNode l dC dI cI cJ cZ o fF fG fT fN fW fO fB fS fD (nI 0) be bz sz nd ar (nI a) (by first | assumption | omega)) wml_MO_52 wim_MO_isNode wsel_MO_isNode wini_MO wcode_MO_isNode (by decide +kernel) ⟨Nat.le_of_ble_eq_true rfl, Nat.le_of_ble_eq_true rfl⟩ (preV_R (q := (R_MO, F_MO, 15)) (ci := 7) (q0 := 0) (hP.sub (ws' := [(o, .inr (7, [.int (nI 0), .int (nI nd), .int (nI ar), .ref fF, .ref fG, .ref fT, .ref fN, .ref fW, .int be, .ref fO, .ref fB, .int bz, .ref fS, .ref fD, .int sz]))]) [0] rfl) hK rfl rfl) rfl hl.1 rfl (Nat.le_of_ble_eq_true rfl) d_MO_arc_7 ⟨Nat.zero_le _, Nat.zero_le _⟩)) (fun r_1 hr_2 => ?_)
  refine xe_i (y := (bI (vd (nI a) nd))) hr_2 ?_
  refine xe_i (y := (bI true)) (by rw [vd_tt (by omega) ha]) ?_
  refine lv_if_eq (tgt := 21) hx hb d_MO_arc_10 (by decide) (fun c9 => absurd c9 (by decide : ¬ ((bI true) : Int32) = 0)) (fun _ => ?_)
  refine lv_aload_n hx hb d_MO_arc_13 rfl (lv_at hl 0 rfl) ?_
  refine lv_iload_n hx hb d_MO_arc_14 rfl (lv_at hl 2 rfl) ?_
  refine vp_callSi (va_Run.run (k_V (n := 1) (C := R_MO) (rest := []) ⟨hx, hb, hml, hown, hts⟩ (c_MO_isNode l dC dI cI cJ cZ o fF fG fT fN fW fO fB fS fD (nI 0) be bz sz nd ar (nI b) (by first | assumption | omega)) wml_MO_52 wim_MO_isNode wsel_MO_isNode wini_MO wcode_MO_isNode (by decide +kernel) ⟨Nat.le_of_ble_eq_true rfl, Nat.le_of_ble_eq_true rfl⟩ (preV_R (q := (R_MO, F_MO, 15)) (ci := 7) (q0 := 0) (hP.sub (ws' := [(o, .inr (7, [.int (nI 0), .int (nI nd), .int (nI ar), .ref fF, .ref fG, .ref fT, .ref fN, .ref fW, .int be, .ref fO, .ref fB, .int bz, .ref fS, .ref fD, .int sz]))]) [0] rfl) hK rfl rfl) rfl hl.1 rfl (Nat.le_of_ble_eq_true rfl) d_MO_arc_15 ⟨Nat.zero_le _, Nat.zero_le _⟩)) (fun r_4 hr_5 => ?_)
  refine xe_i (y := (bI (vd (nI b) nd))) hr_5 ?_
  refine xe_i (y := (bI true)) (by rw [vd_tt (by omega) (hab ▸ ha)]) ?_
  refine lv_if_ne (tgt := 23) hx hb d_MO_arc_18 (by decide) (fun _ => ?_) (fun c9 => absurd c9 (by decide : ¬ ((bI true) : Int32) = 0))
  refine lv_iload_n hx hb d_MO_arc_23 rfl (lv_at hl 1 rfl) ?_
  refine lv_iload_n hx hb d_MO_arc_24 rfl (lv_at hl 2 rfl) ?_
  refine x_cmp_ne (a := a) (b := b) (tgt := 31) hx hb (by omega) (by omega) d_MO_arc_25 (by decide) (fun c_7 => ?_) (fun c_7 => ?_)
  · skip
    exact absurd hab c_7
  · skip
    refine lv_bipush (v := (-3)) hx hb d_MO_arc_28 (by decide) ?_
    exact W.iret (v := (-3)) hx hb hr (fun t9 ht9 _ => ⟨⟨_, (), rfl, rfl, by show va_P (dC, dI) cls _ t9.heap; rw [ht9]; exact hP⟩, hS.F ht9⟩) hS.2.2 d_MO_arc_30

theorem d_MO_arcs_0 : decode prog_9_method_34_code 0 = .ok (.aload_n 0, 1) := by decide +kernel
theorem d_MO_arcs_1 : decode prog_9_method_34_code 1 = .ok (.iconst 0, 1) := by decide +kernel
theorem d_MO_arcs_2 : decode prog_9_method_34_code 2 = .ok (.putfield 38, 3) := by decide +kernel
theorem d_MO_arcs_5 : decode prog_9_method_34_code 5 = .ok (.aload_n 0, 1) := by decide +kernel
theorem d_MO_arcs_6 : decode prog_9_method_34_code 6 = .ok (.iload_n 1, 1) := by decide +kernel
theorem d_MO_arcs_7 : decode prog_9_method_34_code 7 = .ok (.invokevirtual 52, 3) := by decide +kernel
theorem d_MO_arcs_10 : decode prog_9_method_34_code 10 = .ok (.ifCond .eq 11, 3) := by decide +kernel
theorem d_MO_arcs_13 : decode prog_9_method_34_code 13 = .ok (.aload_n 0, 1) := by decide +kernel
theorem d_MO_arcs_14 : decode prog_9_method_34_code 14 = .ok (.iload_n 2, 1) := by decide +kernel
theorem d_MO_arcs_15 : decode prog_9_method_34_code 15 = .ok (.invokevirtual 52, 3) := by decide +kernel
theorem d_MO_arcs_18 : decode prog_9_method_34_code 18 = .ok (.ifCond .ne 5, 3) := by decide +kernel
theorem d_MO_arcs_21 : decode prog_9_method_34_code 21 = .ok (.iconst (-1), 1) := by decide +kernel
theorem d_MO_arcs_22 : decode prog_9_method_34_code 22 = .ok (.ireturn, 1) := by decide +kernel
theorem d_MO_arcs_23 : decode prog_9_method_34_code 23 = .ok (.iload_n 1, 1) := by decide +kernel
theorem d_MO_arcs_24 : decode prog_9_method_34_code 24 = .ok (.iload_n 2, 1) := by decide +kernel
theorem d_MO_arcs_25 : decode prog_9_method_34_code 25 = .ok (.if_icmp .ne 8, 3) := by decide +kernel
theorem d_MO_arcs_28 : decode prog_9_method_34_code 28 = .ok (.bipush (-3), 2) := by decide +kernel
theorem d_MO_arcs_30 : decode prog_9_method_34_code 30 = .ok (.goto 9, 3) := by decide +kernel
theorem d_MO_arcs_33 : decode prog_9_method_34_code 33 = .ok (.aload_n 0, 1) := by decide +kernel
theorem d_MO_arcs_34 : decode prog_9_method_34_code 34 = .ok (.iload_n 1, 1) := by decide +kernel
theorem d_MO_arcs_35 : decode prog_9_method_34_code 35 = .ok (.iload_n 2, 1) := by decide +kernel
theorem d_MO_arcs_36 : decode prog_9_method_34_code 36 = .ok (.invokevirtual 119, 3) := by decide +kernel
theorem d_MO_arcs_39 : decode prog_9_method_34_code 39 = .ok (.ireturn, 1) := by decide +kernel
set_option maxHeartbeats 4000000 in
set_option maxRecDepth 100000 in
theorem c_MO_arcs_b (l : Launch) (dC : Nat → ClassId) (dI : Nat → Nat → Nat) (cI cJ cZ : ClassId) (o fF fG fT fN fW fO fB fS fD : Nat) (th be bz sz : Int32) (nd ar : Nat) (x y : Int32) (hnd14 : nd ≤ 14) (hbad : (vd x nd && vd y nd) = false) : Met l ⟨"CutPointsModel", "arcs", "(II)I"⟩ (Cond.code ⟨"CutPointsModel", "arcs", "(II)I"⟩ prog_9_method_34_code 3 (some .int) :: TT) (rmk 2 43) (PM dC dI cI cJ cZ [.ref o, .int x, .int y] [(o, .inr (7, [.int th, .int (nI nd), .int (nI ar), .ref fF, .ref fG, .ref fT, .ref fN, .ref fW, .int be, .ref fO, .ref fB, .int bz, .ref fS, .ref fD, .int sz]))]) (va_Qi (S := Unit) (fun r u9 => r = -1) (fun u9 t9 => va_P (dC, dI) cls ([(o, .inr (7, [.int (nI 0), .int (nI nd), .int (nI ar), .ref fF, .ref fG, .ref fT, .ref fN, .ref fW, .int be, .ref fO, .ref fB, .int bz, .ref fS, .ref fD, .int sz]))]) t9.heap) (ow [(o, .inr (7, [.int th, .int (nI nd), .int (nI ar), .ref fF, .ref fG, .ref fT, .ref fN, .ref fW, .int be, .ref fO, .ref fB, .int bz, .ref fS, .ref fD, .int sz]))])) 0 0 (ow [(o, .inr (7, [.int th, .int (nI nd), .int (nI ar), .ref fF, .ref fG, .ref fT, .ref fN, .ref fW, .int be, .ref fO, .ref fB, .int bz, .ref fS, .ref fD, .int sz]))]) := by
  refine Met.ofW (cc := prog_9_method_34_code) (maxL := 3) (ret := (some .int)) (by decide) rfl ?_
  intro p e s m args below meth c s₁ BB9 hml hv
  obtain ⟨rfl, hP, hK, hD0⟩ := hv
  have hx := BB9.exec
  have hb := BB9.bytes
  have hr := BB9.returns
  have hts : ∀ w ∈ TT, w.before _ s = true := fun w h => atoms_spec (ws := (Cond.code ⟨"CutPointsModel", "arcs", "(II)I"⟩ prog_9_method_34_code 3 (some .int) :: TT)) BB9.pre w (List.mem_cons_of_mem _ h)
  have hown : s.vm.findClass "CutPointsModel" = some m.cls := findClass_of_methodNamed BB9.named
  have hlocks := BB9.notSynchronized
  have hD := hD0.mine
  have hS : va_S (ow [(o, .inr (7, [.int th, .int (nI nd), .int (nI ar), .ref fF, .ref fG, .ref fT, .ref fN, .ref fW, .int be, .ref fO, .ref fB, .int bz, .ref fS, .ref fD, .int sz]))]) s.heap s.heap [] := va_S.rf
  have hl := lv_entry ([.ref o, .int x, .int y]) (n := 3) (Nat.le_of_ble_eq_true rfl)
  rw [lg_entry_eq]
  generalize (lg_sl ([.ref o, .int x, .int y]) ++ List.replicate (3 - (lg_sl ([.ref o, .int x, .int y])).length) Slot.unset).toArray = ls at hl ⊢
  have hl : lv_has ls 3 [(0, .ref o), (1, .int x), (2, .int y)] := hl
  refine lv_aload_n hx hb d_MO_arcs_0 rfl (lv_at hl 0 rfl) ?_
  refine lv_iconst (v := (nI 0)) hx hb d_MO_arcs_1 (by decide) ?_
  refine va_put (D := (dC, dI)) (ci := 7) (v := .int (nI 0)) (ty := .int) (C := R_MO) (T := F_MO) (N := 15) hx hb hts in_MO t_MO t_MO_ok n_MO hown hK.1 hP hD hS 0 rfl rfl 0 (by decide) (hts _ wfl_MO_38) (fun _ h9 => h9) rfl (by decide +kernel) rfl rfl (Nat.le_of_ble_eq_true rfl) d_MO_arcs_2 (fun H locs hP hD hS => ?_)
  have hP : va_P (dC, dI) cls [(o, .inr (7, [.int (nI 0), .int (nI nd), .int (nI ar), .ref fF, .ref fG, .ref fT, .ref fN, .ref fW, .int be, .ref fO, .ref fB, .int bz, .ref fS, .ref fD, .int sz]))] H := hP
  have hD : va_D (ow [(o, .inr (7, [.int th, .int (nI nd), .int (nI ar), .ref fF, .ref fG, .ref fT, .ref fN, .ref fW, .int be, .ref fO, .ref fB, .int bz, .ref fS, .ref fD, .int sz]))]) [(o, .inr (7, [.int (nI 0), .int (nI nd), .int (nI ar), .ref fF, .ref fG, .ref fT, .ref fN, .ref fW, .int be, .ref fO, .ref fB, .int bz, .ref fS, .ref fD, .int sz]))] := hD
  refine lv_aload_n hx hb d_MO_arcs_5 rfl (lv_at hl 0 rfl) ?_
  refine lv_iload_n hx hb d_MO_arcs_6 rfl (lv_at hl 1 rfl) ?_
  refine vp_callSi (va_Run.run (k_V (n := 1) (C := R_MO) (rest := []) ⟨hx, hb, hml, hown, hts⟩ (c_MO_isNode l dC dI cI cJ cZ o fF fG fT fN fW fO fB fS fD (nI 0) be bz sz nd ar x (by first | assumption | omega)) wml_MO_52 wim_MO_isNode wsel_MO_isNode wini_MO wcode_MO_isNode (by decide +kernel) ⟨Nat.le_of_ble_eq_true rfl, Nat.le_of_ble_eq_true rfl⟩ (preV_R (q := (R_MO, F_MO, 15)) (ci := 7) (q0 := 0) (hP.sub (ws' := [(o, .inr (7, [.int (nI 0), .int (nI nd), .int (nI ar), .ref fF, .ref fG, .ref fT, .ref fN, .ref fW, .int be, .ref fO, .ref fB, .int bz, .ref fS, .ref fD, .int sz]))]) [0] rfl) hK rfl rfl) rfl hl.1 rfl (Nat.le_of_ble_eq_true rfl) d_MO_arcs_7 ⟨Nat.zero_le _, Nat.zero_le _⟩)) (fun r_1 hr_2 => ?_)
  refine xe_i (y := (bI (vd x nd))) hr_2 ?_
  refine x_if_eq (tgt := 21) hx hb d_MO_arcs_10 (by decide) (fun c_3 => ?_) (fun c_3 => ?_)
  · skip
    refine lv_iconst (v := (-1)) hx hb d_MO_arcs_21 (by decide) ?_
    exact W.iret (v := (-1)) hx hb hr (fun t9 ht9 _ => ⟨⟨_, (), rfl, rfl, by show va_P (dC, dI) cls _ t9.heap; rw [ht9]; exact hP⟩, hS.F ht9⟩) hS.2.2 d_MO_arcs_22
  · skip
    refine lv_aload_n hx hb d_MO_arcs_13 rfl (lv_at hl 0 rfl) ?_
    refine lv_iload_n hx hb d_MO_arcs_14 rfl (lv_at hl 2 rfl) ?_
    refine vp_callSi (va_Run.run (k_V (n := 1) (C := R_MO) (rest := []) ⟨hx, hb, hml, hown, hts⟩ (c_MO_isNode l dC dI cI cJ cZ o fF fG fT fN fW fO fB fS fD (nI 0) be bz sz nd ar y (by first | assumption | omega)) wml_MO_52 wim_MO_isNode wsel_MO_isNode wini_MO wcode_MO_isNode (by decide +kernel) ⟨Nat.le_of_ble_eq_true rfl, Nat.le_of_ble_eq_true rfl⟩ (preV_R (q := (R_MO, F_MO, 15)) (ci := 7) (q0 := 0) (hP.sub (ws' := [(o, .inr (7, [.int (nI 0), .int (nI nd), .int (nI ar), .ref fF, .ref fG, .ref fT, .ref fN, .ref fW, .int be, .ref fO, .ref fB, .int bz, .ref fS, .ref fD, .int sz]))]) [0] rfl) hK rfl rfl) rfl hl.1 rfl (Nat.le_of_ble_eq_true rfl) d_MO_arcs_15 ⟨Nat.zero_le _, Nat.zero_le _⟩)) (fun r_4 hr_5 => ?_)
    refine xe_i (y := (bI (vd y nd))) hr_5 ?_
    refine x_if_ne (tgt := 23) hx hb d_MO_arcs_18 (by decide) (fun c_6 => ?_) (fun c_6 => ?_)
    · skip
      rw [c_3, c_6] at hbad; cases hbad
    · skip
      refine lv_iconst (v := (-1)) hx hb d_MO_arcs_21 (by decide) ?_
      exact W.iret (v := (-1)) hx hb hr (fun t9 ht9 _ => ⟨⟨_, (), rfl, rfl, by show va_P (dC, dI) cls _ t9.heap; rw [ht9]; exact hP⟩, hS.F ht9⟩) hS.2.2 d_MO_arcs_22

set_option maxHeartbeats 4000000 in
set_option maxRecDepth 100000 in
theorem c_MO_arcs_s (l : Launch) (dC : Nat → ClassId) (dI : Nat → Nat → Nat) (cI cJ cZ : ClassId) (o fF fG fT fN fW fO fB fS fD : Nat) (th be bz sz : Int32) (nd ar : Nat) (a b : Nat) (hnd14 : nd ≤ 14) (ha : a < nd) (hab : a = b) : Met l ⟨"CutPointsModel", "arcs", "(II)I"⟩ (Cond.code ⟨"CutPointsModel", "arcs", "(II)I"⟩ prog_9_method_34_code 3 (some .int) :: TT) (rmk 2 43) (PM dC dI cI cJ cZ [.ref o, .int (nI a), .int (nI b)] [(o, .inr (7, [.int th, .int (nI nd), .int (nI ar), .ref fF, .ref fG, .ref fT, .ref fN, .ref fW, .int be, .ref fO, .ref fB, .int bz, .ref fS, .ref fD, .int sz]))]) (va_Qi (S := Unit) (fun r u9 => r = -3) (fun u9 t9 => va_P (dC, dI) cls ([(o, .inr (7, [.int (nI 0), .int (nI nd), .int (nI ar), .ref fF, .ref fG, .ref fT, .ref fN, .ref fW, .int be, .ref fO, .ref fB, .int bz, .ref fS, .ref fD, .int sz]))]) t9.heap) (ow [(o, .inr (7, [.int th, .int (nI nd), .int (nI ar), .ref fF, .ref fG, .ref fT, .ref fN, .ref fW, .int be, .ref fO, .ref fB, .int bz, .ref fS, .ref fD, .int sz]))])) 0 0 (ow [(o, .inr (7, [.int th, .int (nI nd), .int (nI ar), .ref fF, .ref fG, .ref fT, .ref fN, .ref fW, .int be, .ref fO, .ref fB, .int bz, .ref fS, .ref fD, .int sz]))]) := by
  refine Met.ofW (cc := prog_9_method_34_code) (maxL := 3) (ret := (some .int)) (by decide) rfl ?_
  intro p e s m args below meth c s₁ BB9 hml hv
  obtain ⟨rfl, hP, hK, hD0⟩ := hv
  have hx := BB9.exec
  have hb := BB9.bytes
  have hr := BB9.returns
  have hts : ∀ w ∈ TT, w.before _ s = true := fun w h => atoms_spec (ws := (Cond.code ⟨"CutPointsModel", "arcs", "(II)I"⟩ prog_9_method_34_code 3 (some .int) :: TT)) BB9.pre w (List.mem_cons_of_mem _ h)
  have hown : s.vm.findClass "CutPointsModel" = some m.cls := findClass_of_methodNamed BB9.named
  have hlocks := BB9.notSynchronized
  have hD := hD0.mine
  have hS : va_S (ow [(o, .inr (7, [.int th, .int (nI nd), .int (nI ar), .ref fF, .ref fG, .ref fT, .ref fN, .ref fW, .int be, .ref fO, .ref fB, .int bz, .ref fS, .ref fD, .int sz]))]) s.heap s.heap [] := va_S.rf
  have hl := lv_entry ([.ref o, .int (nI a), .int (nI b)]) (n := 3) (Nat.le_of_ble_eq_true rfl)
  rw [lg_entry_eq]
  generalize (lg_sl ([.ref o, .int (nI a), .int (nI b)]) ++ List.replicate (3 - (lg_sl ([.ref o, .int (nI a), .int (nI b)])).length) Slot.unset).toArray = ls at hl ⊢
  have hl : lv_has ls 3 [(0, .ref o), (1, .int (nI a)), (2, .int (nI b))] := hl
  refine lv_aload_n hx hb d_MO_arcs_0 rfl (lv_at hl 0 rfl) ?_
  refine lv_iconst (v := (nI 0)) hx hb d_MO_arcs_1 (by decide) ?_
  refine va_put (D := (dC, dI)) (ci := 7) (v := .int (nI 0)) (ty := .int) (C := R_MO) (T := F_MO) (N := 15) hx hb hts in_MO t_MO t_MO_ok n_MO hown hK.1 hP hD hS 0 rfl rfl 0 (by decide) (hts _ wfl_MO_38) (fun _ h9 => h9) rfl (by decide +kernel) rfl rfl (Nat.le_of_ble_eq_true rfl) d_MO_arcs_2 (fun H locs hP hD hS => ?_)
  have hP : va_P (dC, dI) cls [(o, .inr (7, [.int (nI 0), .int (nI nd), .int (nI ar), .ref fF, .ref fG, .ref fT, .ref fN, .ref fW, .int be, .ref fO, .ref fB, .int bz, .ref fS, .ref fD, .int sz]))] H := hP
  have hD : va_D (ow [(o, .inr (7, [.int th, .int (nI nd), .int (nI ar), .ref fF, .ref fG, .ref fT, .ref fN, .ref fW, .int be, .ref fO, .ref fB, .int bz, .ref fS, .ref fD, .int sz]))]) [(o, .inr (7, [.int (nI 0), .int (nI nd), .int (nI ar), .ref fF, .ref fG, .ref fT, .ref fN, .ref fW, .int be, .ref fO, .ref fB, .int bz, .ref fS, .ref fD, .int sz]))] := hD
  refine lv_aload_n hx hb d_MO_arcs_5 rfl (lv_at hl 0 rfl) ?_
  refine lv_iload_n hx hb d_MO_arcs_6 rfl (lv_at hl 1 rfl) ?_
  refine vp_callSi (va_Run.run (k_V (n := 1) (C := R_MO) (rest := []) ⟨hx, hb, hml, hown, hts⟩ (c_MO_isNode l dC dI cI cJ cZ o fF fG fT fN fW fO fB fS fD (nI 0) be bz sz nd ar (nI a) (by first | assumption | omega)) wml_MO_52 wim_MO_isNode wsel_MO_isNode wini_MO wcode_MO_isNode (by decide +kernel) ⟨Nat.le_of_ble_eq_true rfl, Nat.le_of_ble_eq_true rfl⟩ (preV_R (q := (R_MO, F_MO, 15)) (ci := 7) (q0 := 0) (hP.sub (ws' := [(o, .inr (7, [.int (nI 0), .int (nI nd), .int (nI ar), .ref fF, .ref fG, .ref fT, .ref fN, .ref fW, .int be, .ref fO, .ref fB, .int bz, .ref fS, .ref fD, .int sz]))]) [0] rfl) hK rfl rfl) rfl hl.1 rfl (Nat.le_of_ble_eq_true rfl) d_MO_arcs_7 ⟨Nat.zero_le _, Nat.zero_le _⟩)) (fun r_1 hr_2 => ?_)
  refine xe_i (y := (bI (vd (nI a) nd))) hr_2 ?_
  refine xe_i (y := (bI true)) (by rw [vd_tt (by omega) ha]) ?_
  refine lv_if_eq (tgt := 21) hx hb d_MO_arcs_10 (by decide) (fun c9 => absurd c9 (by decide : ¬ ((bI true) : Int32) = 0)) (fun _ => ?_)
  refine lv_aload_n hx hb d_MO_arcs_13 rfl (lv_at hl 0 rfl) ?_
  refine lv_iload_n hx hb d_MO_arcs_14 rfl (lv_at hl 2 rfl) ?_
  refine vp_callSi (va_Run.run (k_V (n := 1) (C := R_MO) (rest := []) ⟨hx, hb, hml, hown, hts⟩ (c_MO_isNode l dC dI cI cJ cZ o fF fG fT fN fW fO fB fS fD (nI 0) be bz sz nd ar (nI b) (by first | assumption | omega)) wml_MO_52 wim_MO_isNode wsel_MO_isNode wini_MO wcode_MO_isNode (by decide +kernel) ⟨Nat.le_of_ble_eq_true rfl, Nat.le_of_ble_eq_true rfl⟩ (preV_R (q := (R_MO, F_MO, 15)) (ci := 7) (q0 := 0) (hP.sub (ws' := [(o, .inr (7, [.int (nI 0), .int (nI nd), .int (nI ar), .ref fF, .ref fG, .ref fT, .ref fN, .ref fW, .int be, .ref fO, .ref fB, .int bz, .ref fS, .ref fD, .int sz]))]) [0] rfl) hK rfl rfl) rfl hl.1 rfl (Nat.le_of_ble_eq_true rfl) d_MO_arcs_15 ⟨Nat.zero_le _, Nat.zero_le _⟩)) (fun r_4 hr_5 => ?_)
  refine xe_i (y := (bI (vd (nI b) nd))) hr_5 ?_
  refine xe_i (y := (bI true)) (by rw [vd_tt (by omega) (hab ▸ ha)]) ?_
  refine lv_if_ne (tgt := 23) hx hb d_MO_arcs_18 (by decide) (fun _ => ?_) (fun c9 => absurd c9 (by decide : ¬ ((bI true) : Int32) = 0))
  refine lv_iload_n hx hb d_MO_arcs_23 rfl (lv_at hl 1 rfl) ?_
  refine lv_iload_n hx hb d_MO_arcs_24 rfl (lv_at hl 2 rfl) ?_
  refine x_cmp_ne (a := a) (b := b) (tgt := 33) hx hb (by omega) (by omega) d_MO_arcs_25 (by decide) (fun c_7 => ?_) (fun c_7 => ?_)
  · skip
    exact absurd hab c_7
  · skip
    refine lv_bipush (v := (-3)) hx hb d_MO_arcs_28 (by decide) ?_
    refine lv_goto (tgt := 39) hx hb d_MO_arcs_30 (by decide) ?_
    exact W.iret (v := (-3)) hx hb hr (fun t9 ht9 _ => ⟨⟨_, (), rfl, rfl, by show va_P (dC, dI) cls _ t9.heap; rw [ht9]; exact hP⟩, hS.F ht9⟩) hS.2.2 d_MO_arcs_39

theorem d_MO_side_0 : decode prog_9_method_35_code 0 = .ok (.aload_n 0, 1) := by decide +kernel
theorem d_MO_side_1 : decode prog_9_method_35_code 1 = .ok (.iconst 0, 1) := by decide +kernel
theorem d_MO_side_2 : decode prog_9_method_35_code 2 = .ok (.putfield 38, 3) := by decide +kernel
theorem d_MO_side_5 : decode prog_9_method_35_code 5 = .ok (.aload_n 0, 1) := by decide +kernel
theorem d_MO_side_6 : decode prog_9_method_35_code 6 = .ok (.iload_n 1, 1) := by decide +kernel
theorem d_MO_side_7 : decode prog_9_method_35_code 7 = .ok (.invokevirtual 52, 3) := by decide +kernel
theorem d_MO_side_10 : decode prog_9_method_35_code 10 = .ok (.ifCond .eq 11, 3) := by decide +kernel
theorem d_MO_side_13 : decode prog_9_method_35_code 13 = .ok (.aload_n 0, 1) := by decide +kernel
theorem d_MO_side_14 : decode prog_9_method_35_code 14 = .ok (.iload_n 2, 1) := by decide +kernel
theorem d_MO_side_15 : decode prog_9_method_35_code 15 = .ok (.invokevirtual 52, 3) := by decide +kernel
theorem d_MO_side_18 : decode prog_9_method_35_code 18 = .ok (.ifCond .ne 5, 3) := by decide +kernel
theorem d_MO_side_21 : decode prog_9_method_35_code 21 = .ok (.iconst (-1), 1) := by decide +kernel
theorem d_MO_side_22 : decode prog_9_method_35_code 22 = .ok (.ireturn, 1) := by decide +kernel
theorem d_MO_side_23 : decode prog_9_method_35_code 23 = .ok (.iload_n 1, 1) := by decide +kernel
theorem d_MO_side_24 : decode prog_9_method_35_code 24 = .ok (.iload_n 2, 1) := by decide +kernel
theorem d_MO_side_25 : decode prog_9_method_35_code 25 = .ok (.if_icmp .ne 6, 3) := by decide +kernel
theorem d_MO_side_28 : decode prog_9_method_35_code 28 = .ok (.bipush (-3), 2) := by decide +kernel
theorem d_MO_side_30 : decode prog_9_method_35_code 30 = .ok (.ireturn, 1) := by decide +kernel
theorem d_MO_side_31 : decode prog_9_method_35_code 31 = .ok (.aload_n 0, 1) := by decide +kernel
theorem d_MO_side_32 : decode prog_9_method_35_code 32 = .ok (.iload_n 1, 1) := by decide +kernel
theorem d_MO_side_33 : decode prog_9_method_35_code 33 = .ok (.iload_n 2, 1) := by decide +kernel
theorem d_MO_side_34 : decode prog_9_method_35_code 34 = .ok (.invokevirtual 119, 3) := by decide +kernel
theorem d_MO_side_37 : decode prog_9_method_35_code 37 = .ok (.pop, 1) := by decide +kernel
theorem d_MO_side_38 : decode prog_9_method_35_code 38 = .ok (.aload_n 0, 1) := by decide +kernel
theorem d_MO_side_39 : decode prog_9_method_35_code 39 = .ok (.getfield 116, 3) := by decide +kernel
theorem d_MO_side_42 : decode prog_9_method_35_code 42 = .ok (.ireturn, 1) := by decide +kernel
set_option maxHeartbeats 4000000 in
set_option maxRecDepth 100000 in
theorem c_MO_side_b (l : Launch) (dC : Nat → ClassId) (dI : Nat → Nat → Nat) (cI cJ cZ : ClassId) (o fF fG fT fN fW fO fB fS fD : Nat) (th be bz sz : Int32) (nd ar : Nat) (x y : Int32) (hnd14 : nd ≤ 14) (hbad : (vd x nd && vd y nd) = false) : Met l ⟨"CutPointsModel", "side", "(II)I"⟩ (Cond.code ⟨"CutPointsModel", "side", "(II)I"⟩ prog_9_method_35_code 3 (some .int) :: TT) (rmk 2 43) (PM dC dI cI cJ cZ [.ref o, .int x, .int y] [(o, .inr (7, [.int th, .int (nI nd), .int (nI ar), .ref fF, .ref fG, .ref fT, .ref fN, .ref fW, .int be, .ref fO, .ref fB, .int bz, .ref fS, .ref fD, .int sz]))]) (va_Qi (S := Unit) (fun r u9 => r = -1) (fun u9 t9 => va_P (dC, dI) cls ([(o, .inr (7, [.int (nI 0), .int (nI nd), .int (nI ar), .ref fF, .ref fG, .ref fT, .ref fN, .ref fW, .int be, .ref fO, .ref fB, .int bz, .ref fS, .ref fD, .int sz]))]) t9.heap) (ow [(o, .inr (7, [.int th, .int (nI nd), .int (nI ar), .ref fF, .ref fG, .ref fT, .ref fN, .ref fW, .int be, .ref fO, .ref fB, .int bz, .ref fS, .ref fD, .int sz]))])) 0 0 (ow [(o, .inr (7, [.int th, .int (nI nd), .int (nI ar), .ref fF, .ref fG, .ref fT, .ref fN, .ref fW, .int be, .ref fO, .ref fB, .int bz, .ref fS, .ref fD, .int sz]))]) := by
  refine Met.ofW (cc := prog_9_method_35_code) (maxL := 3) (ret := (some .int)) (by decide) rfl ?_
  intro p e s m args below meth c s₁ BB9 hml hv
  obtain ⟨rfl, hP, hK, hD0⟩ := hv
  have hx := BB9.exec
  have hb := BB9.bytes
  have hr := BB9.returns
  have hts : ∀ w ∈ TT, w.before _ s = true := fun w h => atoms_spec (ws := (Cond.code ⟨"CutPointsModel", "side", "(II)I"⟩ prog_9_method_35_code 3 (some .int) :: TT)) BB9.pre w (List.mem_cons_of_mem _ h)
  have hown : s.vm.findClass "CutPointsModel" = some m.cls := findClass_of_methodNamed BB9.named
  have hlocks := BB9.notSynchronized
  have hD := hD0.mine
  have hS : va_S (ow [(o, .inr (7, [.int th, .int (nI nd), .int (nI ar), .ref fF, .ref fG, .ref fT, .ref fN, .ref fW, .int be, .ref fO, .ref fB, .int bz, .ref fS, .ref fD, .int sz]))]) s.heap s.heap [] := va_S.rf
  have hl := lv_entry ([.ref o, .int x, .int y]) (n := 3) (Nat.le_of_ble_eq_true rfl)
  rw [lg_entry_eq]
  generalize (lg_sl ([.ref o, .int x, .int y]) ++ List.replicate (3 - (lg_sl ([.ref o, .int x, .int y])).length) Slot.unset).toArray = ls at hl ⊢
  have hl : lv_has ls 3 [(0, .ref o), (1, .int x), (2, .int y)] := hl
  refine lv_aload_n hx hb d_MO_side_0 rfl (lv_at hl 0 rfl) ?_
  refine lv_iconst (v := (nI 0)) hx hb d_MO_side_1 (by decide) ?_
  refine va_put (D := (dC, dI)) (ci := 7) (v := .int (nI 0)) (ty := .int) (C := R_MO) (T := F_MO) (N := 15) hx hb hts in_MO t_MO t_MO_ok n_MO hown hK.1 hP hD hS 0 rfl rfl 0 (by decide) (hts _ wfl_MO_38) (fun _ h9 => h9) rfl (by decide +kernel) rfl rfl (Nat.le_of_ble_eq_true rfl) d_MO_side_2 (fun H locs hP hD hS => ?_)
  have hP : va_P (dC, dI) cls [(o, .inr (7, [.int (nI 0), .int (nI nd), .int (nI ar), .ref fF, .ref fG, .ref fT, .ref fN, .ref fW, .int be, .ref fO, .ref fB, .int bz, .ref fS, .ref fD, .int sz]))] H := hP
  have hD : va_D (ow [(o, .inr (7, [.int th, .int (nI nd), .int (nI ar), .ref fF, .ref fG, .ref fT, .ref fN, .ref fW, .int be, .ref fO, .ref fB, .int bz, .ref fS, .ref fD, .int sz]))]) [(o, .inr (7, [.int (nI 0), .int (nI nd), .int (nI ar), .ref fF, .ref fG, .ref fT, .ref fN, .ref fW, .int be, .ref fO, .ref fB, .int bz, .ref fS, .ref fD, .int sz]))] := hD
  refine lv_aload_n hx hb d_MO_side_5 rfl (lv_at hl 0 rfl) ?_
  refine lv_iload_n hx hb d_MO_side_6 rfl (lv_at hl 1 rfl) ?_
  refine vp_callSi (va_Run.run (k_V (n := 1) (C := R_MO) (rest := []) ⟨hx, hb, hml, hown, hts⟩ (c_MO_isNode l dC dI cI cJ cZ o fF fG fT fN fW fO fB fS fD (nI 0) be bz sz nd ar x (by first | assumption | omega)) wml_MO_52 wim_MO_isNode wsel_MO_isNode wini_MO wcode_MO_isNode (by decide +kernel) ⟨Nat.le_of_ble_eq_true rfl, Nat.le_of_ble_eq_true rfl⟩ (preV_R (q := (R_MO, F_MO, 15)) (ci := 7) (q0 := 0) (hP.sub (ws' := [(o, .inr (7, [.int (nI 0), .int (nI nd), .int (nI ar), .ref fF, .ref fG, .ref fT, .ref fN, .ref fW, .int be, .ref fO, .ref fB, .int bz, .ref fS, .ref fD, .int sz]))]) [0] rfl) hK rfl rfl) rfl hl.1 rfl (Nat.le_of_ble_eq_true rfl) d_MO_side_7 ⟨Nat.zero_le _, Nat.zero_le _⟩)) (fun r_1 hr_2 => ?_)
  refine xe_i (y := (bI (vd x nd))) hr_2 ?_
  refine x_if_eq (tgt := 21) hx hb d_MO_side_10 (by decide) (fun c_3 => ?_) (fun c_3 => ?_)
  · skip
    refine lv_iconst (v := (-1)) hx hb d_MO_side_21 (by decide) ?_
    exact W.iret (v := (-1)) hx hb hr (fun t9 ht9 _ => ⟨⟨_, (), rfl, rfl, by show va_P (dC, dI) cls _ t9.heap; rw [ht9]; exact hP⟩, hS.F ht9⟩) hS.2.2 d_MO_side_22
  · skip
    refine lv_aload_n hx hb d_MO_side_13 rfl (lv_at hl 0 rfl) ?_
    refine lv_iload_n hx hb d_MO_side_14 rfl (lv_at hl 2 rfl) ?_
    refine vp_callSi (va_Run.run (k_V (n := 1) (C := R_MO) (rest := []) ⟨hx, hb, hml, hown, hts⟩ (c_MO_isNode l dC dI cI cJ cZ o fF fG fT fN fW fO fB fS fD (nI 0) be bz sz nd ar y (by first | assumption | omega)) wml_MO_52 wim_MO_isNode wsel_MO_isNode wini_MO wcode_MO_isNode (by decide +kernel) ⟨Nat.le_of_ble_eq_true rfl, Nat.le_of_ble_eq_true rfl⟩ (preV_R (q := (R_MO, F_MO, 15)) (ci := 7) (q0 := 0) (hP.sub (ws' := [(o, .inr (7, [.int (nI 0), .int (nI nd), .int (nI ar), .ref fF, .ref fG, .ref fT, .ref fN, .ref fW, .int be, .ref fO, .ref fB, .int bz, .ref fS, .ref fD, .int sz]))]) [0] rfl) hK rfl rfl) rfl hl.1 rfl (Nat.le_of_ble_eq_true rfl) d_MO_side_15 ⟨Nat.zero_le _, Nat.zero_le _⟩)) (fun r_4 hr_5 => ?_)
    refine xe_i (y := (bI (vd y nd))) hr_5 ?_
    refine x_if_ne (tgt := 23) hx hb d_MO_side_18 (by decide) (fun c_6 => ?_) (fun c_6 => ?_)
    · skip
      rw [c_3, c_6] at hbad; cases hbad
    · skip
      refine lv_iconst (v := (-1)) hx hb d_MO_side_21 (by decide) ?_
      exact W.iret (v := (-1)) hx hb hr (fun t9 ht9 _ => ⟨⟨_, (), rfl, rfl, by show va_P (dC, dI) cls _ t9.heap; rw [ht9]; exact hP⟩, hS.F ht9⟩) hS.2.2 d_MO_side_22

set_option maxHeartbeats 4000000 in
set_option maxRecDepth 100000 in
theorem c_MO_side_s (l : Launch) (dC : Nat → ClassId) (dI : Nat → Nat → Nat) (cI cJ cZ : ClassId) (o fF fG fT fN fW fO fB fS fD : Nat) (th be bz sz : Int32) (nd ar : Nat) (a b : Nat) (hnd14 : nd ≤ 14) (ha : a < nd) (hab : a = b) : Met l ⟨"CutPointsModel", "side", "(II)I"⟩ (Cond.code ⟨"CutPointsModel", "side", "(II)I"⟩ prog_9_method_35_code 3 (some .int) :: TT) (rmk 2 43) (PM dC dI cI cJ cZ [.ref o, .int (nI a), .int (nI b)] [(o, .inr (7, [.int th, .int (nI nd), .int (nI ar), .ref fF, .ref fG, .ref fT, .ref fN, .ref fW, .int be, .ref fO, .ref fB, .int bz, .ref fS, .ref fD, .int sz]))]) (va_Qi (S := Unit) (fun r u9 => r = -3) (fun u9 t9 => va_P (dC, dI) cls ([(o, .inr (7, [.int (nI 0), .int (nI nd), .int (nI ar), .ref fF, .ref fG, .ref fT, .ref fN, .ref fW, .int be, .ref fO, .ref fB, .int bz, .ref fS, .ref fD, .int sz]))]) t9.heap) (ow [(o, .inr (7, [.int th, .int (nI nd), .int (nI ar), .ref fF, .ref fG, .ref fT, .ref fN, .ref fW, .int be, .ref fO, .ref fB, .int bz, .ref fS, .ref fD, .int sz]))])) 0 0 (ow [(o, .inr (7, [.int th, .int (nI nd), .int (nI ar), .ref fF, .ref fG, .ref fT, .ref fN, .ref fW, .int be, .ref fO, .ref fB, .int bz, .ref fS, .ref fD, .int sz]))]) := by
  refine Met.ofW (cc := prog_9_method_35_code) (maxL := 3) (ret := (some .int)) (by decide) rfl ?_
  intro p e s m args below meth c s₁ BB9 hml hv
  obtain ⟨rfl, hP, hK, hD0⟩ := hv
  have hx := BB9.exec
  have hb := BB9.bytes
  have hr := BB9.returns
  have hts : ∀ w ∈ TT, w.before _ s = true := fun w h => atoms_spec (ws := (Cond.code ⟨"CutPointsModel", "side", "(II)I"⟩ prog_9_method_35_code 3 (some .int) :: TT)) BB9.pre w (List.mem_cons_of_mem _ h)
  have hown : s.vm.findClass "CutPointsModel" = some m.cls := findClass_of_methodNamed BB9.named
  have hlocks := BB9.notSynchronized
  have hD := hD0.mine
  have hS : va_S (ow [(o, .inr (7, [.int th, .int (nI nd), .int (nI ar), .ref fF, .ref fG, .ref fT, .ref fN, .ref fW, .int be, .ref fO, .ref fB, .int bz, .ref fS, .ref fD, .int sz]))]) s.heap s.heap [] := va_S.rf
  have hl := lv_entry ([.ref o, .int (nI a), .int (nI b)]) (n := 3) (Nat.le_of_ble_eq_true rfl)
  rw [lg_entry_eq]
  generalize (lg_sl ([.ref o, .int (nI a), .int (nI b)]) ++ List.replicate (3 - (lg_sl ([.ref o, .int (nI a), .int (nI b)])).length) Slot.unset).toArray = ls at hl ⊢
  have hl : lv_has ls 3 [(0, .ref o), (1, .int (nI a)), (2, .int (nI b))] := hl
  refine lv_aload_n hx hb d_MO_side_0 rfl (lv_at hl 0 rfl) ?_
  refine lv_iconst (v := (nI 0)) hx hb d_MO_side_1 (by decide) ?_
  refine va_put (D := (dC, dI)) (ci := 7) (v := .int (nI 0)) (ty := .int) (C := R_MO) (T := F_MO) (N := 15) hx hb hts in_MO t_MO t_MO_ok n_MO hown hK.1 hP hD hS 0 rfl rfl 0 (by decide) (hts _ wfl_MO_38) (fun _ h9 => h9) rfl (by decide +kernel) rfl rfl (Nat.le_of_ble_eq_true rfl) d_MO_side_2 (fun H locs hP hD hS => ?_)
  have hP : va_P (dC, dI) cls [(o, .inr (7, [.int (nI 0), .int (nI nd), .int (nI ar), .ref fF, .ref fG, .ref fT, .ref fN, .ref fW, .int be, .ref fO, .ref fB, .int bz, .ref fS, .ref fD, .int sz]))] H := hP
  have hD : va_D (ow [(o, .inr (7, [.int th, .int (nI nd), .int (nI ar), .ref fF, .ref fG, .ref fT, .ref fN, .ref fW, .int be, .ref fO, .ref fB, .int bz, .ref fS, .ref fD, .int sz]))]) [(o, .inr (7, [.int (nI 0), .int (nI nd), .int (nI ar), .ref fF, .ref fG, .ref fT, .ref fN, .ref fW, .int be, .ref fO, .ref fB, .int bz, .ref fS, .ref fD, .int sz]))] := hD
  refine lv_aload_n hx hb d_MO_side_5 rfl (lv_at hl 0 rfl) ?_
  refine lv_iload_n hx hb d_MO_side_6 rfl (lv_at hl 1 rfl) ?_
  refine vp_callSi (va_Run.run (k_V (n := 1) (C := R_MO) (rest := []) ⟨hx, hb, hml, hown, hts⟩ (c_MO_isNode l dC dI cI cJ cZ o fF fG fT fN fW fO fB fS fD (nI 0) be bz sz nd ar (nI a) (by first | assumption | omega)) wml_MO_52 wim_MO_isNode wsel_MO_isNode wini_MO wcode_MO_isNode (by decide +kernel) ⟨Nat.le_of_ble_eq_true rfl, Nat.le_of_ble_eq_true rfl⟩ (preV_R (q := (R_MO, F_MO, 15)) (ci := 7) (q0 := 0) (hP.sub (ws' := [(o, .inr (7, [.int (nI 0), .int (nI nd), .int (nI ar), .ref fF, .ref fG, .ref fT, .ref fN, .ref fW, .int be, .ref fO, .ref fB, .int bz, .ref fS, .ref fD, .int sz]))]) [0] rfl) hK rfl rfl) rfl hl.1 rfl (Nat.le_of_ble_eq_true rfl) d_MO_side_7 ⟨Nat.zero_le _, Nat.zero_le _⟩)) (fun r_1 hr_2 => ?_)
  refine xe_i (y := (bI (vd (nI a) nd))) hr_2 ?_
  refine xe_i (y := (bI true)) (by rw [vd_tt (by omega) ha]) ?_
  refine lv_if_eq (tgt := 21) hx hb d_MO_side_10 (by decide) (fun c9 => absurd c9 (by decide : ¬ ((bI true) : Int32) = 0)) (fun _ => ?_)
  refine lv_aload_n hx hb d_MO_side_13 rfl (lv_at hl 0 rfl) ?_
  refine lv_iload_n hx hb d_MO_side_14 rfl (lv_at hl 2 rfl) ?_
  refine vp_callSi (va_Run.run (k_V (n := 1) (C := R_MO) (rest := []) ⟨hx, hb, hml, hown, hts⟩ (c_MO_isNode l dC dI cI cJ cZ o fF fG fT fN fW fO fB fS fD (nI 0) be bz sz nd ar (nI b) (by first | assumption | omega)) wml_MO_52 wim_MO_isNode wsel_MO_isNode wini_MO wcode_MO_isNode (by decide +kernel) ⟨Nat.le_of_ble_eq_true rfl, Nat.le_of_ble_eq_true rfl⟩ (preV_R (q := (R_MO, F_MO, 15)) (ci := 7) (q0 := 0) (hP.sub (ws' := [(o, .inr (7, [.int (nI 0), .int (nI nd), .int (nI ar), .ref fF, .ref fG, .ref fT, .ref fN, .ref fW, .int be, .ref fO, .ref fB, .int bz, .ref fS, .ref fD, .int sz]))]) [0] rfl) hK rfl rfl) rfl hl.1 rfl (Nat.le_of_ble_eq_true rfl) d_MO_side_15 ⟨Nat.zero_le _, Nat.zero_le _⟩)) (fun r_4 hr_5 => ?_)
  refine xe_i (y := (bI (vd (nI b) nd))) hr_5 ?_
  refine xe_i (y := (bI true)) (by rw [vd_tt (by omega) (hab ▸ ha)]) ?_
  refine lv_if_ne (tgt := 23) hx hb d_MO_side_18 (by decide) (fun _ => ?_) (fun c9 => absurd c9 (by decide : ¬ ((bI true) : Int32) = 0))
  refine lv_iload_n hx hb d_MO_side_23 rfl (lv_at hl 1 rfl) ?_
  refine lv_iload_n hx hb d_MO_side_24 rfl (lv_at hl 2 rfl) ?_
  refine x_cmp_ne (a := a) (b := b) (tgt := 31) hx hb (by omega) (by omega) d_MO_side_25 (by decide) (fun c_7 => ?_) (fun c_7 => ?_)
  · skip
    exact absurd hab c_7
  · skip
    refine lv_bipush (v := (-3)) hx hb d_MO_side_28 (by decide) ?_
    exact W.iret (v := (-3)) hx hb hr (fun t9 ht9 _ => ⟨⟨_, (), rfl, rfl, by show va_P (dC, dI) cls _ t9.heap; rw [ht9]; exact hP⟩, hS.F ht9⟩) hS.2.2 d_MO_side_30

theorem d_MO_nodes_0 : decode prog_9_method_37_code 0 = .ok (.aload_n 0, 1) := by decide +kernel
theorem d_MO_nodes_1 : decode prog_9_method_37_code 1 = .ok (.iconst 0, 1) := by decide +kernel
theorem d_MO_nodes_2 : decode prog_9_method_37_code 2 = .ok (.putfield 38, 3) := by decide +kernel
theorem d_MO_nodes_5 : decode prog_9_method_37_code 5 = .ok (.aload_n 0, 1) := by decide +kernel
theorem d_MO_nodes_6 : decode prog_9_method_37_code 6 = .ok (.iload_n 1, 1) := by decide +kernel
theorem d_MO_nodes_7 : decode prog_9_method_37_code 7 = .ok (.invokevirtual 52, 3) := by decide +kernel
theorem d_MO_nodes_10 : decode prog_9_method_37_code 10 = .ok (.ifCond .eq 11, 3) := by decide +kernel
theorem d_MO_nodes_13 : decode prog_9_method_37_code 13 = .ok (.aload_n 0, 1) := by decide +kernel
theorem d_MO_nodes_14 : decode prog_9_method_37_code 14 = .ok (.iload_n 2, 1) := by decide +kernel
theorem d_MO_nodes_15 : decode prog_9_method_37_code 15 = .ok (.invokevirtual 52, 3) := by decide +kernel
theorem d_MO_nodes_18 : decode prog_9_method_37_code 18 = .ok (.ifCond .ne 5, 3) := by decide +kernel
theorem d_MO_nodes_21 : decode prog_9_method_37_code 21 = .ok (.iconst (-1), 1) := by decide +kernel
theorem d_MO_nodes_22 : decode prog_9_method_37_code 22 = .ok (.ireturn, 1) := by decide +kernel
theorem d_MO_nodes_23 : decode prog_9_method_37_code 23 = .ok (.aload_n 0, 1) := by decide +kernel
theorem d_MO_nodes_24 : decode prog_9_method_37_code 24 = .ok (.invokevirtual 67, 3) := by decide +kernel
theorem d_MO_nodes_27 : decode prog_9_method_37_code 27 = .ok (.iload_n 1, 1) := by decide +kernel
theorem d_MO_nodes_28 : decode prog_9_method_37_code 28 = .ok (.iload_n 2, 1) := by decide +kernel
theorem d_MO_nodes_29 : decode prog_9_method_37_code 29 = .ok (.if_icmp .eq 17, 3) := by decide +kernel
theorem d_MO_nodes_32 : decode prog_9_method_37_code 32 = .ok (.aload_n 0, 1) := by decide +kernel
theorem d_MO_nodes_33 : decode prog_9_method_37_code 33 = .ok (.getfield 20, 3) := by decide +kernel
theorem d_MO_nodes_36 : decode prog_9_method_37_code 36 = .ok (.iload_n 1, 1) := by decide +kernel
theorem d_MO_nodes_37 : decode prog_9_method_37_code 37 = .ok (.iaload, 1) := by decide +kernel
theorem d_MO_nodes_38 : decode prog_9_method_37_code 38 = .ok (.iload_n 2, 1) := by decide +kernel
theorem d_MO_nodes_39 : decode prog_9_method_37_code 39 = .ok (.ishr, 1) := by decide +kernel
theorem d_MO_nodes_40 : decode prog_9_method_37_code 40 = .ok (.iconst 1, 1) := by decide +kernel
theorem d_MO_nodes_41 : decode prog_9_method_37_code 41 = .ok (.iand, 1) := by decide +kernel
theorem d_MO_nodes_42 : decode prog_9_method_37_code 42 = .ok (.iconst 1, 1) := by decide +kernel
theorem d_MO_nodes_43 : decode prog_9_method_37_code 43 = .ok (.if_icmp .ne 6, 3) := by decide +kernel
theorem d_MO_nodes_46 : decode prog_9_method_37_code 46 = .ok (.bipush (-3), 2) := by decide +kernel
theorem d_MO_nodes_48 : decode prog_9_method_37_code 48 = .ok (.ireturn, 1) := by decide +kernel
theorem d_MO_nodes_49 : decode prog_9_method_37_code 49 = .ok (.bipush 100, 2) := by decide +kernel
theorem d_MO_nodes_51 : decode prog_9_method_37_code 51 = .ok (.istore_n 3, 1) := by decide +kernel
theorem d_MO_nodes_52 : decode prog_9_method_37_code 52 = .ok (.iconst 1, 1) := by decide +kernel
theorem d_MO_nodes_53 : decode prog_9_method_37_code 53 = .ok (.iload_n 1, 1) := by decide +kernel
theorem d_MO_nodes_54 : decode prog_9_method_37_code 54 = .ok (.ishl, 1) := by decide +kernel
theorem d_MO_nodes_55 : decode prog_9_method_37_code 55 = .ok (.iconst 1, 1) := by decide +kernel
theorem d_MO_nodes_56 : decode prog_9_method_37_code 56 = .ok (.iload_n 2, 1) := by decide +kernel
theorem d_MO_nodes_57 : decode prog_9_method_37_code 57 = .ok (.ishl, 1) := by decide +kernel
theorem d_MO_nodes_58 : decode prog_9_method_37_code 58 = .ok (.ior, 1) := by decide +kernel
theorem d_MO_nodes_59 : decode prog_9_method_37_code 59 = .ok (.istore 4, 2) := by decide +kernel
theorem d_MO_nodes_61 : decode prog_9_method_37_code 61 = .ok (.iconst 0, 1) := by decide +kernel
theorem d_MO_nodes_62 : decode prog_9_method_37_code 62 = .ok (.istore 5, 2) := by decide +kernel
theorem d_MO_nodes_64 : decode prog_9_method_37_code 64 = .ok (.iload 5, 2) := by decide +kernel
theorem d_MO_nodes_66 : decode prog_9_method_37_code 66 = .ok (.iconst 1, 1) := by decide +kernel
theorem d_MO_nodes_67 : decode prog_9_method_37_code 67 = .ok (.aload_n 0, 1) := by decide +kernel
theorem d_MO_nodes_68 : decode prog_9_method_37_code 68 = .ok (.getfield 42, 3) := by decide +kernel
theorem d_MO_nodes_71 : decode prog_9_method_37_code 71 = .ok (.ishl, 1) := by decide +kernel
theorem d_MO_nodes_72 : decode prog_9_method_37_code 72 = .ok (.if_icmp .ge 43, 3) := by decide +kernel
theorem d_MO_nodes_75 : decode prog_9_method_37_code 75 = .ok (.iload 5, 2) := by decide +kernel
theorem d_MO_nodes_77 : decode prog_9_method_37_code 77 = .ok (.iload 4, 2) := by decide +kernel
theorem d_MO_nodes_79 : decode prog_9_method_37_code 79 = .ok (.iand, 1) := by decide +kernel
theorem d_MO_nodes_80 : decode prog_9_method_37_code 80 = .ok (.ifCond .ne 29, 3) := by decide +kernel
theorem d_MO_nodes_83 : decode prog_9_method_37_code 83 = .ok (.iload 5, 2) := by decide +kernel
theorem d_MO_nodes_85 : decode prog_9_method_37_code 85 = .ok (.invokestatic 92, 3) := by decide +kernel
theorem d_MO_nodes_88 : decode prog_9_method_37_code 88 = .ok (.iload_n 3, 1) := by decide +kernel
theorem d_MO_nodes_89 : decode prog_9_method_37_code 89 = .ok (.if_icmp .ge 20, 3) := by decide +kernel
theorem d_MO_nodes_92 : decode prog_9_method_37_code 92 = .ok (.aload_n 0, 1) := by decide +kernel
theorem d_MO_nodes_93 : decode prog_9_method_37_code 93 = .ok (.iload_n 1, 1) := by decide +kernel
theorem d_MO_nodes_94 : decode prog_9_method_37_code 94 = .ok (.iload_n 2, 1) := by decide +kernel
theorem d_MO_nodes_95 : decode prog_9_method_37_code 95 = .ok (.iload 5, 2) := by decide +kernel
theorem d_MO_nodes_97 : decode prog_9_method_37_code 97 = .ok (.invokevirtual 122, 3) := by decide +kernel
theorem d_MO_nodes_100 : decode prog_9_method_37_code 100 = .ok (.ifCond .eq 9, 3) := by decide +kernel
theorem d_MO_nodes_103 : decode prog_9_method_37_code 103 = .ok (.iload 5, 2) := by decide +kernel
theorem d_MO_nodes_105 : decode prog_9_method_37_code 105 = .ok (.invokestatic 92, 3) := by decide +kernel
theorem d_MO_nodes_108 : decode prog_9_method_37_code 108 = .ok (.istore_n 3, 1) := by decide +kernel
theorem d_MO_nodes_109 : decode prog_9_method_37_code 109 = .ok (.iinc 5 1, 3) := by decide +kernel
theorem d_MO_nodes_112 : decode prog_9_method_37_code 112 = .ok (.goto (-48), 3) := by decide +kernel
theorem d_MO_nodes_115 : decode prog_9_method_37_code 115 = .ok (.iload_n 3, 1) := by decide +kernel
theorem d_MO_nodes_116 : decode prog_9_method_37_code 116 = .ok (.ireturn, 1) := by decide +kernel
set_option maxHeartbeats 4000000 in
set_option maxRecDepth 100000 in
theorem c_MO_nodes_b (l : Launch) (dC : Nat → ClassId) (dI : Nat → Nat → Nat) (cI cJ cZ : ClassId) (o fF fG fT fN fW fO fB fS fD : Nat) (th be bz sz : Int32) (nd ar : Nat) (x y : Int32) (hnd14 : nd ≤ 14) (hbad : (vd x nd && vd y nd) = false) : Met l ⟨"CutPointsModel", "nodes", "(II)I"⟩ (Cond.code ⟨"CutPointsModel", "nodes", "(II)I"⟩ prog_9_method_37_code 6 (some .int) :: TT) (rmk 2 43) (PM dC dI cI cJ cZ [.ref o, .int x, .int y] [(o, .inr (7, [.int th, .int (nI nd), .int (nI ar), .ref fF, .ref fG, .ref fT, .ref fN, .ref fW, .int be, .ref fO, .ref fB, .int bz, .ref fS, .ref fD, .int sz]))]) (va_Qi (S := Unit) (fun r u9 => r = -1) (fun u9 t9 => va_P (dC, dI) cls ([(o, .inr (7, [.int (nI 0), .int (nI nd), .int (nI ar), .ref fF, .ref fG, .ref fT, .ref fN, .ref fW, .int be, .ref fO, .ref fB, .int bz, .ref fS, .ref fD, .int sz]))]) t9.heap) (ow [(o, .inr (7, [.int th, .int (nI nd), .int (nI ar), .ref fF, .ref fG, .ref fT, .ref fN, .ref fW, .int be, .ref fO, .ref fB, .int bz, .ref fS, .ref fD, .int sz]))])) 0 0 (ow [(o, .inr (7, [.int th, .int (nI nd), .int (nI ar), .ref fF, .ref fG, .ref fT, .ref fN, .ref fW, .int be, .ref fO, .ref fB, .int bz, .ref fS, .ref fD, .int sz]))]) := by
  refine Met.ofW (cc := prog_9_method_37_code) (maxL := 6) (ret := (some .int)) (by decide) rfl ?_
  intro p e s m args below meth c s₁ BB9 hml hv
  obtain ⟨rfl, hP, hK, hD0⟩ := hv
  have hx := BB9.exec
  have hb := BB9.bytes
  have hr := BB9.returns
  have hts : ∀ w ∈ TT, w.before _ s = true := fun w h => atoms_spec (ws := (Cond.code ⟨"CutPointsModel", "nodes", "(II)I"⟩ prog_9_method_37_code 6 (some .int) :: TT)) BB9.pre w (List.mem_cons_of_mem _ h)
  have hown : s.vm.findClass "CutPointsModel" = some m.cls := findClass_of_methodNamed BB9.named
  have hlocks := BB9.notSynchronized
  have hD := hD0.mine
  have hS : va_S (ow [(o, .inr (7, [.int th, .int (nI nd), .int (nI ar), .ref fF, .ref fG, .ref fT, .ref fN, .ref fW, .int be, .ref fO, .ref fB, .int bz, .ref fS, .ref fD, .int sz]))]) s.heap s.heap [] := va_S.rf
  have hl := lv_entry ([.ref o, .int x, .int y]) (n := 6) (Nat.le_of_ble_eq_true rfl)
  rw [lg_entry_eq]
  generalize (lg_sl ([.ref o, .int x, .int y]) ++ List.replicate (6 - (lg_sl ([.ref o, .int x, .int y])).length) Slot.unset).toArray = ls at hl ⊢
  have hl : lv_has ls 6 [(0, .ref o), (1, .int x), (2, .int y)] := hl
  refine lv_aload_n hx hb d_MO_nodes_0 rfl (lv_at hl 0 rfl) ?_
  refine lv_iconst (v := (nI 0)) hx hb d_MO_nodes_1 (by decide) ?_
  refine va_put (D := (dC, dI)) (ci := 7) (v := .int (nI 0)) (ty := .int) (C := R_MO) (T := F_MO) (N := 15) hx hb hts in_MO t_MO t_MO_ok n_MO hown hK.1 hP hD hS 0 rfl rfl 0 (by decide) (hts _ wfl_MO_38) (fun _ h9 => h9) rfl (by decide +kernel) rfl rfl (Nat.le_of_ble_eq_true rfl) d_MO_nodes_2 (fun H locs hP hD hS => ?_)
  have hP : va_P (dC, dI) cls [(o, .inr (7, [.int (nI 0), .int (nI nd), .int (nI ar), .ref fF, .ref fG, .ref fT, .ref fN, .ref fW, .int be, .ref fO, .ref fB, .int bz, .ref fS, .ref fD, .int sz]))] H := hP
  have hD : va_D (ow [(o, .inr (7, [.int th, .int (nI nd), .int (nI ar), .ref fF, .ref fG, .ref fT, .ref fN, .ref fW, .int be, .ref fO, .ref fB, .int bz, .ref fS, .ref fD, .int sz]))]) [(o, .inr (7, [.int (nI 0), .int (nI nd), .int (nI ar), .ref fF, .ref fG, .ref fT, .ref fN, .ref fW, .int be, .ref fO, .ref fB, .int bz, .ref fS, .ref fD, .int sz]))] := hD
  refine lv_aload_n hx hb d_MO_nodes_5 rfl (lv_at hl 0 rfl) ?_
  refine lv_iload_n hx hb d_MO_nodes_6 rfl (lv_at hl 1 rfl) ?_
  refine vp_callSi (va_Run.run (k_V (n := 1) (C := R_MO) (rest := []) ⟨hx, hb, hml, hown, hts⟩ (c_MO_isNode l dC dI cI cJ cZ o fF fG fT fN fW fO fB fS fD (nI 0) be bz sz nd ar x (by first | assumption | omega)) wml_MO_52 wim_MO_isNode wsel_MO_isNode wini_MO wcode_MO_isNode (by decide +kernel) ⟨Nat.le_of_ble_eq_true rfl, Nat.le_of_ble_eq_true rfl⟩ (preV_R (q := (R_MO, F_MO, 15)) (ci := 7) (q0 := 0) (hP.sub (ws' := [(o, .inr (7, [.int (nI 0), .int (nI nd), .int (nI ar), .ref fF, .ref fG, .ref fT, .ref fN, .ref fW, .int be, .ref fO, .ref fB, .int bz, .ref fS, .ref fD, .int sz]))]) [0] rfl) hK rfl rfl) rfl hl.1 rfl (Nat.le_of_ble_eq_true rfl) d_MO_nodes_7 ⟨Nat.zero_le _, Nat.zero_le _⟩)) (fun r_1 hr_2 => ?_)
  refine xe_i (y := (bI (vd x nd))) hr_2 ?_
  refine x_if_eq (tgt := 21) hx hb d_MO_nodes_10 (by decide) (fun c_3 => ?_) (fun c_3 => ?_)
  · skip
    refine lv_iconst (v := (-1)) hx hb d_MO_nodes_21 (by decide) ?_
    exact W.iret (v := (-1)) hx hb hr (fun t9 ht9 _ => ⟨⟨_, (), rfl, rfl, by show va_P (dC, dI) cls _ t9.heap; rw [ht9]; exact hP⟩, hS.F ht9⟩) hS.2.2 d_MO_nodes_22
  · skip
    refine lv_aload_n hx hb d_MO_nodes_13 rfl (lv_at hl 0 rfl) ?_
    refine lv_iload_n hx hb d_MO_nodes_14 rfl (lv_at hl 2 rfl) ?_
    refine vp_callSi (va_Run.run (k_V (n := 1) (C := R_MO) (rest := []) ⟨hx, hb, hml, hown, hts⟩ (c_MO_isNode l dC dI cI cJ cZ o fF fG fT fN fW fO fB fS fD (nI 0) be bz sz nd ar y (by first | assumption | omega)) wml_MO_52 wim_MO_isNode wsel_MO_isNode wini_MO wcode_MO_isNode (by decide +kernel) ⟨Nat.le_of_ble_eq_true rfl, Nat.le_of_ble_eq_true rfl⟩ (preV_R (q := (R_MO, F_MO, 15)) (ci := 7) (q0 := 0) (hP.sub (ws' := [(o, .inr (7, [.int (nI 0), .int (nI nd), .int (nI ar), .ref fF, .ref fG, .ref fT, .ref fN, .ref fW, .int be, .ref fO, .ref fB, .int bz, .ref fS, .ref fD, .int sz]))]) [0] rfl) hK rfl rfl) rfl hl.1 rfl (Nat.le_of_ble_eq_true rfl) d_MO_nodes_15 ⟨Nat.zero_le _, Nat.zero_le _⟩)) (fun r_4 hr_5 => ?_)
    refine xe_i (y := (bI (vd y nd))) hr_5 ?_
    refine x_if_ne (tgt := 23) hx hb d_MO_nodes_18 (by decide) (fun c_6 => ?_) (fun c_6 => ?_)
    · skip
      rw [c_3, c_6] at hbad; cases hbad
    · skip
      refine lv_iconst (v := (-1)) hx hb d_MO_nodes_21 (by decide) ?_
      exact W.iret (v := (-1)) hx hb hr (fun t9 ht9 _ => ⟨⟨_, (), rfl, rfl, by show va_P (dC, dI) cls _ t9.heap; rw [ht9]; exact hP⟩, hS.F ht9⟩) hS.2.2 d_MO_nodes_22

set_option maxHeartbeats 4000000 in
set_option maxRecDepth 100000 in
theorem c_MO_nodes_s (l : Launch) (dC : Nat → ClassId) (dI : Nat → Nat → Nat) (cI cJ cZ : ClassId) (o fF fG fT fN fW fO fB fS fD : Nat) (th be bz sz : Int32) (nd ar : Nat) (F G : Nat → Nat) (P : Nat → Bool) (hF : ∀ k, F k < 14) (hG : ∀ k, G k < 14) (hnd : nd ≤ 14) (har : ar ≤ 40) (hM : ∀ e, e < ar → F e < nd ∧ G e < nd) (N0 : Nat → Int32) (a b : Nat) (hnd14 : nd ≤ 14) (ha : a < nd) (hab : a = b) : Met l ⟨"CutPointsModel", "nodes", "(II)I"⟩ (Cond.code ⟨"CutPointsModel", "nodes", "(II)I"⟩ prog_9_method_37_code 6 (some .int) :: TT) (rmk 2 47) (PM dC dI cI cJ cZ [.ref o, .int (nI a), .int (nI b)] [(o, .inr (7, [.int th, .int (nI nd), .int (nI ar), .ref fF, .ref fG, .ref fT, .ref fN, .ref fW, .int be, .ref fO, .ref fB, .int bz, .ref fS, .ref fD, .int sz])), (fF, .inl (cI, 41, .inl (nF F))), (fG, .inl (cI, 41, .inl (nF G))), (fT, .inl (cZ, 41, .inl (bF P))), (fN, .inl (cI, 14, .inl N0))]) (va_Qi (S := Nat → Int32) (fun r u9 => r = -3) (fun u9 t9 => va_P (dC, dI) cls ([(o, .inr (7, [.int (nI 0), .int (nI nd), .int (nI ar), .ref fF, .ref fG, .ref fT, .ref fN, .ref fW, .int be, .ref fO, .ref fB, .int bz, .ref fS, .ref fD, .int sz])), (fF, .inl (cI, 41, .inl (nF F))), (fG, .inl (cI, 41, .inl (nF G))), (fT, .inl (cZ, 41, .inl (bF P))), (fN, .inl (cI, 14, .inl u9))]) t9.heap) (ow [(o, .inr (7, [.int th, .int (nI nd), .int (nI ar), .ref fF, .ref fG, .ref fT, .ref fN, .ref fW, .int be, .ref fO, .ref fB, .int bz, .ref fS, .ref fD, .int sz])), (fF, .inl (cI, 41, .inl (nF F))), (fG, .inl (cI, 41, .inl (nF G))), (fT, .inl (cZ, 41, .inl (bF P))), (fN, .inl (cI, 14, .inl N0))])) 0 0 (ow [(o, .inr (7, [.int th, .int (nI nd), .int (nI ar), .ref fF, .ref fG, .ref fT, .ref fN, .ref fW, .int be, .ref fO, .ref fB, .int bz, .ref fS, .ref fD, .int sz])), (fF, .inl (cI, 41, .inl (nF F))), (fG, .inl (cI, 41, .inl (nF G))), (fT, .inl (cZ, 41, .inl (bF P))), (fN, .inl (cI, 14, .inl N0))]) := by
  refine Met.ofW (cc := prog_9_method_37_code) (maxL := 6) (ret := (some .int)) (by decide) rfl ?_
  intro p e s m args below meth c s₁ BB9 hml hv
  obtain ⟨rfl, hP, hK, hD0⟩ := hv
  have hx := BB9.exec
  have hb := BB9.bytes
  have hr := BB9.returns
  have hts : ∀ w ∈ TT, w.before _ s = true := fun w h => atoms_spec (ws := (Cond.code ⟨"CutPointsModel", "nodes", "(II)I"⟩ prog_9_method_37_code 6 (some .int) :: TT)) BB9.pre w (List.mem_cons_of_mem _ h)
  have hown : s.vm.findClass "CutPointsModel" = some m.cls := findClass_of_methodNamed BB9.named
  have hlocks := BB9.notSynchronized
  have hD := hD0.mine
  have hS : va_S (ow [(o, .inr (7, [.int th, .int (nI nd), .int (nI ar), .ref fF, .ref fG, .ref fT, .ref fN, .ref fW, .int be, .ref fO, .ref fB, .int bz, .ref fS, .ref fD, .int sz])), (fF, .inl (cI, 41, .inl (nF F))), (fG, .inl (cI, 41, .inl (nF G))), (fT, .inl (cZ, 41, .inl (bF P))), (fN, .inl (cI, 14, .inl N0))]) s.heap s.heap [] := va_S.rf
  have hl := lv_entry ([.ref o, .int (nI a), .int (nI b)]) (n := 6) (Nat.le_of_ble_eq_true rfl)
  rw [lg_entry_eq]
  generalize (lg_sl ([.ref o, .int (nI a), .int (nI b)]) ++ List.replicate (6 - (lg_sl ([.ref o, .int (nI a), .int (nI b)])).length) Slot.unset).toArray = ls at hl ⊢
  have hl : lv_has ls 6 [(0, .ref o), (1, .int (nI a)), (2, .int (nI b))] := hl
  refine lv_aload_n hx hb d_MO_nodes_0 rfl (lv_at hl 0 rfl) ?_
  refine lv_iconst (v := (nI 0)) hx hb d_MO_nodes_1 (by decide) ?_
  refine va_put (D := (dC, dI)) (ci := 7) (v := .int (nI 0)) (ty := .int) (C := R_MO) (T := F_MO) (N := 15) hx hb hts in_MO t_MO t_MO_ok n_MO hown hK.1 hP hD hS 0 rfl rfl 0 (by decide) (hts _ wfl_MO_38) (fun _ h9 => h9) rfl (by decide +kernel) rfl rfl (Nat.le_of_ble_eq_true rfl) d_MO_nodes_2 (fun H locs hP hD hS => ?_)
  have hP : va_P (dC, dI) cls [(o, .inr (7, [.int (nI 0), .int (nI nd), .int (nI ar), .ref fF, .ref fG, .ref fT, .ref fN, .ref fW, .int be, .ref fO, .ref fB, .int bz, .ref fS, .ref fD, .int sz])), (fF, .inl (cI, 41, .inl (nF F))), (fG, .inl (cI, 41, .inl (nF G))), (fT, .inl (cZ, 41, .inl (bF P))), (fN, .inl (cI, 14, .inl N0))] H := hP
  have hD : va_D (ow [(o, .inr (7, [.int th, .int (nI nd), .int (nI ar), .ref fF, .ref fG, .ref fT, .ref fN, .ref fW, .int be, .ref fO, .ref fB, .int bz, .ref fS, .ref fD, .int sz])), (fF, .inl (cI, 41, .inl (nF F))), (fG, .inl (cI, 41, .inl (nF G))), (fT, .inl (cZ, 41, .inl (bF P))), (fN, .inl (cI, 14, .inl N0))]) [(o, .inr (7, [.int (nI 0), .int (nI nd), .int (nI ar), .ref fF, .ref fG, .ref fT, .ref fN, .ref fW, .int be, .ref fO, .ref fB, .int bz, .ref fS, .ref fD, .int sz])), (fF, .inl (cI, 41, .inl (nF F))), (fG, .inl (cI, 41, .inl (nF G))), (fT, .inl (cZ, 41, .inl (bF P))), (fN, .inl (cI, 14, .inl N0))] := hD
  refine lv_aload_n hx hb d_MO_nodes_5 rfl (lv_at hl 0 rfl) ?_
  refine lv_iload_n hx hb d_MO_nodes_6 rfl (lv_at hl 1 rfl) ?_
  refine vp_callSi (va_Run.run (k_V (n := 1) (C := R_MO) (rest := []) ⟨hx, hb, hml, hown, hts⟩ (c_MO_isNode l dC dI cI cJ cZ o fF fG fT fN fW fO fB fS fD (nI 0) be bz sz nd ar (nI a) (by first | assumption | omega)) wml_MO_52 wim_MO_isNode wsel_MO_isNode wini_MO wcode_MO_isNode (by decide +kernel) ⟨Nat.le_of_ble_eq_true rfl, Nat.le_of_ble_eq_true rfl⟩ (preV_R (q := (R_MO, F_MO, 15)) (ci := 7) (q0 := 0) (hP.sub (ws' := [(o, .inr (7, [.int (nI 0), .int (nI nd), .int (nI ar), .ref fF, .ref fG, .ref fT, .ref fN, .ref fW, .int be, .ref fO, .ref fB, .int bz, .ref fS, .ref fD, .int sz]))]) [0] rfl) hK rfl rfl) rfl hl.1 rfl (Nat.le_of_ble_eq_true rfl) d_MO_nodes_7 ⟨Nat.zero_le _, Nat.zero_le _⟩)) (fun r_1 hr_2 => ?_)
  refine xe_i (y := (bI (vd (nI a) nd))) hr_2 ?_
  refine xe_i (y := (bI true)) (by rw [vd_tt (by omega) ha]) ?_
  refine lv_if_eq (tgt := 21) hx hb d_MO_nodes_10 (by decide) (fun c9 => absurd c9 (by decide : ¬ ((bI true) : Int32) = 0)) (fun _ => ?_)
  refine lv_aload_n hx hb d_MO_nodes_13 rfl (lv_at hl 0 rfl) ?_
  refine lv_iload_n hx hb d_MO_nodes_14 rfl (lv_at hl 2 rfl) ?_
  refine vp_callSi (va_Run.run (k_V (n := 1) (C := R_MO) (rest := []) ⟨hx, hb, hml, hown, hts⟩ (c_MO_isNode l dC dI cI cJ cZ o fF fG fT fN fW fO fB fS fD (nI 0) be bz sz nd ar (nI b) (by first | assumption | omega)) wml_MO_52 wim_MO_isNode wsel_MO_isNode wini_MO wcode_MO_isNode (by decide +kernel) ⟨Nat.le_of_ble_eq_true rfl, Nat.le_of_ble_eq_true rfl⟩ (preV_R (q := (R_MO, F_MO, 15)) (ci := 7) (q0 := 0) (hP.sub (ws' := [(o, .inr (7, [.int (nI 0), .int (nI nd), .int (nI ar), .ref fF, .ref fG, .ref fT, .ref fN, .ref fW, .int be, .ref fO, .ref fB, .int bz, .ref fS, .ref fD, .int sz]))]) [0] rfl) hK rfl rfl) rfl hl.1 rfl (Nat.le_of_ble_eq_true rfl) d_MO_nodes_15 ⟨Nat.zero_le _, Nat.zero_le _⟩)) (fun r_4 hr_5 => ?_)
  refine xe_i (y := (bI (vd (nI b) nd))) hr_5 ?_
  refine xe_i (y := (bI true)) (by rw [vd_tt (by omega) (hab ▸ ha)]) ?_
  refine lv_if_ne (tgt := 23) hx hb d_MO_nodes_18 (by decide) (fun _ => ?_) (fun c9 => absurd c9 (by decide : ¬ ((bI true) : Int32) = 0))
  refine lv_aload_n hx hb d_MO_nodes_23 rfl (lv_at hl 0 rfl) ?_
  refine x_cv (k_V (n := 0) (C := R_MO) (rest := []) ⟨hx, hb, hml, hown, hts⟩ (c_MO_lookAll l dC dI cI cJ cZ o fF fG fT fN fW fO fB fS fD (nI 0) be bz sz nd ar F G P hF hG (by first | assumption | omega) (by first | assumption | omega) hM N0) wml_MO_67 wim_MO_lookAll wsel_MO_lookAll wini_MO wcode_MO_lookAll (by decide +kernel) ⟨Nat.le_of_ble_eq_true rfl, Nat.le_of_ble_eq_true rfl⟩ (preV_M (q := (R_MO, F_MO, 15)) (ci := 7) (q0 := 0) (hP.sub (ws' := [(o, .inr (7, [.int (nI 0), .int (nI nd), .int (nI ar), .ref fF, .ref fG, .ref fT, .ref fN, .ref fW, .int be, .ref fO, .ref fB, .int bz, .ref fS, .ref fD, .int sz])), (fF, .inl (cI, 41, .inl (nF F))), (fG, .inl (cI, 41, .inl (nF G))), (fT, .inl (cZ, 41, .inl (bF P))), (fN, .inl (cI, 14, .inl N0))]) [0, 1, 2, 3, 4] rfl) hK (hD.sub (ws' := [(o, .inr (7, [.int (nI 0), .int (nI nd), .int (nI ar), .ref fF, .ref fG, .ref fT, .ref fN, .ref fW, .int be, .ref fO, .ref fB, .int bz, .ref fS, .ref fD, .int sz])), (fF, .inl (cI, 41, .inl (nF F))), (fG, .inl (cI, 41, .inl (nF G))), (fT, .inl (cZ, 41, .inl (bF P))), (fN, .inl (cI, 14, .inl N0))]) [0, 1, 2, 3, 4] (by decide) rfl) rfl rfl) rfl hl.1 rfl (Nat.le_of_ble_eq_true rfl) d_MO_nodes_24 ⟨Nat.zero_le _, Nat.zero_le _⟩) hP hD hS [0, 1, 2, 3, 4] rfl (fun _ => rfl) (fun u_7 H locs hu_7 hP hS => ?_)
  obtain ⟨N9_7, rfl⟩ : ∃ z, z = u_7 := ⟨_, rfl⟩
  have hP : va_P (dC, dI) cls [(o, .inr (7, [.int (nI 0), .int (nI nd), .int (nI ar), .ref fF, .ref fG, .ref fT, .ref fN, .ref fW, .int be, .ref fO, .ref fB, .int bz, .ref fS, .ref fD, .int sz])), (fF, .inl (cI, 41, .inl (nF F))), (fG, .inl (cI, 41, .inl (nF G))), (fT, .inl (cZ, 41, .inl (bF P))), (fN, .inl (cI, 14, .inl N9_7))] H := hP
  have hD := hD.addr (ws' := [(o, .inr (7, [.int (nI 0), .int (nI nd), .int (nI ar), .ref fF, .ref fG, .ref fT, .ref fN, .ref fW, .int be, .ref fO, .ref fB, .int bz, .ref fS, .ref fD, .int sz])), (fF, .inl (cI, 41, .inl (nF F))), (fG, .inl (cI, 41, .inl (nF G))), (fT, .inl (cZ, 41, .inl (bF P))), (fN, .inl (cI, 14, .inl N9_7))]) rfl
  refine lv_iload_n hx hb d_MO_nodes_27 rfl (lv_at hl 1 rfl) ?_
  refine lv_iload_n hx hb d_MO_nodes_28 rfl (lv_at hl 2 rfl) ?_
  refine x_cmp_eq (a := a) (b := b) (tgt := 46) hx hb (by omega) (by omega) d_MO_nodes_29 (by decide) (fun c_8 => ?_) (fun c_8 => ?_)
  · skip
    refine lv_bipush (v := (-3)) hx hb d_MO_nodes_46 (by decide) ?_
    exact W.iret (v := (-3)) hx hb hr (fun t9 ht9 _ => ⟨⟨_, (N9_7), rfl, rfl, by show va_P (dC, dI) cls _ t9.heap; rw [ht9]; exact hP⟩, hS.F ht9⟩) hS.2.2 d_MO_nodes_48
  · skip
    exact absurd hab c_8

theorem d_MO_between_0 : decode prog_9_method_38_code 0 = .ok (.aload_n 0, 1) := by decide +kernel
theorem d_MO_between_1 : decode prog_9_method_38_code 1 = .ok (.iconst 0, 1) := by decide +kernel
theorem d_MO_between_2 : decode prog_9_method_38_code 2 = .ok (.putfield 38, 3) := by decide +kernel
theorem d_MO_between_5 : decode prog_9_method_38_code 5 = .ok (.aload_n 0, 1) := by decide +kernel
theorem d_MO_between_6 : decode prog_9_method_38_code 6 = .ok (.iload_n 1, 1) := by decide +kernel
theorem d_MO_between_7 : decode prog_9_method_38_code 7 = .ok (.invokevirtual 52, 3) := by decide +kernel
theorem d_MO_between_10 : decode prog_9_method_38_code 10 = .ok (.ifCond .eq 11, 3) := by decide +kernel
theorem d_MO_between_13 : decode prog_9_method_38_code 13 = .ok (.aload_n 0, 1) := by decide +kernel
theorem d_MO_between_14 : decode prog_9_method_38_code 14 = .ok (.iload_n 2, 1) := by decide +kernel
theorem d_MO_between_15 : decode prog_9_method_38_code 15 = .ok (.invokevirtual 52, 3) := by decide +kernel
theorem d_MO_between_18 : decode prog_9_method_38_code 18 = .ok (.ifCond .ne 5, 3) := by decide +kernel
theorem d_MO_between_21 : decode prog_9_method_38_code 21 = .ok (.iconst (-1), 1) := by decide +kernel
theorem d_MO_between_22 : decode prog_9_method_38_code 22 = .ok (.ireturn, 1) := by decide +kernel
theorem d_MO_between_23 : decode prog_9_method_38_code 23 = .ok (.iload_n 1, 1) := by decide +kernel
theorem d_MO_between_24 : decode prog_9_method_38_code 24 = .ok (.iload_n 2, 1) := by decide +kernel
theorem d_MO_between_25 : decode prog_9_method_38_code 25 = .ok (.if_icmp .eq 13, 3) := by decide +kernel
theorem d_MO_between_28 : decode prog_9_method_38_code 28 = .ok (.aload_n 0, 1) := by decide +kernel
theorem d_MO_between_29 : decode prog_9_method_38_code 29 = .ok (.iload_n 1, 1) := by decide +kernel
theorem d_MO_between_30 : decode prog_9_method_38_code 30 = .ok (.iload_n 2, 1) := by decide +kernel
theorem d_MO_between_31 : decode prog_9_method_38_code 31 = .ok (.iconst 0, 1) := by decide +kernel
theorem d_MO_between_32 : decode prog_9_method_38_code 32 = .ok (.invokevirtual 122, 3) := by decide +kernel
theorem d_MO_between_35 : decode prog_9_method_38_code 35 = .ok (.ifCond .eq 6, 3) := by decide +kernel
theorem d_MO_between_38 : decode prog_9_method_38_code 38 = .ok (.bipush (-3), 2) := by decide +kernel
theorem d_MO_between_40 : decode prog_9_method_38_code 40 = .ok (.ireturn, 1) := by decide +kernel
theorem d_MO_between_41 : decode prog_9_method_38_code 41 = .ok (.iconst 0, 1) := by decide +kernel
theorem d_MO_between_42 : decode prog_9_method_38_code 42 = .ok (.istore_n 3, 1) := by decide +kernel
theorem d_MO_between_43 : decode prog_9_method_38_code 43 = .ok (.iconst 0, 1) := by decide +kernel
theorem d_MO_between_44 : decode prog_9_method_38_code 44 = .ok (.istore 4, 2) := by decide +kernel
theorem d_MO_between_46 : decode prog_9_method_38_code 46 = .ok (.iload 4, 2) := by decide +kernel
theorem d_MO_between_48 : decode prog_9_method_38_code 48 = .ok (.aload_n 0, 1) := by decide +kernel
theorem d_MO_between_49 : decode prog_9_method_38_code 49 = .ok (.getfield 42, 3) := by decide +kernel
theorem d_MO_between_52 : decode prog_9_method_38_code 52 = .ok (.if_icmp .ge 42, 3) := by decide +kernel
theorem d_MO_between_55 : decode prog_9_method_38_code 55 = .ok (.iload_n 3, 1) := by decide +kernel
theorem d_MO_between_56 : decode prog_9_method_38_code 56 = .ok (.iload 4, 2) := by decide +kernel
theorem d_MO_between_58 : decode prog_9_method_38_code 58 = .ok (.iload_n 1, 1) := by decide +kernel
theorem d_MO_between_59 : decode prog_9_method_38_code 59 = .ok (.if_icmp .eq 26, 3) := by decide +kernel
theorem d_MO_between_62 : decode prog_9_method_38_code 62 = .ok (.iload 4, 2) := by decide +kernel
theorem d_MO_between_64 : decode prog_9_method_38_code 64 = .ok (.iload_n 2, 1) := by decide +kernel
theorem d_MO_between_65 : decode prog_9_method_38_code 65 = .ok (.if_icmp .eq 20, 3) := by decide +kernel
theorem d_MO_between_68 : decode prog_9_method_38_code 68 = .ok (.aload_n 0, 1) := by decide +kernel
theorem d_MO_between_69 : decode prog_9_method_38_code 69 = .ok (.iload_n 1, 1) := by decide +kernel
theorem d_MO_between_70 : decode prog_9_method_38_code 70 = .ok (.iload_n 2, 1) := by decide +kernel
theorem d_MO_between_71 : decode prog_9_method_38_code 71 = .ok (.iconst 1, 1) := by decide +kernel
theorem d_MO_between_72 : decode prog_9_method_38_code 72 = .ok (.iload 4, 2) := by decide +kernel
theorem d_MO_between_74 : decode prog_9_method_38_code 74 = .ok (.ishl, 1) := by decide +kernel
theorem d_MO_between_75 : decode prog_9_method_38_code 75 = .ok (.invokevirtual 122, 3) := by decide +kernel
theorem d_MO_between_78 : decode prog_9_method_38_code 78 = .ok (.ifCond .eq 7, 3) := by decide +kernel
theorem d_MO_between_81 : decode prog_9_method_38_code 81 = .ok (.iconst 1, 1) := by decide +kernel
theorem d_MO_between_82 : decode prog_9_method_38_code 82 = .ok (.goto 4, 3) := by decide +kernel
theorem d_MO_between_85 : decode prog_9_method_38_code 85 = .ok (.iconst 0, 1) := by decide +kernel
theorem d_MO_between_86 : decode prog_9_method_38_code 86 = .ok (.iadd, 1) := by decide +kernel
theorem d_MO_between_87 : decode prog_9_method_38_code 87 = .ok (.istore_n 3, 1) := by decide +kernel
theorem d_MO_between_88 : decode prog_9_method_38_code 88 = .ok (.iinc 4 1, 3) := by decide +kernel
theorem d_MO_between_91 : decode prog_9_method_38_code 91 = .ok (.goto (-45), 3) := by decide +kernel
theorem d_MO_between_94 : decode prog_9_method_38_code 94 = .ok (.iload_n 3, 1) := by decide +kernel
theorem d_MO_between_95 : decode prog_9_method_38_code 95 = .ok (.ireturn, 1) := by decide +kernel
set_option maxHeartbeats 4000000 in
set_option maxRecDepth 100000 in
theorem c_MO_between_b (l : Launch) (dC : Nat → ClassId) (dI : Nat → Nat → Nat) (cI cJ cZ : ClassId) (o fF fG fT fN fW fO fB fS fD : Nat) (th be bz sz : Int32) (nd ar : Nat) (x y : Int32) (hnd14 : nd ≤ 14) (hbad : (vd x nd && vd y nd) = false) : Met l ⟨"CutPointsModel", "between", "(II)I"⟩ (Cond.code ⟨"CutPointsModel", "between", "(II)I"⟩ prog_9_method_38_code 5 (some .int) :: TT) (rmk 2 43) (PM dC dI cI cJ cZ [.ref o, .int x, .int y] [(o, .inr (7, [.int th, .int (nI nd), .int (nI ar), .ref fF, .ref fG, .ref fT, .ref fN, .ref fW, .int be, .ref fO, .ref fB, .int bz, .ref fS, .ref fD, .int sz]))]) (va_Qi (S := Unit) (fun r u9 => r = -1) (fun u9 t9 => va_P (dC, dI) cls ([(o, .inr (7, [.int (nI 0), .int (nI nd), .int (nI ar), .ref fF, .ref fG, .ref fT, .ref fN, .ref fW, .int be, .ref fO, .ref fB, .int bz, .ref fS, .ref fD, .int sz]))]) t9.heap) (ow [(o, .inr (7, [.int th, .int (nI nd), .int (nI ar), .ref fF, .ref fG, .ref fT, .ref fN, .ref fW, .int be, .ref fO, .ref fB, .int bz, .ref fS, .ref fD, .int sz]))])) 0 0 (ow [(o, .inr (7, [.int th, .int (nI nd), .int (nI ar), .ref fF, .ref fG, .ref fT, .ref fN, .ref fW, .int be, .ref fO, .ref fB, .int bz, .ref fS, .ref fD, .int sz]))]) := by
  refine Met.ofW (cc := prog_9_method_38_code) (maxL := 5) (ret := (some .int)) (by decide) rfl ?_
  intro p e s m args below meth c s₁ BB9 hml hv
  obtain ⟨rfl, hP, hK, hD0⟩ := hv
  have hx := BB9.exec
  have hb := BB9.bytes
  have hr := BB9.returns
  have hts : ∀ w ∈ TT, w.before _ s = true := fun w h => atoms_spec (ws := (Cond.code ⟨"CutPointsModel", "between", "(II)I"⟩ prog_9_method_38_code 5 (some .int) :: TT)) BB9.pre w (List.mem_cons_of_mem _ h)
  have hown : s.vm.findClass "CutPointsModel" = some m.cls := findClass_of_methodNamed BB9.named
  have hlocks := BB9.notSynchronized
  have hD := hD0.mine
  have hS : va_S (ow [(o, .inr (7, [.int th, .int (nI nd), .int (nI ar), .ref fF, .ref fG, .ref fT, .ref fN, .ref fW, .int be, .ref fO, .ref fB, .int bz, .ref fS, .ref fD, .int sz]))]) s.heap s.heap [] := va_S.rf
  have hl := lv_entry ([.ref o, .int x, .int y]) (n := 5) (Nat.le_of_ble_eq_true rfl)
  rw [lg_entry_eq]
  generalize (lg_sl ([.ref o, .int x, .int y]) ++ List.replicate (5 - (lg_sl ([.ref o, .int x, .int y])).length) Slot.unset).toArray = ls at hl ⊢
  have hl : lv_has ls 5 [(0, .ref o), (1, .int x), (2, .int y)] := hl
  refine lv_aload_n hx hb d_MO_between_0 rfl (lv_at hl 0 rfl) ?_
  refine lv_iconst (v := (nI 0)) hx hb d_MO_between_1 (by decide) ?_
  refine va_put (D := (dC, dI)) (ci := 7) (v := .int (nI 0)) (ty := .int) (C := R_MO) (T := F_MO) (N := 15) hx hb hts in_MO t_MO t_MO_ok n_MO hown hK.1 hP hD hS 0 rfl rfl 0 (by decide) (hts _ wfl_MO_38) (fun _ h9 => h9) rfl (by decide +kernel) rfl rfl (Nat.le_of_ble_eq_true rfl) d_MO_between_2 (fun H locs hP hD hS => ?_)
  have hP : va_P (dC, dI) cls [(o, .inr (7, [.int (nI 0), .int (nI nd), .int (nI ar), .ref fF, .ref fG, .ref fT, .ref fN, .ref fW, .int be, .ref fO, .ref fB, .int bz, .ref fS, .ref fD, .int sz]))] H := hP
  have hD : va_D (ow [(o, .inr (7, [.int th, .int (nI nd), .int (nI ar), .ref fF, .ref fG, .ref fT, .ref fN, .ref fW, .int be, .ref fO, .ref fB, .int bz, .ref fS, .ref fD, .int sz]))]) [(o, .inr (7, [.int (nI 0), .int (nI nd), .int (nI ar), .ref fF, .ref fG, .ref fT, .ref fN, .ref fW, .int be, .ref fO, .ref fB, .int bz, .ref fS, .ref fD, .int sz]))] := hD
  refine lv_aload_n hx hb d_MO_between_5 rfl (lv_at hl 0 rfl) ?_
  refine lv_iload_n hx hb d_MO_between_6 rfl (lv_at hl 1 rfl) ?_
  refine vp_callSi (va_Run.run (k_V (n := 1) (C := R_MO) (rest := []) ⟨hx, hb, hml, hown, hts⟩ (c_MO_isNode l dC dI cI cJ cZ o fF fG fT fN fW fO fB fS fD (nI 0) be bz sz nd ar x (by first | assumption | omega)) wml_MO_52 wim_MO_isNode wsel_MO_isNode wini_MO wcode_MO_isNode (by decide +kernel) ⟨Nat.le_of_ble_eq_true rfl, Nat.le_of_ble_eq_true rfl⟩ (preV_R (q := (R_MO, F_MO, 15)) (ci := 7) (q0 := 0) (hP.sub (ws' := [(o, .inr (7, [.int (nI 0), .int (nI nd), .int (nI ar), .ref fF, .ref fG, .ref fT, .ref fN, .ref fW, .int be, .ref fO, .ref fB, .int bz, .ref fS, .ref fD, .int sz]))]) [0] rfl) hK rfl rfl) rfl hl.1 rfl (Nat.le_of_ble_eq_true rfl) d_MO_between_7 ⟨Nat.zero_le _, Nat.zero_le _⟩)) (fun r_1 hr_2 => ?_)
  refine xe_i (y := (bI (vd x nd))) hr_2 ?_
  refine x_if_eq (tgt := 21) hx hb d_MO_between_10 (by decide) (fun c_3 => ?_) (fun c_3 => ?_)
  · skip
    refine lv_iconst (v := (-1)) hx hb d_MO_between_21 (by decide) ?_
    exact W.iret (v := (-1)) hx hb hr (fun t9 ht9 _ => ⟨⟨_, (), rfl, rfl, by show va_P (dC, dI) cls _ t9.heap; rw [ht9]; exact hP⟩, hS.F ht9⟩) hS.2.2 d_MO_between_22
  · skip
    refine lv_aload_n hx hb d_MO_between_13 rfl (lv_at hl 0 rfl) ?_
    refine lv_iload_n hx hb d_MO_between_14 rfl (lv_at hl 2 rfl) ?_
    refine vp_callSi (va_Run.run (k_V (n := 1) (C := R_MO) (rest := []) ⟨hx, hb, hml, hown, hts⟩ (c_MO_isNode l dC dI cI cJ cZ o fF fG fT fN fW fO fB fS fD (nI 0) be bz sz nd ar y (by first | assumption | omega)) wml_MO_52 wim_MO_isNode wsel_MO_isNode wini_MO wcode_MO_isNode (by decide +kernel) ⟨Nat.le_of_ble_eq_true rfl, Nat.le_of_ble_eq_true rfl⟩ (preV_R (q := (R_MO, F_MO, 15)) (ci := 7) (q0 := 0) (hP.sub (ws' := [(o, .inr (7, [.int (nI 0), .int (nI nd), .int (nI ar), .ref fF, .ref fG, .ref fT, .ref fN, .ref fW, .int be, .ref fO, .ref fB, .int bz, .ref fS, .ref fD, .int sz]))]) [0] rfl) hK rfl rfl) rfl hl.1 rfl (Nat.le_of_ble_eq_true rfl) d_MO_between_15 ⟨Nat.zero_le _, Nat.zero_le _⟩)) (fun r_4 hr_5 => ?_)
    refine xe_i (y := (bI (vd y nd))) hr_5 ?_
    refine x_if_ne (tgt := 23) hx hb d_MO_between_18 (by decide) (fun c_6 => ?_) (fun c_6 => ?_)
    · skip
      rw [c_3, c_6] at hbad; cases hbad
    · skip
      refine lv_iconst (v := (-1)) hx hb d_MO_between_21 (by decide) ?_
      exact W.iret (v := (-1)) hx hb hr (fun t9 ht9 _ => ⟨⟨_, (), rfl, rfl, by show va_P (dC, dI) cls _ t9.heap; rw [ht9]; exact hP⟩, hS.F ht9⟩) hS.2.2 d_MO_between_22

set_option maxHeartbeats 4000000 in
set_option maxRecDepth 100000 in
theorem c_MO_between_s (l : Launch) (dC : Nat → ClassId) (dI : Nat → Nat → Nat) (cI cJ cZ : ClassId) (o fF fG fT fN fW fO fB fS fD : Nat) (th be bz sz : Int32) (nd ar : Nat) (a b : Nat) (hnd14 : nd ≤ 14) (ha : a < nd) (hab : a = b) : Met l ⟨"CutPointsModel", "between", "(II)I"⟩ (Cond.code ⟨"CutPointsModel", "between", "(II)I"⟩ prog_9_method_38_code 5 (some .int) :: TT) (rmk 2 43) (PM dC dI cI cJ cZ [.ref o, .int (nI a), .int (nI b)] [(o, .inr (7, [.int th, .int (nI nd), .int (nI ar), .ref fF, .ref fG, .ref fT, .ref fN, .ref fW, .int be, .ref fO, .ref fB, .int bz, .ref fS, .ref fD, .int sz]))]) (va_Qi (S := Unit) (fun r u9 => r = -3) (fun u9 t9 => va_P (dC, dI) cls ([(o, .inr (7, [.int (nI 0), .int (nI nd), .int (nI ar), .ref fF, .ref fG, .ref fT, .ref fN, .ref fW, .int be, .ref fO, .ref fB, .int bz, .ref fS, .ref fD, .int sz]))]) t9.heap) (ow [(o, .inr (7, [.int th, .int (nI nd), .int (nI ar), .ref fF, .ref fG, .ref fT, .ref fN, .ref fW, .int be, .ref fO, .ref fB, .int bz, .ref fS, .ref fD, .int sz]))])) 0 0 (ow [(o, .inr (7, [.int th, .int (nI nd), .int (nI ar), .ref fF, .ref fG, .ref fT, .ref fN, .ref fW, .int be, .ref fO, .ref fB, .int bz, .ref fS, .ref fD, .int sz]))]) := by
  refine Met.ofW (cc := prog_9_method_38_code) (maxL := 5) (ret := (some .int)) (by decide) rfl ?_
  intro p e s m args below meth c s₁ BB9 hml hv
  obtain ⟨rfl, hP, hK, hD0⟩ := hv
  have hx := BB9.exec
  have hb := BB9.bytes
  have hr := BB9.returns
  have hts : ∀ w ∈ TT, w.before _ s = true := fun w h => atoms_spec (ws := (Cond.code ⟨"CutPointsModel", "between", "(II)I"⟩ prog_9_method_38_code 5 (some .int) :: TT)) BB9.pre w (List.mem_cons_of_mem _ h)
  have hown : s.vm.findClass "CutPointsModel" = some m.cls := findClass_of_methodNamed BB9.named
  have hlocks := BB9.notSynchronized
  have hD := hD0.mine
  have hS : va_S (ow [(o, .inr (7, [.int th, .int (nI nd), .int (nI ar), .ref fF, .ref fG, .ref fT, .ref fN, .ref fW, .int be, .ref fO, .ref fB, .int bz, .ref fS, .ref fD, .int sz]))]) s.heap s.heap [] := va_S.rf
  have hl := lv_entry ([.ref o, .int (nI a), .int (nI b)]) (n := 5) (Nat.le_of_ble_eq_true rfl)
  rw [lg_entry_eq]
  generalize (lg_sl ([.ref o, .int (nI a), .int (nI b)]) ++ List.replicate (5 - (lg_sl ([.ref o, .int (nI a), .int (nI b)])).length) Slot.unset).toArray = ls at hl ⊢
  have hl : lv_has ls 5 [(0, .ref o), (1, .int (nI a)), (2, .int (nI b))] := hl
  refine lv_aload_n hx hb d_MO_between_0 rfl (lv_at hl 0 rfl) ?_
  refine lv_iconst (v := (nI 0)) hx hb d_MO_between_1 (by decide) ?_
  refine va_put (D := (dC, dI)) (ci := 7) (v := .int (nI 0)) (ty := .int) (C := R_MO) (T := F_MO) (N := 15) hx hb hts in_MO t_MO t_MO_ok n_MO hown hK.1 hP hD hS 0 rfl rfl 0 (by decide) (hts _ wfl_MO_38) (fun _ h9 => h9) rfl (by decide +kernel) rfl rfl (Nat.le_of_ble_eq_true rfl) d_MO_between_2 (fun H locs hP hD hS => ?_)
  have hP : va_P (dC, dI) cls [(o, .inr (7, [.int (nI 0), .int (nI nd), .int (nI ar), .ref fF, .ref fG, .ref fT, .ref fN, .ref fW, .int be, .ref fO, .ref fB, .int bz, .ref fS, .ref fD, .int sz]))] H := hP
  have hD : va_D (ow [(o, .inr (7, [.int th, .int (nI nd), .int (nI ar), .ref fF, .ref fG, .ref fT, .ref fN, .ref fW, .int be, .ref fO, .ref fB, .int bz, .ref fS, .ref fD, .int sz]))]) [(o, .inr (7, [.int (nI 0), .int (nI nd), .int (nI ar), .ref fF, .ref fG, .ref fT, .ref fN, .ref fW, .int be, .ref fO, .ref fB, .int bz, .ref fS, .ref fD, .int sz]))] := hD
  refine lv_aload_n hx hb d_MO_between_5 rfl (lv_at hl 0 rfl) ?_
  refine lv_iload_n hx hb d_MO_between_6 rfl (lv_at hl 1 rfl) ?_
  refine vp_callSi (va_Run.run (k_V (n := 1) (C := R_MO) (rest := []) ⟨hx, hb, hml, hown, hts⟩ (c_MO_isNode l dC dI cI cJ cZ o fF fG fT fN fW fO fB fS fD (nI 0) be bz sz nd ar (nI a) (by first | assumption | omega)) wml_MO_52 wim_MO_isNode wsel_MO_isNode wini_MO wcode_MO_isNode (by decide +kernel) ⟨Nat.le_of_ble_eq_true rfl, Nat.le_of_ble_eq_true rfl⟩ (preV_R (q := (R_MO, F_MO, 15)) (ci := 7) (q0 := 0) (hP.sub (ws' := [(o, .inr (7, [.int (nI 0), .int (nI nd), .int (nI ar), .ref fF, .ref fG, .ref fT, .ref fN, .ref fW, .int be, .ref fO, .ref fB, .int bz, .ref fS, .ref fD, .int sz]))]) [0] rfl) hK rfl rfl) rfl hl.1 rfl (Nat.le_of_ble_eq_true rfl) d_MO_between_7 ⟨Nat.zero_le _, Nat.zero_le _⟩)) (fun r_1 hr_2 => ?_)
  refine xe_i (y := (bI (vd (nI a) nd))) hr_2 ?_
  refine xe_i (y := (bI true)) (by rw [vd_tt (by omega) ha]) ?_
  refine lv_if_eq (tgt := 21) hx hb d_MO_between_10 (by decide) (fun c9 => absurd c9 (by decide : ¬ ((bI true) : Int32) = 0)) (fun _ => ?_)
  refine lv_aload_n hx hb d_MO_between_13 rfl (lv_at hl 0 rfl) ?_
  refine lv_iload_n hx hb d_MO_between_14 rfl (lv_at hl 2 rfl) ?_
  refine vp_callSi (va_Run.run (k_V (n := 1) (C := R_MO) (rest := []) ⟨hx, hb, hml, hown, hts⟩ (c_MO_isNode l dC dI cI cJ cZ o fF fG fT fN fW fO fB fS fD (nI 0) be bz sz nd ar (nI b) (by first | assumption | omega)) wml_MO_52 wim_MO_isNode wsel_MO_isNode wini_MO wcode_MO_isNode (by decide +kernel) ⟨Nat.le_of_ble_eq_true rfl, Nat.le_of_ble_eq_true rfl⟩ (preV_R (q := (R_MO, F_MO, 15)) (ci := 7) (q0 := 0) (hP.sub (ws' := [(o, .inr (7, [.int (nI 0), .int (nI nd), .int (nI ar), .ref fF, .ref fG, .ref fT, .ref fN, .ref fW, .int be, .ref fO, .ref fB, .int bz, .ref fS, .ref fD, .int sz]))]) [0] rfl) hK rfl rfl) rfl hl.1 rfl (Nat.le_of_ble_eq_true rfl) d_MO_between_15 ⟨Nat.zero_le _, Nat.zero_le _⟩)) (fun r_4 hr_5 => ?_)
  refine xe_i (y := (bI (vd (nI b) nd))) hr_5 ?_
  refine xe_i (y := (bI true)) (by rw [vd_tt (by omega) (hab ▸ ha)]) ?_
  refine lv_if_ne (tgt := 23) hx hb d_MO_between_18 (by decide) (fun _ => ?_) (fun c9 => absurd c9 (by decide : ¬ ((bI true) : Int32) = 0))
  refine lv_iload_n hx hb d_MO_between_23 rfl (lv_at hl 1 rfl) ?_
  refine lv_iload_n hx hb d_MO_between_24 rfl (lv_at hl 2 rfl) ?_
  refine x_cmp_eq (a := a) (b := b) (tgt := 38) hx hb (by omega) (by omega) d_MO_between_25 (by decide) (fun c_7 => ?_) (fun c_7 => ?_)
  · skip
    refine lv_bipush (v := (-3)) hx hb d_MO_between_38 (by decide) ?_
    exact W.iret (v := (-3)) hx hb hr (fun t9 ht9 _ => ⟨⟨_, (), rfl, rfl, by show va_P (dC, dI) cls _ t9.heap; rw [ht9]; exact hP⟩, hS.F ht9⟩) hS.2.2 d_MO_between_40
  · skip
    exact absurd hab c_7

theorem d_MO_mends_0 : decode prog_9_method_39_code 0 = .ok (.aload_n 0, 1) := by decide +kernel
theorem d_MO_mends_1 : decode prog_9_method_39_code 1 = .ok (.iconst 0, 1) := by decide +kernel
theorem d_MO_mends_2 : decode prog_9_method_39_code 2 = .ok (.putfield 38, 3) := by decide +kernel
theorem d_MO_mends_5 : decode prog_9_method_39_code 5 = .ok (.aload_n 0, 1) := by decide +kernel
theorem d_MO_mends_6 : decode prog_9_method_39_code 6 = .ok (.iload_n 1, 1) := by decide +kernel
theorem d_MO_mends_7 : decode prog_9_method_39_code 7 = .ok (.invokevirtual 52, 3) := by decide +kernel
theorem d_MO_mends_10 : decode prog_9_method_39_code 10 = .ok (.ifCond .eq 11, 3) := by decide +kernel
theorem d_MO_mends_13 : decode prog_9_method_39_code 13 = .ok (.aload_n 0, 1) := by decide +kernel
theorem d_MO_mends_14 : decode prog_9_method_39_code 14 = .ok (.iload_n 2, 1) := by decide +kernel
theorem d_MO_mends_15 : decode prog_9_method_39_code 15 = .ok (.invokevirtual 52, 3) := by decide +kernel
theorem d_MO_mends_18 : decode prog_9_method_39_code 18 = .ok (.ifCond .ne 5, 3) := by decide +kernel
theorem d_MO_mends_21 : decode prog_9_method_39_code 21 = .ok (.iconst (-1), 1) := by decide +kernel
theorem d_MO_mends_22 : decode prog_9_method_39_code 22 = .ok (.ireturn, 1) := by decide +kernel
theorem d_MO_mends_23 : decode prog_9_method_39_code 23 = .ok (.iload_n 1, 1) := by decide +kernel
theorem d_MO_mends_24 : decode prog_9_method_39_code 24 = .ok (.iload_n 2, 1) := by decide +kernel
theorem d_MO_mends_25 : decode prog_9_method_39_code 25 = .ok (.if_icmp .ne 6, 3) := by decide +kernel
theorem d_MO_mends_28 : decode prog_9_method_39_code 28 = .ok (.bipush (-3), 2) := by decide +kernel
theorem d_MO_mends_30 : decode prog_9_method_39_code 30 = .ok (.ireturn, 1) := by decide +kernel
theorem d_MO_mends_31 : decode prog_9_method_39_code 31 = .ok (.aload_n 0, 1) := by decide +kernel
theorem d_MO_mends_32 : decode prog_9_method_39_code 32 = .ok (.iconst 0, 1) := by decide +kernel
theorem d_MO_mends_33 : decode prog_9_method_39_code 33 = .ok (.invokevirtual 107, 3) := by decide +kernel
theorem d_MO_mends_36 : decode prog_9_method_39_code 36 = .ok (.istore_n 3, 1) := by decide +kernel
theorem d_MO_mends_37 : decode prog_9_method_39_code 37 = .ok (.aload_n 0, 1) := by decide +kernel
theorem d_MO_mends_38 : decode prog_9_method_39_code 38 = .ok (.getfield 7, 3) := by decide +kernel
theorem d_MO_mends_41 : decode prog_9_method_39_code 41 = .ok (.aload_n 0, 1) := by decide +kernel
theorem d_MO_mends_42 : decode prog_9_method_39_code 42 = .ok (.getfield 45, 3) := by decide +kernel
theorem d_MO_mends_45 : decode prog_9_method_39_code 45 = .ok (.iload_n 1, 1) := by decide +kernel
theorem d_MO_mends_46 : decode prog_9_method_39_code 46 = .ok (.iastore, 1) := by decide +kernel
theorem d_MO_mends_47 : decode prog_9_method_39_code 47 = .ok (.aload_n 0, 1) := by decide +kernel
theorem d_MO_mends_48 : decode prog_9_method_39_code 48 = .ok (.getfield 13, 3) := by decide +kernel
theorem d_MO_mends_51 : decode prog_9_method_39_code 51 = .ok (.aload_n 0, 1) := by decide +kernel
theorem d_MO_mends_52 : decode prog_9_method_39_code 52 = .ok (.getfield 45, 3) := by decide +kernel
theorem d_MO_mends_55 : decode prog_9_method_39_code 55 = .ok (.iload_n 2, 1) := by decide +kernel
theorem d_MO_mends_56 : decode prog_9_method_39_code 56 = .ok (.iastore, 1) := by decide +kernel
theorem d_MO_mends_57 : decode prog_9_method_39_code 57 = .ok (.aload_n 0, 1) := by decide +kernel
theorem d_MO_mends_58 : decode prog_9_method_39_code 58 = .ok (.iconst 1, 1) := by decide +kernel
theorem d_MO_mends_59 : decode prog_9_method_39_code 59 = .ok (.invokevirtual 107, 3) := by decide +kernel
theorem d_MO_mends_62 : decode prog_9_method_39_code 62 = .ok (.iload_n 3, 1) := by decide +kernel
theorem d_MO_mends_63 : decode prog_9_method_39_code 63 = .ok (.if_icmp .ge 7, 3) := by decide +kernel
theorem d_MO_mends_66 : decode prog_9_method_39_code 66 = .ok (.iconst 1, 1) := by decide +kernel
theorem d_MO_mends_67 : decode prog_9_method_39_code 67 = .ok (.goto 4, 3) := by decide +kernel
theorem d_MO_mends_70 : decode prog_9_method_39_code 70 = .ok (.iconst 0, 1) := by decide +kernel
theorem d_MO_mends_71 : decode prog_9_method_39_code 71 = .ok (.ireturn, 1) := by decide +kernel
set_option maxHeartbeats 4000000 in
set_option maxRecDepth 100000 in
theorem c_MO_mends_b (l : Launch) (dC : Nat → ClassId) (dI : Nat → Nat → Nat) (cI cJ cZ : ClassId) (o fF fG fT fN fW fO fB fS fD : Nat) (th be bz sz : Int32) (nd ar : Nat) (x y : Int32) (hnd14 : nd ≤ 14) (hbad : (vd x nd && vd y nd) = false) : Met l ⟨"CutPointsModel", "mends", "(II)I"⟩ (Cond.code ⟨"CutPointsModel", "mends", "(II)I"⟩ prog_9_method_39_code 4 (some .int) :: TT) (rmk 2 43) (PM dC dI cI cJ cZ [.ref o, .int x, .int y] [(o, .inr (7, [.int th, .int (nI nd), .int (nI ar), .ref fF, .ref fG, .ref fT, .ref fN, .ref fW, .int be, .ref fO, .ref fB, .int bz, .ref fS, .ref fD, .int sz]))]) (va_Qi (S := Unit) (fun r u9 => r = -1) (fun u9 t9 => va_P (dC, dI) cls ([(o, .inr (7, [.int (nI 0), .int (nI nd), .int (nI ar), .ref fF, .ref fG, .ref fT, .ref fN, .ref fW, .int be, .ref fO, .ref fB, .int bz, .ref fS, .ref fD, .int sz]))]) t9.heap) (ow [(o, .inr (7, [.int th, .int (nI nd), .int (nI ar), .ref fF, .ref fG, .ref fT, .ref fN, .ref fW, .int be, .ref fO, .ref fB, .int bz, .ref fS, .ref fD, .int sz]))])) 0 0 (ow [(o, .inr (7, [.int th, .int (nI nd), .int (nI ar), .ref fF, .ref fG, .ref fT, .ref fN, .ref fW, .int be, .ref fO, .ref fB, .int bz, .ref fS, .ref fD, .int sz]))]) := by
  refine Met.ofW (cc := prog_9_method_39_code) (maxL := 4) (ret := (some .int)) (by decide) rfl ?_
  intro p e s m args below meth c s₁ BB9 hml hv
  obtain ⟨rfl, hP, hK, hD0⟩ := hv
  have hx := BB9.exec
  have hb := BB9.bytes
  have hr := BB9.returns
  have hts : ∀ w ∈ TT, w.before _ s = true := fun w h => atoms_spec (ws := (Cond.code ⟨"CutPointsModel", "mends", "(II)I"⟩ prog_9_method_39_code 4 (some .int) :: TT)) BB9.pre w (List.mem_cons_of_mem _ h)
  have hown : s.vm.findClass "CutPointsModel" = some m.cls := findClass_of_methodNamed BB9.named
  have hlocks := BB9.notSynchronized
  have hD := hD0.mine
  have hS : va_S (ow [(o, .inr (7, [.int th, .int (nI nd), .int (nI ar), .ref fF, .ref fG, .ref fT, .ref fN, .ref fW, .int be, .ref fO, .ref fB, .int bz, .ref fS, .ref fD, .int sz]))]) s.heap s.heap [] := va_S.rf
  have hl := lv_entry ([.ref o, .int x, .int y]) (n := 4) (Nat.le_of_ble_eq_true rfl)
  rw [lg_entry_eq]
  generalize (lg_sl ([.ref o, .int x, .int y]) ++ List.replicate (4 - (lg_sl ([.ref o, .int x, .int y])).length) Slot.unset).toArray = ls at hl ⊢
  have hl : lv_has ls 4 [(0, .ref o), (1, .int x), (2, .int y)] := hl
  refine lv_aload_n hx hb d_MO_mends_0 rfl (lv_at hl 0 rfl) ?_
  refine lv_iconst (v := (nI 0)) hx hb d_MO_mends_1 (by decide) ?_
  refine va_put (D := (dC, dI)) (ci := 7) (v := .int (nI 0)) (ty := .int) (C := R_MO) (T := F_MO) (N := 15) hx hb hts in_MO t_MO t_MO_ok n_MO hown hK.1 hP hD hS 0 rfl rfl 0 (by decide) (hts _ wfl_MO_38) (fun _ h9 => h9) rfl (by decide +kernel) rfl rfl (Nat.le_of_ble_eq_true rfl) d_MO_mends_2 (fun H locs hP hD hS => ?_)
  have hP : va_P (dC, dI) cls [(o, .inr (7, [.int (nI 0), .int (nI nd), .int (nI ar), .ref fF, .ref fG, .ref fT, .ref fN, .ref fW, .int be, .ref fO, .ref fB, .int bz, .ref fS, .ref fD, .int sz]))] H := hP
  have hD : va_D (ow [(o, .inr (7, [.int th, .int (nI nd), .int (nI ar), .ref fF, .ref fG, .ref fT, .ref fN, .ref fW, .int be, .ref fO, .ref fB, .int bz, .ref fS, .ref fD, .int sz]))]) [(o, .inr (7, [.int (nI 0), .int (nI nd), .int (nI ar), .ref fF, .ref fG, .ref fT, .ref fN, .ref fW, .int be, .ref fO, .ref fB, .int bz, .ref fS, .ref fD, .int sz]))] := hD
  refine lv_aload_n hx hb d_MO_mends_5 rfl (lv_at hl 0 rfl) ?_
  refine lv_iload_n hx hb d_MO_mends_6 rfl (lv_at hl 1 rfl) ?_
  refine vp_callSi (va_Run.run (k_V (n := 1) (C := R_MO) (rest := []) ⟨hx, hb, hml, hown, hts⟩ (c_MO_isNode l dC dI cI cJ cZ o fF fG fT fN fW fO fB fS fD (nI 0) be bz sz nd ar x (by first | assumption | omega)) wml_MO_52 wim_MO_isNode wsel_MO_isNode wini_MO wcode_MO_isNode (by decide +kernel) ⟨Nat.le_of_ble_eq_true rfl, Nat.le_of_ble_eq_true rfl⟩ (preV_R (q := (R_MO, F_MO, 15)) (ci := 7) (q0 := 0) (hP.sub (ws' := [(o, .inr (7, [.int (nI 0), .int (nI nd), .int (nI ar), .ref fF, .ref fG, .ref fT, .ref fN, .ref fW, .int be, .ref fO, .ref fB, .int bz, .ref fS, .ref fD, .int sz]))]) [0] rfl) hK rfl rfl) rfl hl.1 rfl (Nat.le_of_ble_eq_true rfl) d_MO_mends_7 ⟨Nat.zero_le _, Nat.zero_le _⟩)) (fun r_1 hr_2 => ?_)
  refine xe_i (y := (bI (vd x nd))) hr_2 ?_
  refine x_if_eq (tgt := 21) hx hb d_MO_mends_10 (by decide) (fun c_3 => ?_) (fun c_3 => ?_)
  · skip
    refine lv_iconst (v := (-1)) hx hb d_MO_mends_21 (by decide) ?_
    exact W.iret (v := (-1)) hx hb hr (fun t9 ht9 _ => ⟨⟨_, (), rfl, rfl, by show va_P (dC, dI) cls _ t9.heap; rw [ht9]; exact hP⟩, hS.F ht9⟩) hS.2.2 d_MO_mends_22
  · skip
    refine lv_aload_n hx hb d_MO_mends_13 rfl (lv_at hl 0 rfl) ?_
    refine lv_iload_n hx hb d_MO_mends_14 rfl (lv_at hl 2 rfl) ?_
    refine vp_callSi (va_Run.run (k_V (n := 1) (C := R_MO) (rest := []) ⟨hx, hb, hml, hown, hts⟩ (c_MO_isNode l dC dI cI cJ cZ o fF fG fT fN fW fO fB fS fD (nI 0) be bz sz nd ar y (by first | assumption | omega)) wml_MO_52 wim_MO_isNode wsel_MO_isNode wini_MO wcode_MO_isNode (by decide +kernel) ⟨Nat.le_of_ble_eq_true rfl, Nat.le_of_ble_eq_true rfl⟩ (preV_R (q := (R_MO, F_MO, 15)) (ci := 7) (q0 := 0) (hP.sub (ws' := [(o, .inr (7, [.int (nI 0), .int (nI nd), .int (nI ar), .ref fF, .ref fG, .ref fT, .ref fN, .ref fW, .int be, .ref fO, .ref fB, .int bz, .ref fS, .ref fD, .int sz]))]) [0] rfl) hK rfl rfl) rfl hl.1 rfl (Nat.le_of_ble_eq_true rfl) d_MO_mends_15 ⟨Nat.zero_le _, Nat.zero_le _⟩)) (fun r_4 hr_5 => ?_)
    refine xe_i (y := (bI (vd y nd))) hr_5 ?_
    refine x_if_ne (tgt := 23) hx hb d_MO_mends_18 (by decide) (fun c_6 => ?_) (fun c_6 => ?_)
    · skip
      rw [c_3, c_6] at hbad; cases hbad
    · skip
      refine lv_iconst (v := (-1)) hx hb d_MO_mends_21 (by decide) ?_
      exact W.iret (v := (-1)) hx hb hr (fun t9 ht9 _ => ⟨⟨_, (), rfl, rfl, by show va_P (dC, dI) cls _ t9.heap; rw [ht9]; exact hP⟩, hS.F ht9⟩) hS.2.2 d_MO_mends_22

set_option maxHeartbeats 4000000 in
set_option maxRecDepth 100000 in
theorem c_MO_mends_s (l : Launch) (dC : Nat → ClassId) (dI : Nat → Nat → Nat) (cI cJ cZ : ClassId) (o fF fG fT fN fW fO fB fS fD : Nat) (th be bz sz : Int32) (nd ar : Nat) (a b : Nat) (hnd14 : nd ≤ 14) (ha : a < nd) (hab : a = b) : Met l ⟨"CutPointsModel", "mends", "(II)I"⟩ (Cond.code ⟨"CutPointsModel", "mends", "(II)I"⟩ prog_9_method_39_code 4 (some .int) :: TT) (rmk 2 43) (PM dC dI cI cJ cZ [.ref o, .int (nI a), .int (nI b)] [(o, .inr (7, [.int th, .int (nI nd), .int (nI ar), .ref fF, .ref fG, .ref fT, .ref fN, .ref fW, .int be, .ref fO, .ref fB, .int bz, .ref fS, .ref fD, .int sz]))]) (va_Qi (S := Unit) (fun r u9 => r = -3) (fun u9 t9 => va_P (dC, dI) cls ([(o, .inr (7, [.int (nI 0), .int (nI nd), .int (nI ar), .ref fF, .ref fG, .ref fT, .ref fN, .ref fW, .int be, .ref fO, .ref fB, .int bz, .ref fS, .ref fD, .int sz]))]) t9.heap) (ow [(o, .inr (7, [.int th, .int (nI nd), .int (nI ar), .ref fF, .ref fG, .ref fT, .ref fN, .ref fW, .int be, .ref fO, .ref fB, .int bz, .ref fS, .ref fD, .int sz]))])) 0 0 (ow [(o, .inr (7, [.int th, .int (nI nd), .int (nI ar), .ref fF, .ref fG, .ref fT, .ref fN, .ref fW, .int be, .ref fO, .ref fB, .int bz, .ref fS, .ref fD, .int sz]))]) := by
  refine Met.ofW (cc := prog_9_method_39_code) (maxL := 4) (ret := (some .int)) (by decide) rfl ?_
  intro p e s m args below meth c s₁ BB9 hml hv
  obtain ⟨rfl, hP, hK, hD0⟩ := hv
  have hx := BB9.exec
  have hb := BB9.bytes
  have hr := BB9.returns
  have hts : ∀ w ∈ TT, w.before _ s = true := fun w h => atoms_spec (ws := (Cond.code ⟨"CutPointsModel", "mends", "(II)I"⟩ prog_9_method_39_code 4 (some .int) :: TT)) BB9.pre w (List.mem_cons_of_mem _ h)
  have hown : s.vm.findClass "CutPointsModel" = some m.cls := findClass_of_methodNamed BB9.named
  have hlocks := BB9.notSynchronized
  have hD := hD0.mine
  have hS : va_S (ow [(o, .inr (7, [.int th, .int (nI nd), .int (nI ar), .ref fF, .ref fG, .ref fT, .ref fN, .ref fW, .int be, .ref fO, .ref fB, .int bz, .ref fS, .ref fD, .int sz]))]) s.heap s.heap [] := va_S.rf
  have hl := lv_entry ([.ref o, .int (nI a), .int (nI b)]) (n := 4) (Nat.le_of_ble_eq_true rfl)
  rw [lg_entry_eq]
  generalize (lg_sl ([.ref o, .int (nI a), .int (nI b)]) ++ List.replicate (4 - (lg_sl ([.ref o, .int (nI a), .int (nI b)])).length) Slot.unset).toArray = ls at hl ⊢
  have hl : lv_has ls 4 [(0, .ref o), (1, .int (nI a)), (2, .int (nI b))] := hl
  refine lv_aload_n hx hb d_MO_mends_0 rfl (lv_at hl 0 rfl) ?_
  refine lv_iconst (v := (nI 0)) hx hb d_MO_mends_1 (by decide) ?_
  refine va_put (D := (dC, dI)) (ci := 7) (v := .int (nI 0)) (ty := .int) (C := R_MO) (T := F_MO) (N := 15) hx hb hts in_MO t_MO t_MO_ok n_MO hown hK.1 hP hD hS 0 rfl rfl 0 (by decide) (hts _ wfl_MO_38) (fun _ h9 => h9) rfl (by decide +kernel) rfl rfl (Nat.le_of_ble_eq_true rfl) d_MO_mends_2 (fun H locs hP hD hS => ?_)
  have hP : va_P (dC, dI) cls [(o, .inr (7, [.int (nI 0), .int (nI nd), .int (nI ar), .ref fF, .ref fG, .ref fT, .ref fN, .ref fW, .int be, .ref fO, .ref fB, .int bz, .ref fS, .ref fD, .int sz]))] H := hP
  have hD : va_D (ow [(o, .inr (7, [.int th, .int (nI nd), .int (nI ar), .ref fF, .ref fG, .ref fT, .ref fN, .ref fW, .int be, .ref fO, .ref fB, .int bz, .ref fS, .ref fD, .int sz]))]) [(o, .inr (7, [.int (nI 0), .int (nI nd), .int (nI ar), .ref fF, .ref fG, .ref fT, .ref fN, .ref fW, .int be, .ref fO, .ref fB, .int bz, .ref fS, .ref fD, .int sz]))] := hD
  refine lv_aload_n hx hb d_MO_mends_5 rfl (lv_at hl 0 rfl) ?_
  refine lv_iload_n hx hb d_MO_mends_6 rfl (lv_at hl 1 rfl) ?_
  refine vp_callSi (va_Run.run (k_V (n := 1) (C := R_MO) (rest := []) ⟨hx, hb, hml, hown, hts⟩ (c_MO_isNode l dC dI cI cJ cZ o fF fG fT fN fW fO fB fS fD (nI 0) be bz sz nd ar (nI a) (by first | assumption | omega)) wml_MO_52 wim_MO_isNode wsel_MO_isNode wini_MO wcode_MO_isNode (by decide +kernel) ⟨Nat.le_of_ble_eq_true rfl, Nat.le_of_ble_eq_true rfl⟩ (preV_R (q := (R_MO, F_MO, 15)) (ci := 7) (q0 := 0) (hP.sub (ws' := [(o, .inr (7, [.int (nI 0), .int (nI nd), .int (nI ar), .ref fF, .ref fG, .ref fT, .ref fN, .ref fW, .int be, .ref fO, .ref fB, .int bz, .ref fS, .ref fD, .int sz]))]) [0] rfl) hK rfl rfl) rfl hl.1 rfl (Nat.le_of_ble_eq_true rfl) d_MO_mends_7 ⟨Nat.zero_le _, Nat.zero_le _⟩)) (fun r_1 hr_2 => ?_)
  refine xe_i (y := (bI (vd (nI a) nd))) hr_2 ?_
  refine xe_i (y := (bI true)) (by rw [vd_tt (by omega) ha]) ?_
  refine lv_if_eq (tgt := 21) hx hb d_MO_mends_10 (by decide) (fun c9 => absurd c9 (by decide : ¬ ((bI true) : Int32) = 0)) (fun _ => ?_)
  refine lv_aload_n hx hb d_MO_mends_13 rfl (lv_at hl 0 rfl) ?_
  refine lv_iload_n hx hb d_MO_mends_14 rfl (lv_at hl 2 rfl) ?_
  refine vp_callSi (va_Run.run (k_V (n := 1) (C := R_MO) (rest := []) ⟨hx, hb, hml, hown, hts⟩ (c_MO_isNode l dC dI cI cJ cZ o fF fG fT fN fW fO fB fS fD (nI 0) be bz sz nd ar (nI b) (by first | assumption | omega)) wml_MO_52 wim_MO_isNode wsel_MO_isNode wini_MO wcode_MO_isNode (by decide +kernel) ⟨Nat.le_of_ble_eq_true rfl, Nat.le_of_ble_eq_true rfl⟩ (preV_R (q := (R_MO, F_MO, 15)) (ci := 7) (q0 := 0) (hP.sub (ws' := [(o, .inr (7, [.int (nI 0), .int (nI nd), .int (nI ar), .ref fF, .ref fG, .ref fT, .ref fN, .ref fW, .int be, .ref fO, .ref fB, .int bz, .ref fS, .ref fD, .int sz]))]) [0] rfl) hK rfl rfl) rfl hl.1 rfl (Nat.le_of_ble_eq_true rfl) d_MO_mends_15 ⟨Nat.zero_le _, Nat.zero_le _⟩)) (fun r_4 hr_5 => ?_)
  refine xe_i (y := (bI (vd (nI b) nd))) hr_5 ?_
  refine xe_i (y := (bI true)) (by rw [vd_tt (by omega) (hab ▸ ha)]) ?_
  refine lv_if_ne (tgt := 23) hx hb d_MO_mends_18 (by decide) (fun _ => ?_) (fun c9 => absurd c9 (by decide : ¬ ((bI true) : Int32) = 0))
  refine lv_iload_n hx hb d_MO_mends_23 rfl (lv_at hl 1 rfl) ?_
  refine lv_iload_n hx hb d_MO_mends_24 rfl (lv_at hl 2 rfl) ?_
  refine x_cmp_ne (a := a) (b := b) (tgt := 31) hx hb (by omega) (by omega) d_MO_mends_25 (by decide) (fun c_7 => ?_) (fun c_7 => ?_)
  · skip
    exact absurd hab c_7
  · skip
    refine lv_bipush (v := (-3)) hx hb d_MO_mends_28 (by decide) ?_
    exact W.iret (v := (-3)) hx hb hr (fun t9 ht9 _ => ⟨⟨_, (), rfl, rfl, by show va_P (dC, dI) cls _ t9.heap; rw [ht9]; exact hP⟩, hS.F ht9⟩) hS.2.2 d_MO_mends_30

theorem d_MO_part_0 : decode prog_9_method_28_code 0 = .ok (.aload_n 0, 1) := by decide +kernel
theorem d_MO_part_1 : decode prog_9_method_28_code 1 = .ok (.iconst 0, 1) := by decide +kernel
theorem d_MO_part_2 : decode prog_9_method_28_code 2 = .ok (.putfield 38, 3) := by decide +kernel
theorem d_MO_part_5 : decode prog_9_method_28_code 5 = .ok (.aload_n 0, 1) := by decide +kernel
theorem d_MO_part_6 : decode prog_9_method_28_code 6 = .ok (.iload_n 1, 1) := by decide +kernel
theorem d_MO_part_7 : decode prog_9_method_28_code 7 = .ok (.invokevirtual 52, 3) := by decide +kernel
theorem d_MO_part_10 : decode prog_9_method_28_code 10 = .ok (.ifCond .eq 14, 3) := by decide +kernel
theorem d_MO_part_13 : decode prog_9_method_28_code 13 = .ok (.aload_n 0, 1) := by decide +kernel
theorem d_MO_part_14 : decode prog_9_method_28_code 14 = .ok (.iload_n 1, 1) := by decide +kernel
theorem d_MO_part_15 : decode prog_9_method_28_code 15 = .ok (.invokevirtual 70, 3) := by decide +kernel
theorem d_MO_part_18 : decode prog_9_method_28_code 18 = .ok (.invokestatic 56, 3) := by decide +kernel
theorem d_MO_part_21 : decode prog_9_method_28_code 21 = .ok (.goto 4, 3) := by decide +kernel
theorem d_MO_part_24 : decode prog_9_method_28_code 24 = .ok (.iconst (-1), 1) := by decide +kernel
theorem d_MO_part_25 : decode prog_9_method_28_code 25 = .ok (.ireturn, 1) := by decide +kernel
set_option maxHeartbeats 4000000 in
set_option maxRecDepth 100000 in
theorem c_MO_part_b (l : Launch) (dC : Nat → ClassId) (dI : Nat → Nat → Nat) (cI cJ cZ : ClassId) (o fF fG fT fN fW fO fB fS fD : Nat) (th be bz sz : Int32) (nd ar : Nat) (x : Int32) (hnd14 : nd ≤ 14) (hbad : vd x nd = false) : Met l ⟨"CutPointsModel", "part", "(I)I"⟩ (Cond.code ⟨"CutPointsModel", "part", "(I)I"⟩ prog_9_method_28_code 2 (some .int) :: TT) (rmk 2 43) (PM dC dI cI cJ cZ [.ref o, .int x] [(o, .inr (7, [.int th, .int (nI nd), .int (nI ar), .ref fF, .ref fG, .ref fT, .ref fN, .ref fW, .int be, .ref fO, .ref fB, .int bz, .ref fS, .ref fD, .int sz]))]) (va_Qi (S := Unit) (fun r u9 => r = -1) (fun u9 t9 => va_P (dC, dI) cls ([(o, .inr (7, [.int (nI 0), .int (nI nd), .int (nI ar), .ref fF, .ref fG, .ref fT, .ref fN, .ref fW, .int be, .ref fO, .ref fB, .int bz, .ref fS, .ref fD, .int sz]))]) t9.heap) (ow [(o, .inr (7, [.int th, .int (nI nd), .int (nI ar), .ref fF, .ref fG, .ref fT, .ref fN, .ref fW, .int be, .ref fO, .ref fB, .int bz, .ref fS, .ref fD, .int sz]))])) 0 0 (ow [(o, .inr (7, [.int th, .int (nI nd), .int (nI ar), .ref fF, .ref fG, .ref fT, .ref fN, .ref fW, .int be, .ref fO, .ref fB, .int bz, .ref fS, .ref fD, .int sz]))]) := by
  refine Met.ofW (cc := prog_9_method_28_code) (maxL := 2) (ret := (some .int)) (by decide) rfl ?_
  intro p e s m args below meth c s₁ BB9 hml hv
  obtain ⟨rfl, hP, hK, hD0⟩ := hv
  have hx := BB9.exec
  have hb := BB9.bytes
  have hr := BB9.returns
  have hts : ∀ w ∈ TT, w.before _ s = true := fun w h => atoms_spec (ws := (Cond.code ⟨"CutPointsModel", "part", "(I)I"⟩ prog_9_method_28_code 2 (some .int) :: TT)) BB9.pre w (List.mem_cons_of_mem _ h)
  have hown : s.vm.findClass "CutPointsModel" = some m.cls := findClass_of_methodNamed BB9.named
  have hlocks := BB9.notSynchronized
  have hD := hD0.mine
  have hS : va_S (ow [(o, .inr (7, [.int th, .int (nI nd), .int (nI ar), .ref fF, .ref fG, .ref fT, .ref fN, .ref fW, .int be, .ref fO, .ref fB, .int bz, .ref fS, .ref fD, .int sz]))]) s.heap s.heap [] := va_S.rf
  have hl := lv_entry ([.ref o, .int x]) (n := 2) (Nat.le_of_ble_eq_true rfl)
  rw [lg_entry_eq]
  generalize (lg_sl ([.ref o, .int x]) ++ List.replicate (2 - (lg_sl ([.ref o, .int x])).length) Slot.unset).toArray = ls at hl ⊢
  have hl : lv_has ls 2 [(0, .ref o), (1, .int x)] := hl
  refine lv_aload_n hx hb d_MO_part_0 rfl (lv_at hl 0 rfl) ?_
  refine lv_iconst (v := (nI 0)) hx hb d_MO_part_1 (by decide) ?_
  refine va_put (D := (dC, dI)) (ci := 7) (v := .int (nI 0)) (ty := .int) (C := R_MO) (T := F_MO) (N := 15) hx hb hts in_MO t_MO t_MO_ok n_MO hown hK.1 hP hD hS 0 rfl rfl 0 (by decide) (hts _ wfl_MO_38) (fun _ h9 => h9) rfl (by decide +kernel) rfl rfl (Nat.le_of_ble_eq_true rfl) d_MO_part_2 (fun H locs hP hD hS => ?_)
  have hP : va_P (dC, dI) cls [(o, .inr (7, [.int (nI 0), .int (nI nd), .int (nI ar), .ref fF, .ref fG, .ref fT, .ref fN, .ref fW, .int be, .ref fO, .ref fB, .int bz, .ref fS, .ref fD, .int sz]))] H := hP
  have hD : va_D (ow [(o, .inr (7, [.int th, .int (nI nd), .int (nI ar), .ref fF, .ref fG, .ref fT, .ref fN, .ref fW, .int be, .ref fO, .ref fB, .int bz, .ref fS, .ref fD, .int sz]))]) [(o, .inr (7, [.int (nI 0), .int (nI nd), .int (nI ar), .ref fF, .ref fG, .ref fT, .ref fN, .ref fW, .int be, .ref fO, .ref fB, .int bz, .ref fS, .ref fD, .int sz]))] := hD
  refine lv_aload_n hx hb d_MO_part_5 rfl (lv_at hl 0 rfl) ?_
  refine lv_iload_n hx hb d_MO_part_6 rfl (lv_at hl 1 rfl) ?_
  refine vp_callSi (va_Run.run (k_V (n := 1) (C := R_MO) (rest := []) ⟨hx, hb, hml, hown, hts⟩ (c_MO_isNode l dC dI cI cJ cZ o fF fG fT fN fW fO fB fS fD (nI 0) be bz sz nd ar x (by first | assumption | omega)) wml_MO_52 wim_MO_isNode wsel_MO_isNode wini_MO wcode_MO_isNode (by decide +kernel) ⟨Nat.le_of_ble_eq_true rfl, Nat.le_of_ble_eq_true rfl⟩ (preV_R (q := (R_MO, F_MO, 15)) (ci := 7) (q0 := 0) (hP.sub (ws' := [(o, .inr (7, [.int (nI 0), .int (nI nd), .int (nI ar), .ref fF, .ref fG, .ref fT, .ref fN, .ref fW, .int be, .ref fO, .ref fB, .int bz, .ref fS, .ref fD, .int sz]))]) [0] rfl) hK rfl rfl) rfl hl.1 rfl (Nat.le_of_ble_eq_true rfl) d_MO_part_7 ⟨Nat.zero_le _, Nat.zero_le _⟩)) (fun r_1 hr_2 => ?_)
  refine xe_i (y := (bI (vd x nd))) hr_2 ?_
  refine xe_i (y := (bI false)) (by rw [hbad]) ?_
  refine lv_if_eq (tgt := 24) hx hb d_MO_part_10 (by decide) (fun _ => ?_) (fun c9 => absurd (by decide : ((bI false) : Int32) = 0) c9)
  refine lv_iconst (v := (-1)) hx hb d_MO_part_24 (by decide) ?_
  exact W.iret (v := (-1)) hx hb hr (fun t9 ht9 _ => ⟨⟨_, (), rfl, rfl, by show va_P (dC, dI) cls _ t9.heap; rw [ht9]; exact hP⟩, hS.F ht9⟩) hS.2.2 d_MO_part_25

theorem d_MO_falls_0 : decode prog_9_method_30_code 0 = .ok (.aload_n 0, 1) := by decide +kernel
theorem d_MO_falls_1 : decode prog_9_method_30_code 1 = .ok (.iconst 0, 1) := by decide +kernel
theorem d_MO_falls_2 : decode prog_9_method_30_code 2 = .ok (.putfield 38, 3) := by decide +kernel
theorem d_MO_falls_5 : decode prog_9_method_30_code 5 = .ok (.aload_n 0, 1) := by decide +kernel
theorem d_MO_falls_6 : decode prog_9_method_30_code 6 = .ok (.iload_n 1, 1) := by decide +kernel
theorem d_MO_falls_7 : decode prog_9_method_30_code 7 = .ok (.invokevirtual 52, 3) := by decide +kernel
theorem d_MO_falls_10 : decode prog_9_method_30_code 10 = .ok (.ifCond .eq 11, 3) := by decide +kernel
theorem d_MO_falls_13 : decode prog_9_method_30_code 13 = .ok (.aload_n 0, 1) := by decide +kernel
theorem d_MO_falls_14 : decode prog_9_method_30_code 14 = .ok (.iload_n 1, 1) := by decide +kernel
theorem d_MO_falls_15 : decode prog_9_method_30_code 15 = .ok (.invokevirtual 98, 3) := by decide +kernel
theorem d_MO_falls_18 : decode prog_9_method_30_code 18 = .ok (.goto 4, 3) := by decide +kernel
theorem d_MO_falls_21 : decode prog_9_method_30_code 21 = .ok (.iconst (-1), 1) := by decide +kernel
theorem d_MO_falls_22 : decode prog_9_method_30_code 22 = .ok (.ireturn, 1) := by decide +kernel
set_option maxHeartbeats 4000000 in
set_option maxRecDepth 100000 in
theorem c_MO_falls_b (l : Launch) (dC : Nat → ClassId) (dI : Nat → Nat → Nat) (cI cJ cZ : ClassId) (o fF fG fT fN fW fO fB fS fD : Nat) (th be bz sz : Int32) (nd ar : Nat) (x : Int32) (hnd14 : nd ≤ 14) (hbad : vd x nd = false) : Met l ⟨"CutPointsModel", "falls", "(I)I"⟩ (Cond.code ⟨"CutPointsModel", "falls", "(I)I"⟩ prog_9_method_30_code 2 (some .int) :: TT) (rmk 2 43) (PM dC dI cI cJ cZ [.ref o, .int x] [(o, .inr (7, [.int th, .int (nI nd), .int (nI ar), .ref fF, .ref fG, .ref fT, .ref fN, .ref fW, .int be, .ref fO, .ref fB, .int bz, .ref fS, .ref fD, .int sz]))]) (va_Qi (S := Unit) (fun r u9 => r = -1) (fun u9 t9 => va_P (dC, dI) cls ([(o, .inr (7, [.int (nI 0), .int (nI nd), .int (nI ar), .ref fF, .ref fG, .ref fT, .ref fN, .ref fW, .int be, .ref fO, .ref fB, .int bz, .ref fS, .ref fD, .int sz]))]) t9.heap) (ow [(o, .inr (7, [.int th, .int (nI nd), .int (nI ar), .ref fF, .ref fG, .ref fT, .ref fN, .ref fW, .int be, .ref fO, .ref fB, .int bz, .ref fS, .ref fD, .int sz]))])) 0 0 (ow [(o, .inr (7, [.int th, .int (nI nd), .int (nI ar), .ref fF, .ref fG, .ref fT, .ref fN, .ref fW, .int be, .ref fO, .ref fB, .int bz, .ref fS, .ref fD, .int sz]))]) := by
  refine Met.ofW (cc := prog_9_method_30_code) (maxL := 2) (ret := (some .int)) (by decide) rfl ?_
  intro p e s m args below meth c s₁ BB9 hml hv
  obtain ⟨rfl, hP, hK, hD0⟩ := hv
  have hx := BB9.exec
  have hb := BB9.bytes
  have hr := BB9.returns
  have hts : ∀ w ∈ TT, w.before _ s = true := fun w h => atoms_spec (ws := (Cond.code ⟨"CutPointsModel", "falls", "(I)I"⟩ prog_9_method_30_code 2 (some .int) :: TT)) BB9.pre w (List.mem_cons_of_mem _ h)
  have hown : s.vm.findClass "CutPointsModel" = some m.cls := findClass_of_methodNamed BB9.named
  have hlocks := BB9.notSynchronized
  have hD := hD0.mine
  have hS : va_S (ow [(o, .inr (7, [.int th, .int (nI nd), .int (nI ar), .ref fF, .ref fG, .ref fT, .ref fN, .ref fW, .int be, .ref fO, .ref fB, .int bz, .ref fS, .ref fD, .int sz]))]) s.heap s.heap [] := va_S.rf
  have hl := lv_entry ([.ref o, .int x]) (n := 2) (Nat.le_of_ble_eq_true rfl)
  rw [lg_entry_eq]
  generalize (lg_sl ([.ref o, .int x]) ++ List.replicate (2 - (lg_sl ([.ref o, .int x])).length) Slot.unset).toArray = ls at hl ⊢
  have hl : lv_has ls 2 [(0, .ref o), (1, .int x)] := hl
  refine lv_aload_n hx hb d_MO_falls_0 rfl (lv_at hl 0 rfl) ?_
  refine lv_iconst (v := (nI 0)) hx hb d_MO_falls_1 (by decide) ?_
  refine va_put (D := (dC, dI)) (ci := 7) (v := .int (nI 0)) (ty := .int) (C := R_MO) (T := F_MO) (N := 15) hx hb hts in_MO t_MO t_MO_ok n_MO hown hK.1 hP hD hS 0 rfl rfl 0 (by decide) (hts _ wfl_MO_38) (fun _ h9 => h9) rfl (by decide +kernel) rfl rfl (Nat.le_of_ble_eq_true rfl) d_MO_falls_2 (fun H locs hP hD hS => ?_)
  have hP : va_P (dC, dI) cls [(o, .inr (7, [.int (nI 0), .int (nI nd), .int (nI ar), .ref fF, .ref fG, .ref fT, .ref fN, .ref fW, .int be, .ref fO, .ref fB, .int bz, .ref fS, .ref fD, .int sz]))] H := hP
  have hD : va_D (ow [(o, .inr (7, [.int th, .int (nI nd), .int (nI ar), .ref fF, .ref fG, .ref fT, .ref fN, .ref fW, .int be, .ref fO, .ref fB, .int bz, .ref fS, .ref fD, .int sz]))]) [(o, .inr (7, [.int (nI 0), .int (nI nd), .int (nI ar), .ref fF, .ref fG, .ref fT, .ref fN, .ref fW, .int be, .ref fO, .ref fB, .int bz, .ref fS, .ref fD, .int sz]))] := hD
  refine lv_aload_n hx hb d_MO_falls_5 rfl (lv_at hl 0 rfl) ?_
  refine lv_iload_n hx hb d_MO_falls_6 rfl (lv_at hl 1 rfl) ?_
  refine vp_callSi (va_Run.run (k_V (n := 1) (C := R_MO) (rest := []) ⟨hx, hb, hml, hown, hts⟩ (c_MO_isNode l dC dI cI cJ cZ o fF fG fT fN fW fO fB fS fD (nI 0) be bz sz nd ar x (by first | assumption | omega)) wml_MO_52 wim_MO_isNode wsel_MO_isNode wini_MO wcode_MO_isNode (by decide +kernel) ⟨Nat.le_of_ble_eq_true rfl, Nat.le_of_ble_eq_true rfl⟩ (preV_R (q := (R_MO, F_MO, 15)) (ci := 7) (q0 := 0) (hP.sub (ws' := [(o, .inr (7, [.int (nI 0), .int (nI nd), .int (nI ar), .ref fF, .ref fG, .ref fT, .ref fN, .ref fW, .int be, .ref fO, .ref fB, .int bz, .ref fS, .ref fD, .int sz]))]) [0] rfl) hK rfl rfl) rfl hl.1 rfl (Nat.le_of_ble_eq_true rfl) d_MO_falls_7 ⟨Nat.zero_le _, Nat.zero_le _⟩)) (fun r_1 hr_2 => ?_)
  refine xe_i (y := (bI (vd x nd))) hr_2 ?_
  refine xe_i (y := (bI false)) (by rw [hbad]) ?_
  refine lv_if_eq (tgt := 21) hx hb d_MO_falls_10 (by decide) (fun _ => ?_) (fun c9 => absurd (by decide : ((bI false) : Int32) = 0) c9)
  refine lv_iconst (v := (-1)) hx hb d_MO_falls_21 (by decide) ?_
  exact W.iret (v := (-1)) hx hb hr (fun t9 ht9 _ => ⟨⟨_, (), rfl, rfl, by show va_P (dC, dI) cls _ t9.heap; rw [ht9]; exact hP⟩, hS.F ht9⟩) hS.2.2 d_MO_falls_22

theorem d_MO_twin_0 : decode prog_9_method_32_code 0 = .ok (.aload_n 0, 1) := by decide +kernel
theorem d_MO_twin_1 : decode prog_9_method_32_code 1 = .ok (.iconst 0, 1) := by decide +kernel
theorem d_MO_twin_2 : decode prog_9_method_32_code 2 = .ok (.putfield 38, 3) := by decide +kernel
theorem d_MO_twin_5 : decode prog_9_method_32_code 5 = .ok (.aload_n 0, 1) := by decide +kernel
theorem d_MO_twin_6 : decode prog_9_method_32_code 6 = .ok (.iload_n 1, 1) := by decide +kernel
theorem d_MO_twin_7 : decode prog_9_method_32_code 7 = .ok (.invokevirtual 52, 3) := by decide +kernel
theorem d_MO_twin_10 : decode prog_9_method_32_code 10 = .ok (.ifCond .ne 5, 3) := by decide +kernel
theorem d_MO_twin_13 : decode prog_9_method_32_code 13 = .ok (.iconst (-1), 1) := by decide +kernel
theorem d_MO_twin_14 : decode prog_9_method_32_code 14 = .ok (.ireturn, 1) := by decide +kernel
theorem d_MO_twin_15 : decode prog_9_method_32_code 15 = .ok (.aload_n 0, 1) := by decide +kernel
theorem d_MO_twin_16 : decode prog_9_method_32_code 16 = .ok (.iconst 0, 1) := by decide +kernel
theorem d_MO_twin_17 : decode prog_9_method_32_code 17 = .ok (.invokevirtual 80, 3) := by decide +kernel
theorem d_MO_twin_20 : decode prog_9_method_32_code 20 = .ok (.aload_n 0, 1) := by decide +kernel
theorem d_MO_twin_21 : decode prog_9_method_32_code 21 = .ok (.getfield 23, 3) := by decide +kernel
theorem d_MO_twin_24 : decode prog_9_method_32_code 24 = .ok (.iload_n 1, 1) := by decide +kernel
theorem d_MO_twin_25 : decode prog_9_method_32_code 25 = .ok (.iaload, 1) := by decide +kernel
theorem d_MO_twin_26 : decode prog_9_method_32_code 26 = .ok (.invokestatic 56, 3) := by decide +kernel
theorem d_MO_twin_29 : decode prog_9_method_32_code 29 = .ok (.ireturn, 1) := by decide +kernel
set_option maxHeartbeats 4000000 in
set_option maxRecDepth 100000 in
theorem c_MO_twin_b (l : Launch) (dC : Nat → ClassId) (dI : Nat → Nat → Nat) (cI cJ cZ : ClassId) (o fF fG fT fN fW fO fB fS fD : Nat) (th be bz sz : Int32) (nd ar : Nat) (x : Int32) (hnd14 : nd ≤ 14) (hbad : vd x nd = false) : Met l ⟨"CutPointsModel", "twin", "(I)I"⟩ (Cond.code ⟨"CutPointsModel", "twin", "(I)I"⟩ prog_9_method_32_code 2 (some .int) :: TT) (rmk 2 43) (PM dC dI cI cJ cZ [.ref o, .int x] [(o, .inr (7, [.int th, .int (nI nd), .int (nI ar), .ref fF, .ref fG, .ref fT, .ref fN, .ref fW, .int be, .ref fO, .ref fB, .int bz, .ref fS, .ref fD, .int sz]))]) (va_Qi (S := Unit) (fun r u9 => r = -1) (fun u9 t9 => va_P (dC, dI) cls ([(o, .inr (7, [.int (nI 0), .int (nI nd), .int (nI ar), .ref fF, .ref fG, .ref fT, .ref fN, .ref fW, .int be, .ref fO, .ref fB, .int bz, .ref fS, .ref fD, .int sz]))]) t9.heap) (ow [(o, .inr (7, [.int th, .int (nI nd), .int (nI ar), .ref fF, .ref fG, .ref fT, .ref fN, .ref fW, .int be, .ref fO, .ref fB, .int bz, .ref fS, .ref fD, .int sz]))])) 0 0 (ow [(o, .inr (7, [.int th, .int (nI nd), .int (nI ar), .ref fF, .ref fG, .ref fT, .ref fN, .ref fW, .int be, .ref fO, .ref fB, .int bz, .ref fS, .ref fD, .int sz]))]) := by
  refine Met.ofW (cc := prog_9_method_32_code) (maxL := 2) (ret := (some .int)) (by decide) rfl ?_
  intro p e s m args below meth c s₁ BB9 hml hv
  obtain ⟨rfl, hP, hK, hD0⟩ := hv
  have hx := BB9.exec
  have hb := BB9.bytes
  have hr := BB9.returns
  have hts : ∀ w ∈ TT, w.before _ s = true := fun w h => atoms_spec (ws := (Cond.code ⟨"CutPointsModel", "twin", "(I)I"⟩ prog_9_method_32_code 2 (some .int) :: TT)) BB9.pre w (List.mem_cons_of_mem _ h)
  have hown : s.vm.findClass "CutPointsModel" = some m.cls := findClass_of_methodNamed BB9.named
  have hlocks := BB9.notSynchronized
  have hD := hD0.mine
  have hS : va_S (ow [(o, .inr (7, [.int th, .int (nI nd), .int (nI ar), .ref fF, .ref fG, .ref fT, .ref fN, .ref fW, .int be, .ref fO, .ref fB, .int bz, .ref fS, .ref fD, .int sz]))]) s.heap s.heap [] := va_S.rf
  have hl := lv_entry ([.ref o, .int x]) (n := 2) (Nat.le_of_ble_eq_true rfl)
  rw [lg_entry_eq]
  generalize (lg_sl ([.ref o, .int x]) ++ List.replicate (2 - (lg_sl ([.ref o, .int x])).length) Slot.unset).toArray = ls at hl ⊢
  have hl : lv_has ls 2 [(0, .ref o), (1, .int x)] := hl
  refine lv_aload_n hx hb d_MO_twin_0 rfl (lv_at hl 0 rfl) ?_
  refine lv_iconst (v := (nI 0)) hx hb d_MO_twin_1 (by decide) ?_
  refine va_put (D := (dC, dI)) (ci := 7) (v := .int (nI 0)) (ty := .int) (C := R_MO) (T := F_MO) (N := 15) hx hb hts in_MO t_MO t_MO_ok n_MO hown hK.1 hP hD hS 0 rfl rfl 0 (by decide) (hts _ wfl_MO_38) (fun _ h9 => h9) rfl (by decide +kernel) rfl rfl (Nat.le_of_ble_eq_true rfl) d_MO_twin_2 (fun H locs hP hD hS => ?_)
  have hP : va_P (dC, dI) cls [(o, .inr (7, [.int (nI 0), .int (nI nd), .int (nI ar), .ref fF, .ref fG, .ref fT, .ref fN, .ref fW, .int be, .ref fO, .ref fB, .int bz, .ref fS, .ref fD, .int sz]))] H := hP
  have hD : va_D (ow [(o, .inr (7, [.int th, .int (nI nd), .int (nI ar), .ref fF, .ref fG, .ref fT, .ref fN, .ref fW, .int be, .ref fO, .ref fB, .int bz, .ref fS, .ref fD, .int sz]))]) [(o, .inr (7, [.int (nI 0), .int (nI nd), .int (nI ar), .ref fF, .ref fG, .ref fT, .ref fN, .ref fW, .int be, .ref fO, .ref fB, .int bz, .ref fS, .ref fD, .int sz]))] := hD
  refine lv_aload_n hx hb d_MO_twin_5 rfl (lv_at hl 0 rfl) ?_
  refine lv_iload_n hx hb d_MO_twin_6 rfl (lv_at hl 1 rfl) ?_
  refine vp_callSi (va_Run.run (k_V (n := 1) (C := R_MO) (rest := []) ⟨hx, hb, hml, hown, hts⟩ (c_MO_isNode l dC dI cI cJ cZ o fF fG fT fN fW fO fB fS fD (nI 0) be bz sz nd ar x (by first | assumption | omega)) wml_MO_52 wim_MO_isNode wsel_MO_isNode wini_MO wcode_MO_isNode (by decide +kernel) ⟨Nat.le_of_ble_eq_true rfl, Nat.le_of_ble_eq_true rfl⟩ (preV_R (q := (R_MO, F_MO, 15)) (ci := 7) (q0 := 0) (hP.sub (ws' := [(o, .inr (7, [.int (nI 0), .int (nI nd), .int (nI ar), .ref fF, .ref fG, .ref fT, .ref fN, .ref fW, .int be, .ref fO, .ref fB, .int bz, .ref fS, .ref fD, .int sz]))]) [0] rfl) hK rfl rfl) rfl hl.1 rfl (Nat.le_of_ble_eq_true rfl) d_MO_twin_7 ⟨Nat.zero_le _, Nat.zero_le _⟩)) (fun r_1 hr_2 => ?_)
  refine xe_i (y := (bI (vd x nd))) hr_2 ?_
  refine xe_i (y := (bI false)) (by rw [hbad]) ?_
  refine lv_if_ne (tgt := 15) hx hb d_MO_twin_10 (by decide) (fun c9 => absurd (by decide : ((bI false) : Int32) = 0) c9) (fun _ => ?_)
  refine lv_iconst (v := (-1)) hx hb d_MO_twin_13 (by decide) ?_
  exact W.iret (v := (-1)) hx hb hr (fun t9 ht9 _ => ⟨⟨_, (), rfl, rfl, by show va_P (dC, dI) cls _ t9.heap; rw [ht9]; exact hP⟩, hS.F ht9⟩) hS.2.2 d_MO_twin_14

theorem d_MO_turn_0 : decode prog_9_method_11_code 0 = .ok (.aload_n 0, 1) := by decide +kernel
theorem d_MO_turn_1 : decode prog_9_method_11_code 1 = .ok (.iconst 0, 1) := by decide +kernel
theorem d_MO_turn_2 : decode prog_9_method_11_code 2 = .ok (.putfield 38, 3) := by decide +kernel
theorem d_MO_turn_5 : decode prog_9_method_11_code 5 = .ok (.iload_n 1, 1) := by decide +kernel
theorem d_MO_turn_6 : decode prog_9_method_11_code 6 = .ok (.iconst 0, 1) := by decide +kernel
theorem d_MO_turn_7 : decode prog_9_method_11_code 7 = .ok (.aload_n 0, 1) := by decide +kernel
theorem d_MO_turn_8 : decode prog_9_method_11_code 8 = .ok (.getfield 45, 3) := by decide +kernel
theorem d_MO_turn_11 : decode prog_9_method_11_code 11 = .ok (.iconst 1, 1) := by decide +kernel
theorem d_MO_turn_12 : decode prog_9_method_11_code 12 = .ok (.isub, 1) := by decide +kernel
theorem d_MO_turn_13 : decode prog_9_method_11_code 13 = .ok (.invokestatic 48, 3) := by decide +kernel
theorem d_MO_turn_16 : decode prog_9_method_11_code 16 = .ok (.ifCond .ne 5, 3) := by decide +kernel
theorem d_MO_turn_19 : decode prog_9_method_11_code 19 = .ok (.iconst (-1), 1) := by decide +kernel
theorem d_MO_turn_20 : decode prog_9_method_11_code 20 = .ok (.ireturn, 1) := by decide +kernel
theorem d_MO_turn_21 : decode prog_9_method_11_code 21 = .ok (.aload_n 0, 1) := by decide +kernel
theorem d_MO_turn_22 : decode prog_9_method_11_code 22 = .ok (.getfield 16, 3) := by decide +kernel
theorem d_MO_turn_25 : decode prog_9_method_11_code 25 = .ok (.iload_n 1, 1) := by decide +kernel
theorem d_MO_turn_26 : decode prog_9_method_11_code 26 = .ok (.aload_n 0, 1) := by decide +kernel
theorem d_MO_turn_27 : decode prog_9_method_11_code 27 = .ok (.getfield 16, 3) := by decide +kernel
theorem d_MO_turn_30 : decode prog_9_method_11_code 30 = .ok (.iload_n 1, 1) := by decide +kernel
theorem d_MO_turn_31 : decode prog_9_method_11_code 31 = .ok (.baload, 1) := by decide +kernel
theorem d_MO_turn_32 : decode prog_9_method_11_code 32 = .ok (.ifCond .ne 7, 3) := by decide +kernel
theorem d_MO_turn_35 : decode prog_9_method_11_code 35 = .ok (.iconst 1, 1) := by decide +kernel
theorem d_MO_turn_36 : decode prog_9_method_11_code 36 = .ok (.goto 4, 3) := by decide +kernel
theorem d_MO_turn_39 : decode prog_9_method_11_code 39 = .ok (.iconst 0, 1) := by decide +kernel
theorem d_MO_turn_40 : decode prog_9_method_11_code 40 = .ok (.bastore, 1) := by decide +kernel
theorem d_MO_turn_41 : decode prog_9_method_11_code 41 = .ok (.aload_n 0, 1) := by decide +kernel
theorem d_MO_turn_42 : decode prog_9_method_11_code 42 = .ok (.getfield 16, 3) := by decide +kernel
theorem d_MO_turn_45 : decode prog_9_method_11_code 45 = .ok (.iload_n 1, 1) := by decide +kernel
theorem d_MO_turn_46 : decode prog_9_method_11_code 46 = .ok (.baload, 1) := by decide +kernel
theorem d_MO_turn_47 : decode prog_9_method_11_code 47 = .ok (.ifCond .eq 7, 3) := by decide +kernel
theorem d_MO_turn_50 : decode prog_9_method_11_code 50 = .ok (.iconst 1, 1) := by decide +kernel
theorem d_MO_turn_51 : decode prog_9_method_11_code 51 = .ok (.goto 4, 3) := by decide +kernel
theorem d_MO_turn_54 : decode prog_9_method_11_code 54 = .ok (.iconst 0, 1) := by decide +kernel
theorem d_MO_turn_55 : decode prog_9_method_11_code 55 = .ok (.ireturn, 1) := by decide +kernel
set_option maxHeartbeats 4000000 in
set_option maxRecDepth 100000 in
theorem c_MO_turn_b (l : Launch) (dC : Nat → ClassId) (dI : Nat → Nat → Nat) (cI cJ cZ : ClassId) (o fF fG fT fN fW fO fB fS fD : Nat) (th be bz sz : Int32) (nd ar : Nat) (x : Int32) (har : ar ≤ 40) (hbad : vd x ar = false) : Met l ⟨"CutPointsModel", "turn", "(I)I"⟩ (Cond.code ⟨"CutPointsModel", "turn", "(I)I"⟩ prog_9_method_11_code 2 (some .int) :: TT) (rmk 1 22) (PM dC dI cI cJ cZ [.ref o, .int x] [(o, .inr (7, [.int th, .int (nI nd), .int (nI ar), .ref fF, .ref fG, .ref fT, .ref fN, .ref fW, .int be, .ref fO, .ref fB, .int bz, .ref fS, .ref fD, .int sz]))]) (va_Qi (S := Unit) (fun r u9 => r = -1) (fun u9 t9 => va_P (dC, dI) cls ([(o, .inr (7, [.int (nI 0), .int (nI nd), .int (nI ar), .ref fF, .ref fG, .ref fT, .ref fN, .ref fW, .int be, .ref fO, .ref fB, .int bz, .ref fS, .ref fD, .int sz]))]) t9.heap) (ow [(o, .inr (7, [.int th, .int (nI nd), .int (nI ar), .ref fF, .ref fG, .ref fT, .ref fN, .ref fW, .int be, .ref fO, .ref fB, .int bz, .ref fS, .ref fD, .int sz]))])) 0 0 (ow [(o, .inr (7, [.int th, .int (nI nd), .int (nI ar), .ref fF, .ref fG, .ref fT, .ref fN, .ref fW, .int be, .ref fO, .ref fB, .int bz, .ref fS, .ref fD, .int sz]))]) := by
  refine Met.ofW (cc := prog_9_method_11_code) (maxL := 2) (ret := (some .int)) (by decide) rfl ?_
  intro p e s m args below meth c s₁ BB9 hml hv
  obtain ⟨rfl, hP, hK, hD0⟩ := hv
  have hx := BB9.exec
  have hb := BB9.bytes
  have hr := BB9.returns
  have hts : ∀ w ∈ TT, w.before _ s = true := fun w h => atoms_spec (ws := (Cond.code ⟨"CutPointsModel", "turn", "(I)I"⟩ prog_9_method_11_code 2 (some .int) :: TT)) BB9.pre w (List.mem_cons_of_mem _ h)
  have hown : s.vm.findClass "CutPointsModel" = some m.cls := findClass_of_methodNamed BB9.named
  have hlocks := BB9.notSynchronized
  have hD := hD0.mine
  have hS : va_S (ow [(o, .inr (7, [.int th, .int (nI nd), .int (nI ar), .ref fF, .ref fG, .ref fT, .ref fN, .ref fW, .int be, .ref fO, .ref fB, .int bz, .ref fS, .ref fD, .int sz]))]) s.heap s.heap [] := va_S.rf
  have hl := lv_entry ([.ref o, .int x]) (n := 2) (Nat.le_of_ble_eq_true rfl)
  rw [lg_entry_eq]
  generalize (lg_sl ([.ref o, .int x]) ++ List.replicate (2 - (lg_sl ([.ref o, .int x])).length) Slot.unset).toArray = ls at hl ⊢
  have hl : lv_has ls 2 [(0, .ref o), (1, .int x)] := hl
  refine lv_aload_n hx hb d_MO_turn_0 rfl (lv_at hl 0 rfl) ?_
  refine lv_iconst (v := (nI 0)) hx hb d_MO_turn_1 (by decide) ?_
  refine va_put (D := (dC, dI)) (ci := 7) (v := .int (nI 0)) (ty := .int) (C := R_MO) (T := F_MO) (N := 15) hx hb hts in_MO t_MO t_MO_ok n_MO hown hK.1 hP hD hS 0 rfl rfl 0 (by decide) (hts _ wfl_MO_38) (fun _ h9 => h9) rfl (by decide +kernel) rfl rfl (Nat.le_of_ble_eq_true rfl) d_MO_turn_2 (fun H locs hP hD hS => ?_)
  have hP : va_P (dC, dI) cls [(o, .inr (7, [.int (nI 0), .int (nI nd), .int (nI ar), .ref fF, .ref fG, .ref fT, .ref fN, .ref fW, .int be, .ref fO, .ref fB, .int bz, .ref fS, .ref fD, .int sz]))] H := hP
  have hD : va_D (ow [(o, .inr (7, [.int th, .int (nI nd), .int (nI ar), .ref fF, .ref fG, .ref fT, .ref fN, .ref fW, .int be, .ref fO, .ref fB, .int bz, .ref fS, .ref fD, .int sz]))]) [(o, .inr (7, [.int (nI 0), .int (nI nd), .int (nI ar), .ref fF, .ref fG, .ref fT, .ref fN, .ref fW, .int be, .ref fO, .ref fB, .int bz, .ref fS, .ref fD, .int sz]))] := hD
  refine lv_iload_n hx hb d_MO_turn_5 rfl (lv_at hl 1 rfl) ?_
  refine lv_iconst (v := (nI 0)) hx hb d_MO_turn_6 (by decide) ?_
  refine lv_aload_n hx hb d_MO_turn_7 rfl (lv_at hl 0 rfl) ?_
  refine va_get (D := (dC, dI)) (ci := 7) (v := .int (nI ar)) (C := R_MO) (T := F_MO) (N := 15) hx hb hts in_MO hown hK.1 hP 0 rfl rfl 2 (by decide) (hts _ wfl_MO_45) (fun _ h9 => h9) rfl d_MO_turn_8 ?_
  refine lv_iconst (v := (nI 1)) hx hb d_MO_turn_11 (by decide) ?_
  refine lv_isub hx hb d_MO_turn_12 ?_
  refine vp_callSi (va_Run.run (k_S (n := 3) (rest := []) ⟨hx, hb, hml, hown, hts⟩ (c_MO_within l dC dI cI cJ cZ x (nI 0) ((nI ar) - (nI 1))) wml_MO_48 wst_MO_within wini_MO wcode_MO_within (by decide +kernel) ⟨Nat.le_of_ble_eq_true rfl, Nat.le_of_ble_eq_true rfl⟩ (pre_R (hP.sub (ws' := []) [] rfl) hK) rfl hl.1 rfl (Nat.le_of_ble_eq_true rfl) d_MO_turn_13 ⟨Nat.zero_le _, Nat.zero_le _⟩)) (fun r_1 hr_2 => ?_)
  refine xe_i (y := (bI (decide ((nI 0) ≤ x) && decide (x ≤ ((nI ar) - (nI 1)))))) hr_2 ?_
  refine xe_i (y := (bI false)) (by rw [vd_w (by omega), hbad]) ?_
  refine lv_if_ne (tgt := 21) hx hb d_MO_turn_16 (by decide) (fun c9 => absurd (by decide : ((bI false) : Int32) = 0) c9) (fun _ => ?_)
  refine lv_iconst (v := (-1)) hx hb d_MO_turn_19 (by decide) ?_
  exact W.iret (v := (-1)) hx hb hr (fun t9 ht9 _ => ⟨⟨_, (), rfl, rfl, by show va_P (dC, dI) cls _ t9.heap; rw [ht9]; exact hP⟩, hS.F ht9⟩) hS.2.2 d_MO_turn_20

theorem d_MO_bridge_0 : decode prog_9_method_29_code 0 = .ok (.aload_n 0, 1) := by decide +kernel
theorem d_MO_bridge_1 : decode prog_9_method_29_code 1 = .ok (.iconst 0, 1) := by decide +kernel
theorem d_MO_bridge_2 : decode prog_9_method_29_code 2 = .ok (.putfield 38, 3) := by decide +kernel
theorem d_MO_bridge_5 : decode prog_9_method_29_code 5 = .ok (.aload_n 0, 1) := by decide +kernel
theorem d_MO_bridge_6 : decode prog_9_method_29_code 6 = .ok (.iload_n 1, 1) := by decide +kernel
theorem d_MO_bridge_7 : decode prog_9_method_29_code 7 = .ok (.invokevirtual 113, 3) := by decide +kernel
theorem d_MO_bridge_10 : decode prog_9_method_29_code 10 = .ok (.ifCond .ne 7, 3) := by decide +kernel
theorem d_MO_bridge_13 : decode prog_9_method_29_code 13 = .ok (.iconst (-1), 1) := by decide +kernel
theorem d_MO_bridge_14 : decode prog_9_method_29_code 14 = .ok (.goto 16, 3) := by decide +kernel
theorem d_MO_bridge_17 : decode prog_9_method_29_code 17 = .ok (.aload_n 0, 1) := by decide +kernel
theorem d_MO_bridge_18 : decode prog_9_method_29_code 18 = .ok (.iload_n 1, 1) := by decide +kernel
theorem d_MO_bridge_19 : decode prog_9_method_29_code 19 = .ok (.invokevirtual 95, 3) := by decide +kernel
theorem d_MO_bridge_22 : decode prog_9_method_29_code 22 = .ok (.ifCond .eq 7, 3) := by decide +kernel
theorem d_MO_bridge_25 : decode prog_9_method_29_code 25 = .ok (.iconst 1, 1) := by decide +kernel
theorem d_MO_bridge_26 : decode prog_9_method_29_code 26 = .ok (.goto 4, 3) := by decide +kernel
theorem d_MO_bridge_29 : decode prog_9_method_29_code 29 = .ok (.iconst 0, 1) := by decide +kernel
theorem d_MO_bridge_30 : decode prog_9_method_29_code 30 = .ok (.ireturn, 1) := by decide +kernel
set_option maxHeartbeats 4000000 in
set_option maxRecDepth 100000 in
theorem c_MO_bridge_b (l : Launch) (dC : Nat → ClassId) (dI : Nat → Nat → Nat) (cI cJ cZ : ClassId) (o fF fG fT fN fW fO fB fS fD : Nat) (th be bz sz : Int32) (nd ar : Nat) (P : Nat → Bool) (x : Int32) (har : ar ≤ 40) (hbad : (vd x ar && P x.toNatClampNeg) = false) : Met l ⟨"CutPointsModel", "bridge", "(I)I"⟩ (Cond.code ⟨"CutPointsModel", "bridge", "(I)I"⟩ prog_9_method_29_code 2 (some .int) :: TT) (rmk 2 43) (PM dC dI cI cJ cZ [.ref o, .int x] [(o, .inr (7, [.int th, .int (nI nd), .int (nI ar), .ref fF, .ref fG, .ref fT, .ref fN, .ref fW, .int be, .ref fO, .ref fB, .int bz, .ref fS, .ref fD, .int sz])), (fT, .inl (cZ, 41, .inl (bF P)))]) (va_Qi (S := Unit) (fun r u9 => r = -1) (fun u9 t9 => va_P (dC, dI) cls ([(o, .inr (7, [.int (nI 0), .int (nI nd), .int (nI ar), .ref fF, .ref fG, .ref fT, .ref fN, .ref fW, .int be, .ref fO, .ref fB, .int bz, .ref fS, .ref fD, .int sz])), (fT, .inl (cZ, 41, .inl (bF P)))]) t9.heap) (ow [(o, .inr (7, [.int th, .int (nI nd), .int (nI ar), .ref fF, .ref fG, .ref fT, .ref fN, .ref fW, .int be, .ref fO, .ref fB, .int bz, .ref fS, .ref fD, .int sz])), (fT, .inl (cZ, 41, .inl (bF P)))])) 0 0 (ow [(o, .inr (7, [.int th, .int (nI nd), .int (nI ar), .ref fF, .ref fG, .ref fT, .ref fN, .ref fW, .int be, .ref fO, .ref fB, .int bz, .ref fS, .ref fD, .int sz])), (fT, .inl (cZ, 41, .inl (bF P)))]) := by
  refine Met.ofW (cc := prog_9_method_29_code) (maxL := 2) (ret := (some .int)) (by decide) rfl ?_
  intro p e s m args below meth c s₁ BB9 hml hv
  obtain ⟨rfl, hP, hK, hD0⟩ := hv
  have hx := BB9.exec
  have hb := BB9.bytes
  have hr := BB9.returns
  have hts : ∀ w ∈ TT, w.before _ s = true := fun w h => atoms_spec (ws := (Cond.code ⟨"CutPointsModel", "bridge", "(I)I"⟩ prog_9_method_29_code 2 (some .int) :: TT)) BB9.pre w (List.mem_cons_of_mem _ h)
  have hown : s.vm.findClass "CutPointsModel" = some m.cls := findClass_of_methodNamed BB9.named
  have hlocks := BB9.notSynchronized
  have hD := hD0.mine
  have hS : va_S (ow [(o, .inr (7, [.int th, .int (nI nd), .int (nI ar), .ref fF, .ref fG, .ref fT, .ref fN, .ref fW, .int be, .ref fO, .ref fB, .int bz, .ref fS, .ref fD, .int sz])), (fT, .inl (cZ, 41, .inl (bF P)))]) s.heap s.heap [] := va_S.rf
  have hl := lv_entry ([.ref o, .int x]) (n := 2) (Nat.le_of_ble_eq_true rfl)
  rw [lg_entry_eq]
  generalize (lg_sl ([.ref o, .int x]) ++ List.replicate (2 - (lg_sl ([.ref o, .int x])).length) Slot.unset).toArray = ls at hl ⊢
  have hl : lv_has ls 2 [(0, .ref o), (1, .int x)] := hl
  refine lv_aload_n hx hb d_MO_bridge_0 rfl (lv_at hl 0 rfl) ?_
  refine lv_iconst (v := (nI 0)) hx hb d_MO_bridge_1 (by decide) ?_
  refine va_put (D := (dC, dI)) (ci := 7) (v := .int (nI 0)) (ty := .int) (C := R_MO) (T := F_MO) (N := 15) hx hb hts in_MO t_MO t_MO_ok n_MO hown hK.1 hP hD hS 0 rfl rfl 0 (by decide) (hts _ wfl_MO_38) (fun _ h9 => h9) rfl (by decide +kernel) rfl rfl (Nat.le_of_ble_eq_true rfl) d_MO_bridge_2 (fun H locs hP hD hS => ?_)
  have hP : va_P (dC, dI) cls [(o, .inr (7, [.int (nI 0), .int (nI nd), .int (nI ar), .ref fF, .ref fG, .ref fT, .ref fN, .ref fW, .int be, .ref fO, .ref fB, .int bz, .ref fS, .ref fD, .int sz])), (fT, .inl (cZ, 41, .inl (bF P)))] H := hP
  have hD : va_D (ow [(o, .inr (7, [.int th, .int (nI nd), .int (nI ar), .ref fF, .ref fG, .ref fT, .ref fN, .ref fW, .int be, .ref fO, .ref fB, .int bz, .ref fS, .ref fD, .int sz])), (fT, .inl (cZ, 41, .inl (bF P)))]) [(o, .inr (7, [.int (nI 0), .int (nI nd), .int (nI ar), .ref fF, .ref fG, .ref fT, .ref fN, .ref fW, .int be, .ref fO, .ref fB, .int bz, .ref fS, .ref fD, .int sz])), (fT, .inl (cZ, 41, .inl (bF P)))] := hD
  refine lv_aload_n hx hb d_MO_bridge_5 rfl (lv_at hl 0 rfl) ?_
  refine lv_iload_n hx hb d_MO_bridge_6 rfl (lv_at hl 1 rfl) ?_
  refine vp_callSi (va_Run.run (k_V (n := 1) (C := R_MO) (rest := []) ⟨hx, hb, hml, hown, hts⟩ (c_MO_isThere l dC dI cI cJ cZ o fF fG fT fN fW fO fB fS fD (nI 0) be bz sz nd ar P x (by first | assumption | omega)) wml_MO_113 wim_MO_isThere wsel_MO_isThere wini_MO wcode_MO_isThere (by decide +kernel) ⟨Nat.le_of_ble_eq_true rfl, Nat.le_of_ble_eq_true rfl⟩ (preV_R (q := (R_MO, F_MO, 15)) (ci := 7) (q0 := 0) (hP.sub (ws' := [(o, .inr (7, [.int (nI 0), .int (nI nd), .int (nI ar), .ref fF, .ref fG, .ref fT, .ref fN, .ref fW, .int be, .ref fO, .ref fB, .int bz, .ref fS, .ref fD, .int sz])), (fT, .inl (cZ, 41, .inl (bF P)))]) [0, 1] rfl) hK rfl rfl) rfl hl.1 rfl (Nat.le_of_ble_eq_true rfl) d_MO_bridge_7 ⟨Nat.zero_le _, Nat.zero_le _⟩)) (fun r_1 hr_2 => ?_)
  refine xe_i (y := (bI (vd x ar && P x.toNatClampNeg))) hr_2 ?_
  refine xe_i (y := (bI false)) (by rw [hbad]) ?_
  refine lv_if_ne (tgt := 17) hx hb d_MO_bridge_10 (by decide) (fun c9 => absurd (by decide : ((bI false) : Int32) = 0) c9) (fun _ => ?_)
  refine lv_iconst (v := (-1)) hx hb d_MO_bridge_13 (by decide) ?_
  refine lv_goto (tgt := 30) hx hb d_MO_bridge_14 (by decide) ?_
  exact W.iret (v := (-1)) hx hb hr (fun t9 ht9 _ => ⟨⟨_, (), rfl, rfl, by show va_P (dC, dI) cls _ t9.heap; rw [ht9]; exact hP⟩, hS.F ht9⟩) hS.2.2 d_MO_bridge_30

theorem d_MO_block_0 : decode prog_9_method_31_code 0 = .ok (.aload_n 0, 1) := by decide +kernel
theorem d_MO_block_1 : decode prog_9_method_31_code 1 = .ok (.iconst 0, 1) := by decide +kernel
theorem d_MO_block_2 : decode prog_9_method_31_code 2 = .ok (.putfield 38, 3) := by decide +kernel
theorem d_MO_block_5 : decode prog_9_method_31_code 5 = .ok (.aload_n 0, 1) := by decide +kernel
theorem d_MO_block_6 : decode prog_9_method_31_code 6 = .ok (.iload_n 1, 1) := by decide +kernel
theorem d_MO_block_7 : decode prog_9_method_31_code 7 = .ok (.invokevirtual 113, 3) := by decide +kernel
theorem d_MO_block_10 : decode prog_9_method_31_code 10 = .ok (.ifCond .eq 11, 3) := by decide +kernel
theorem d_MO_block_13 : decode prog_9_method_31_code 13 = .ok (.aload_n 0, 1) := by decide +kernel
theorem d_MO_block_14 : decode prog_9_method_31_code 14 = .ok (.iload_n 1, 1) := by decide +kernel
theorem d_MO_block_15 : decode prog_9_method_31_code 15 = .ok (.invokevirtual 101, 3) := by decide +kernel
theorem d_MO_block_18 : decode prog_9_method_31_code 18 = .ok (.goto 4, 3) := by decide +kernel
theorem d_MO_block_21 : decode prog_9_method_31_code 21 = .ok (.iconst (-1), 1) := by decide +kernel
theorem d_MO_block_22 : decode prog_9_method_31_code 22 = .ok (.ireturn, 1) := by decide +kernel
set_option maxHeartbeats 4000000 in
set_option maxRecDepth 100000 in
theorem c_MO_block_b (l : Launch) (dC : Nat → ClassId) (dI : Nat → Nat → Nat) (cI cJ cZ : ClassId) (o fF fG fT fN fW fO fB fS fD : Nat) (th be bz sz : Int32) (nd ar : Nat) (P : Nat → Bool) (x : Int32) (har : ar ≤ 40) (hbad : (vd x ar && P x.toNatClampNeg) = false) : Met l ⟨"CutPointsModel", "block", "(I)I"⟩ (Cond.code ⟨"CutPointsModel", "block", "(I)I"⟩ prog_9_method_31_code 2 (some .int) :: TT) (rmk 2 43) (PM dC dI cI cJ cZ [.ref o, .int x] [(o, .inr (7, [.int th, .int (nI nd), .int (nI ar), .ref fF, .ref fG, .ref fT, .ref fN, .ref fW, .int be, .ref fO, .ref fB, .int bz, .ref fS, .ref fD, .int sz])), (fT, .inl (cZ, 41, .inl (bF P)))]) (va_Qi (S := Unit) (fun r u9 => r = -1) (fun u9 t9 => va_P (dC, dI) cls ([(o, .inr (7, [.int (nI 0), .int (nI nd), .int (nI ar), .ref fF, .ref fG, .ref fT, .ref fN, .ref fW, .int be, .ref fO, .ref fB, .int bz, .ref fS, .ref fD, .int sz])), (fT, .inl (cZ, 41, .inl (bF P)))]) t9.heap) (ow [(o, .inr (7, [.int th, .int (nI nd), .int (nI ar), .ref fF, .ref fG, .ref fT, .ref fN, .ref fW, .int be, .ref fO, .ref fB, .int bz, .ref fS, .ref fD, .int sz])), (fT, .inl (cZ, 41, .inl (bF P)))])) 0 0 (ow [(o, .inr (7, [.int th, .int (nI nd), .int (nI ar), .ref fF, .ref fG, .ref fT, .ref fN, .ref fW, .int be, .ref fO, .ref fB, .int bz, .ref fS, .ref fD, .int sz])), (fT, .inl (cZ, 41, .inl (bF P)))]) := by
  refine Met.ofW (cc := prog_9_method_31_code) (maxL := 2) (ret := (some .int)) (by decide) rfl ?_
  intro p e s m args below meth c s₁ BB9 hml hv
  obtain ⟨rfl, hP, hK, hD0⟩ := hv
  have hx := BB9.exec
  have hb := BB9.bytes
  have hr := BB9.returns
  have hts : ∀ w ∈ TT, w.before _ s = true := fun w h => atoms_spec (ws := (Cond.code ⟨"CutPointsModel", "block", "(I)I"⟩ prog_9_method_31_code 2 (some .int) :: TT)) BB9.pre w (List.mem_cons_of_mem _ h)
  have hown : s.vm.findClass "CutPointsModel" = some m.cls := findClass_of_methodNamed BB9.named
  have hlocks := BB9.notSynchronized
  have hD := hD0.mine
  have hS : va_S (ow [(o, .inr (7, [.int th, .int (nI nd), .int (nI ar), .ref fF, .ref fG, .ref fT, .ref fN, .ref fW, .int be, .ref fO, .ref fB, .int bz, .ref fS, .ref fD, .int sz])), (fT, .inl (cZ, 41, .inl (bF P)))]) s.heap s.heap [] := va_S.rf
  have hl := lv_entry ([.ref o, .int x]) (n := 2) (Nat.le_of_ble_eq_true rfl)
  rw [lg_entry_eq]
  generalize (lg_sl ([.ref o, .int x]) ++ List.replicate (2 - (lg_sl ([.ref o, .int x])).length) Slot.unset).toArray = ls at hl ⊢
  have hl : lv_has ls 2 [(0, .ref o), (1, .int x)] := hl
  refine lv_aload_n hx hb d_MO_block_0 rfl (lv_at hl 0 rfl) ?_
  refine lv_iconst (v := (nI 0)) hx hb d_MO_block_1 (by decide) ?_
  refine va_put (D := (dC, dI)) (ci := 7) (v := .int (nI 0)) (ty := .int) (C := R_MO) (T := F_MO) (N := 15) hx hb hts in_MO t_MO t_MO_ok n_MO hown hK.1 hP hD hS 0 rfl rfl 0 (by decide) (hts _ wfl_MO_38) (fun _ h9 => h9) rfl (by decide +kernel) rfl rfl (Nat.le_of_ble_eq_true rfl) d_MO_block_2 (fun H locs hP hD hS => ?_)
  have hP : va_P (dC, dI) cls [(o, .inr (7, [.int (nI 0), .int (nI nd), .int (nI ar), .ref fF, .ref fG, .ref fT, .ref fN, .ref fW, .int be, .ref fO, .ref fB, .int bz, .ref fS, .ref fD, .int sz])), (fT, .inl (cZ, 41, .inl (bF P)))] H := hP
  have hD : va_D (ow [(o, .inr (7, [.int th, .int (nI nd), .int (nI ar), .ref fF, .ref fG, .ref fT, .ref fN, .ref fW, .int be, .ref fO, .ref fB, .int bz, .ref fS, .ref fD, .int sz])), (fT, .inl (cZ, 41, .inl (bF P)))]) [(o, .inr (7, [.int (nI 0), .int (nI nd), .int (nI ar), .ref fF, .ref fG, .ref fT, .ref fN, .ref fW, .int be, .ref fO, .ref fB, .int bz, .ref fS, .ref fD, .int sz])), (fT, .inl (cZ, 41, .inl (bF P)))] := hD
  refine lv_aload_n hx hb d_MO_block_5 rfl (lv_at hl 0 rfl) ?_
  refine lv_iload_n hx hb d_MO_block_6 rfl (lv_at hl 1 rfl) ?_
  refine vp_callSi (va_Run.run (k_V (n := 1) (C := R_MO) (rest := []) ⟨hx, hb, hml, hown, hts⟩ (c_MO_isThere l dC dI cI cJ cZ o fF fG fT fN fW fO fB fS fD (nI 0) be bz sz nd ar P x (by first | assumption | omega)) wml_MO_113 wim_MO_isThere wsel_MO_isThere wini_MO wcode_MO_isThere (by decide +kernel) ⟨Nat.le_of_ble_eq_true rfl, Nat.le_of_ble_eq_true rfl⟩ (preV_R (q := (R_MO, F_MO, 15)) (ci := 7) (q0 := 0) (hP.sub (ws' := [(o, .inr (7, [.int (nI 0), .int (nI nd), .int (nI ar), .ref fF, .ref fG, .ref fT, .ref fN, .ref fW, .int be, .ref fO, .ref fB, .int bz, .ref fS, .ref fD, .int sz])), (fT, .inl (cZ, 41, .inl (bF P)))]) [0, 1] rfl) hK rfl rfl) rfl hl.1 rfl (Nat.le_of_ble_eq_true rfl) d_MO_block_7 ⟨Nat.zero_le _, Nat.zero_le _⟩)) (fun r_1 hr_2 => ?_)
  refine xe_i (y := (bI (vd x ar && P x.toNatClampNeg))) hr_2 ?_
  refine xe_i (y := (bI false)) (by rw [hbad]) ?_
  refine lv_if_eq (tgt := 21) hx hb d_MO_block_10 (by decide) (fun _ => ?_) (fun c9 => absurd (by decide : ((bI false) : Int32) = 0) c9)
  refine lv_iconst (v := (-1)) hx hb d_MO_block_21 (by decide) ?_
  exact W.iret (v := (-1)) hx hb hr (fun t9 ht9 _ => ⟨⟨_, (), rfl, rfl, by show va_P (dC, dI) cls _ t9.heap; rw [ht9]; exact hP⟩, hS.F ht9⟩) hS.2.2 d_MO_block_22

theorem d_MO_way_0 : decode prog_9_method_42_code 0 = .ok (.aload_n 0, 1) := by decide +kernel
theorem d_MO_way_1 : decode prog_9_method_42_code 1 = .ok (.iconst 0, 1) := by decide +kernel
theorem d_MO_way_2 : decode prog_9_method_42_code 2 = .ok (.putfield 38, 3) := by decide +kernel
theorem d_MO_way_5 : decode prog_9_method_42_code 5 = .ok (.aload_n 0, 1) := by decide +kernel
theorem d_MO_way_6 : decode prog_9_method_42_code 6 = .ok (.iload_n 1, 1) := by decide +kernel
theorem d_MO_way_7 : decode prog_9_method_42_code 7 = .ok (.invokevirtual 113, 3) := by decide +kernel
theorem d_MO_way_10 : decode prog_9_method_42_code 10 = .ok (.ifCond .ne 5, 3) := by decide +kernel
theorem d_MO_way_13 : decode prog_9_method_42_code 13 = .ok (.iconst (-1), 1) := by decide +kernel
theorem d_MO_way_14 : decode prog_9_method_42_code 14 = .ok (.ireturn, 1) := by decide +kernel
theorem d_MO_way_15 : decode prog_9_method_42_code 15 = .ok (.aload_n 0, 1) := by decide +kernel
theorem d_MO_way_16 : decode prog_9_method_42_code 16 = .ok (.aload_n 0, 1) := by decide +kernel
theorem d_MO_way_17 : decode prog_9_method_42_code 17 = .ok (.getfield 7, 3) := by decide +kernel
theorem d_MO_way_20 : decode prog_9_method_42_code 20 = .ok (.iload_n 1, 1) := by decide +kernel
theorem d_MO_way_21 : decode prog_9_method_42_code 21 = .ok (.iaload, 1) := by decide +kernel
theorem d_MO_way_22 : decode prog_9_method_42_code 22 = .ok (.invokevirtual 70, 3) := by decide +kernel
theorem d_MO_way_25 : decode prog_9_method_42_code 25 = .ok (.istore_n 2, 1) := by decide +kernel
theorem d_MO_way_26 : decode prog_9_method_42_code 26 = .ok (.aload_n 0, 1) := by decide +kernel
theorem d_MO_way_27 : decode prog_9_method_42_code 27 = .ok (.iload_n 2, 1) := by decide +kernel
theorem d_MO_way_28 : decode prog_9_method_42_code 28 = .ok (.invokevirtual 125, 3) := by decide +kernel
theorem d_MO_way_31 : decode prog_9_method_42_code 31 = .ok (.ifCond .eq 6, 3) := by decide +kernel
theorem d_MO_way_34 : decode prog_9_method_42_code 34 = .ok (.bipush (-3), 2) := by decide +kernel
theorem d_MO_way_36 : decode prog_9_method_42_code 36 = .ok (.ireturn, 1) := by decide +kernel
theorem d_MO_way_37 : decode prog_9_method_42_code 37 = .ok (.iconst 0, 1) := by decide +kernel
theorem d_MO_way_38 : decode prog_9_method_42_code 38 = .ok (.istore_n 3, 1) := by decide +kernel
theorem d_MO_way_39 : decode prog_9_method_42_code 39 = .ok (.iload_n 3, 1) := by decide +kernel
theorem d_MO_way_40 : decode prog_9_method_42_code 40 = .ok (.aload_n 0, 1) := by decide +kernel
theorem d_MO_way_41 : decode prog_9_method_42_code 41 = .ok (.getfield 45, 3) := by decide +kernel
theorem d_MO_way_44 : decode prog_9_method_42_code 44 = .ok (.if_icmp .ge 16, 3) := by decide +kernel
theorem d_MO_way_47 : decode prog_9_method_42_code 47 = .ok (.aload_n 0, 1) := by decide +kernel
theorem d_MO_way_48 : decode prog_9_method_42_code 48 = .ok (.getfield 26, 3) := by decide +kernel
theorem d_MO_way_51 : decode prog_9_method_42_code 51 = .ok (.iload_n 3, 1) := by decide +kernel
theorem d_MO_way_52 : decode prog_9_method_42_code 52 = .ok (.iconst 0, 1) := by decide +kernel
theorem d_MO_way_53 : decode prog_9_method_42_code 53 = .ok (.iastore, 1) := by decide +kernel
theorem d_MO_way_54 : decode prog_9_method_42_code 54 = .ok (.iinc 3 1, 3) := by decide +kernel
theorem d_MO_way_57 : decode prog_9_method_42_code 57 = .ok (.goto (-18), 3) := by decide +kernel
theorem d_MO_way_60 : decode prog_9_method_42_code 60 = .ok (.iconst 0, 1) := by decide +kernel
theorem d_MO_way_61 : decode prog_9_method_42_code 61 = .ok (.istore_n 3, 1) := by decide +kernel
theorem d_MO_way_62 : decode prog_9_method_42_code 62 = .ok (.iload_n 3, 1) := by decide +kernel
theorem d_MO_way_63 : decode prog_9_method_42_code 63 = .ok (.iload_n 1, 1) := by decide +kernel
theorem d_MO_way_64 : decode prog_9_method_42_code 64 = .ok (.if_icmp .gt 92, 3) := by decide +kernel
theorem d_MO_way_67 : decode prog_9_method_42_code 67 = .ok (.aload_n 0, 1) := by decide +kernel
theorem d_MO_way_68 : decode prog_9_method_42_code 68 = .ok (.getfield 16, 3) := by decide +kernel
theorem d_MO_way_71 : decode prog_9_method_42_code 71 = .ok (.iload_n 3, 1) := by decide +kernel
theorem d_MO_way_72 : decode prog_9_method_42_code 72 = .ok (.baload, 1) := by decide +kernel
theorem d_MO_way_73 : decode prog_9_method_42_code 73 = .ok (.ifCond .eq 77, 3) := by decide +kernel
theorem d_MO_way_76 : decode prog_9_method_42_code 76 = .ok (.iload_n 2, 1) := by decide +kernel
theorem d_MO_way_77 : decode prog_9_method_42_code 77 = .ok (.aload_n 0, 1) := by decide +kernel
theorem d_MO_way_78 : decode prog_9_method_42_code 78 = .ok (.getfield 7, 3) := by decide +kernel
theorem d_MO_way_81 : decode prog_9_method_42_code 81 = .ok (.iload_n 3, 1) := by decide +kernel
theorem d_MO_way_82 : decode prog_9_method_42_code 82 = .ok (.iaload, 1) := by decide +kernel
theorem d_MO_way_83 : decode prog_9_method_42_code 83 = .ok (.ishr, 1) := by decide +kernel
theorem d_MO_way_84 : decode prog_9_method_42_code 84 = .ok (.iconst 1, 1) := by decide +kernel
theorem d_MO_way_85 : decode prog_9_method_42_code 85 = .ok (.iand, 1) := by decide +kernel
theorem d_MO_way_86 : decode prog_9_method_42_code 86 = .ok (.iconst 1, 1) := by decide +kernel
theorem d_MO_way_87 : decode prog_9_method_42_code 87 = .ok (.if_icmp .ne 63, 3) := by decide +kernel
theorem d_MO_way_90 : decode prog_9_method_42_code 90 = .ok (.aload_n 0, 1) := by decide +kernel
theorem d_MO_way_91 : decode prog_9_method_42_code 91 = .ok (.getfield 26, 3) := by decide +kernel
theorem d_MO_way_94 : decode prog_9_method_42_code 94 = .ok (.iload_n 3, 1) := by decide +kernel
theorem d_MO_way_95 : decode prog_9_method_42_code 95 = .ok (.iconst 1, 1) := by decide +kernel
theorem d_MO_way_96 : decode prog_9_method_42_code 96 = .ok (.iastore, 1) := by decide +kernel
theorem d_MO_way_97 : decode prog_9_method_42_code 97 = .ok (.aload_n 0, 1) := by decide +kernel
theorem d_MO_way_98 : decode prog_9_method_42_code 98 = .ok (.aload_n 0, 1) := by decide +kernel
theorem d_MO_way_99 : decode prog_9_method_42_code 99 = .ok (.getfield 7, 3) := by decide +kernel
theorem d_MO_way_102 : decode prog_9_method_42_code 102 = .ok (.iload_n 3, 1) := by decide +kernel
theorem d_MO_way_103 : decode prog_9_method_42_code 103 = .ok (.iaload, 1) := by decide +kernel
theorem d_MO_way_104 : decode prog_9_method_42_code 104 = .ok (.iload_n 2, 1) := by decide +kernel
theorem d_MO_way_105 : decode prog_9_method_42_code 105 = .ok (.iconst 0, 1) := by decide +kernel
theorem d_MO_way_106 : decode prog_9_method_42_code 106 = .ok (.invokevirtual 128, 3) := by decide +kernel
theorem d_MO_way_109 : decode prog_9_method_42_code 109 = .ok (.ifCond .eq 22, 3) := by decide +kernel
theorem d_MO_way_112 : decode prog_9_method_42_code 112 = .ok (.aload_n 0, 1) := by decide +kernel
theorem d_MO_way_113 : decode prog_9_method_42_code 113 = .ok (.aload_n 0, 1) := by decide +kernel
theorem d_MO_way_114 : decode prog_9_method_42_code 114 = .ok (.getfield 7, 3) := by decide +kernel
theorem d_MO_way_117 : decode prog_9_method_42_code 117 = .ok (.iload_n 3, 1) := by decide +kernel
theorem d_MO_way_118 : decode prog_9_method_42_code 118 = .ok (.iaload, 1) := by decide +kernel
theorem d_MO_way_119 : decode prog_9_method_42_code 119 = .ok (.iload_n 2, 1) := by decide +kernel
theorem d_MO_way_120 : decode prog_9_method_42_code 120 = .ok (.iconst 1, 1) := by decide +kernel
theorem d_MO_way_121 : decode prog_9_method_42_code 121 = .ok (.invokevirtual 128, 3) := by decide +kernel
theorem d_MO_way_124 : decode prog_9_method_42_code 124 = .ok (.ifCond .eq 7, 3) := by decide +kernel
theorem d_MO_way_127 : decode prog_9_method_42_code 127 = .ok (.iconst 1, 1) := by decide +kernel
theorem d_MO_way_128 : decode prog_9_method_42_code 128 = .ok (.goto 4, 3) := by decide +kernel
theorem d_MO_way_131 : decode prog_9_method_42_code 131 = .ok (.iconst 0, 1) := by decide +kernel
theorem d_MO_way_132 : decode prog_9_method_42_code 132 = .ok (.istore 4, 2) := by decide +kernel
theorem d_MO_way_134 : decode prog_9_method_42_code 134 = .ok (.aload_n 0, 1) := by decide +kernel
theorem d_MO_way_135 : decode prog_9_method_42_code 135 = .ok (.getfield 26, 3) := by decide +kernel
theorem d_MO_way_138 : decode prog_9_method_42_code 138 = .ok (.iload_n 3, 1) := by decide +kernel
theorem d_MO_way_139 : decode prog_9_method_42_code 139 = .ok (.iload 4, 2) := by decide +kernel
theorem d_MO_way_141 : decode prog_9_method_42_code 141 = .ok (.ifCond .eq 7, 3) := by decide +kernel
theorem d_MO_way_144 : decode prog_9_method_42_code 144 = .ok (.iconst 1, 1) := by decide +kernel
theorem d_MO_way_145 : decode prog_9_method_42_code 145 = .ok (.goto 4, 3) := by decide +kernel
theorem d_MO_way_148 : decode prog_9_method_42_code 148 = .ok (.iconst 2, 1) := by decide +kernel
theorem d_MO_way_149 : decode prog_9_method_42_code 149 = .ok (.iastore, 1) := by decide +kernel
theorem d_MO_way_150 : decode prog_9_method_42_code 150 = .ok (.iinc 3 1, 3) := by decide +kernel
theorem d_MO_way_153 : decode prog_9_method_42_code 153 = .ok (.goto (-91), 3) := by decide +kernel
theorem d_MO_way_156 : decode prog_9_method_42_code 156 = .ok (.aload_n 0, 1) := by decide +kernel
theorem d_MO_way_157 : decode prog_9_method_42_code 157 = .ok (.getfield 26, 3) := by decide +kernel
theorem d_MO_way_160 : decode prog_9_method_42_code 160 = .ok (.iload_n 1, 1) := by decide +kernel
theorem d_MO_way_161 : decode prog_9_method_42_code 161 = .ok (.iaload, 1) := by decide +kernel
theorem d_MO_way_162 : decode prog_9_method_42_code 162 = .ok (.iconst 1, 1) := by decide +kernel
theorem d_MO_way_163 : decode prog_9_method_42_code 163 = .ok (.if_icmp .ne 7, 3) := by decide +kernel
theorem d_MO_way_166 : decode prog_9_method_42_code 166 = .ok (.iconst 1, 1) := by decide +kernel
theorem d_MO_way_167 : decode prog_9_method_42_code 167 = .ok (.goto 4, 3) := by decide +kernel
theorem d_MO_way_170 : decode prog_9_method_42_code 170 = .ok (.iconst 0, 1) := by decide +kernel
theorem d_MO_way_171 : decode prog_9_method_42_code 171 = .ok (.ireturn, 1) := by decide +kernel
set_option maxHeartbeats 4000000 in
set_option maxRecDepth 100000 in
theorem c_MO_way_b (l : Launch) (dC : Nat → ClassId) (dI : Nat → Nat → Nat) (cI cJ cZ : ClassId) (o fF fG fT fN fW fO fB fS fD : Nat) (th be bz sz : Int32) (nd ar : Nat) (P : Nat → Bool) (x : Int32) (har : ar ≤ 40) (hbad : (vd x ar && P x.toNatClampNeg) = false) : Met l ⟨"CutPointsModel", "way", "(I)I"⟩ (Cond.code ⟨"CutPointsModel", "way", "(I)I"⟩ prog_9_method_42_code 5 (some .int) :: TT) (rmk 2 43) (PM dC dI cI cJ cZ [.ref o, .int x] [(o, .inr (7, [.int th, .int (nI nd), .int (nI ar), .ref fF, .ref fG, .ref fT, .ref fN, .ref fW, .int be, .ref fO, .ref fB, .int bz, .ref fS, .ref fD, .int sz])), (fT, .inl (cZ, 41, .inl (bF P)))]) (va_Qi (S := Unit) (fun r u9 => r = -1) (fun u9 t9 => va_P (dC, dI) cls ([(o, .inr (7, [.int (nI 0), .int (nI nd), .int (nI ar), .ref fF, .ref fG, .ref fT, .ref fN, .ref fW, .int be, .ref fO, .ref fB, .int bz, .ref fS, .ref fD, .int sz])), (fT, .inl (cZ, 41, .inl (bF P)))]) t9.heap) (ow [(o, .inr (7, [.int th, .int (nI nd), .int (nI ar), .ref fF, .ref fG, .ref fT, .ref fN, .ref fW, .int be, .ref fO, .ref fB, .int bz, .ref fS, .ref fD, .int sz])), (fT, .inl (cZ, 41, .inl (bF P)))])) 0 0 (ow [(o, .inr (7, [.int th, .int (nI nd), .int (nI ar), .ref fF, .ref fG, .ref fT, .ref fN, .ref fW, .int be, .ref fO, .ref fB, .int bz, .ref fS, .ref fD, .int sz])), (fT, .inl (cZ, 41, .inl (bF P)))]) := by
  refine Met.ofW (cc := prog_9_method_42_code) (maxL := 5) (ret := (some .int)) (by decide) rfl ?_
  intro p e s m args below meth c s₁ BB9 hml hv
  obtain ⟨rfl, hP, hK, hD0⟩ := hv
  have hx := BB9.exec
  have hb := BB9.bytes
  have hr := BB9.returns
  have hts : ∀ w ∈ TT, w.before _ s = true := fun w h => atoms_spec (ws := (Cond.code ⟨"CutPointsModel", "way", "(I)I"⟩ prog_9_method_42_code 5 (some .int) :: TT)) BB9.pre w (List.mem_cons_of_mem _ h)
  have hown : s.vm.findClass "CutPointsModel" = some m.cls := findClass_of_methodNamed BB9.named
  have hlocks := BB9.notSynchronized
  have hD := hD0.mine
  have hS : va_S (ow [(o, .inr (7, [.int th, .int (nI nd), .int (nI ar), .ref fF, .ref fG, .ref fT, .ref fN, .ref fW, .int be, .ref fO, .ref fB, .int bz, .ref fS, .ref fD, .int sz])), (fT, .inl (cZ, 41, .inl (bF P)))]) s.heap s.heap [] := va_S.rf
  have hl := lv_entry ([.ref o, .int x]) (n := 5) (Nat.le_of_ble_eq_true rfl)
  rw [lg_entry_eq]
  generalize (lg_sl ([.ref o, .int x]) ++ List.replicate (5 - (lg_sl ([.ref o, .int x])).length) Slot.unset).toArray = ls at hl ⊢
  have hl : lv_has ls 5 [(0, .ref o), (1, .int x)] := hl
  refine lv_aload_n hx hb d_MO_way_0 rfl (lv_at hl 0 rfl) ?_
  refine lv_iconst (v := (nI 0)) hx hb d_MO_way_1 (by decide) ?_
  refine va_put (D := (dC, dI)) (ci := 7) (v := .int (nI 0)) (ty := .int) (C := R_MO) (T := F_MO) (N := 15) hx hb hts in_MO t_MO t_MO_ok n_MO hown hK.1 hP hD hS 0 rfl rfl 0 (by decide) (hts _ wfl_MO_38) (fun _ h9 => h9) rfl (by decide +kernel) rfl rfl (Nat.le_of_ble_eq_true rfl) d_MO_way_2 (fun H locs hP hD hS => ?_)
  have hP : va_P (dC, dI) cls [(o, .inr (7, [.int (nI 0), .int (nI nd), .int (nI ar), .ref fF, .ref fG, .ref fT, .ref fN, .ref fW, .int be, .ref fO, .ref fB, .int bz, .ref fS, .ref fD, .int sz])), (fT, .inl (cZ, 41, .inl (bF P)))] H := hP
  have hD : va_D (ow [(o, .inr (7, [.int th, .int (nI nd), .int (nI ar), .ref fF, .ref fG, .ref fT, .ref fN, .ref fW, .int be, .ref fO, .ref fB, .int bz, .ref fS, .ref fD, .int sz])), (fT, .inl (cZ, 41, .inl (bF P)))]) [(o, .inr (7, [.int (nI 0), .int (nI nd), .int (nI ar), .ref fF, .ref fG, .ref fT, .ref fN, .ref fW, .int be, .ref fO, .ref fB, .int bz, .ref fS, .ref fD, .int sz])), (fT, .inl (cZ, 41, .inl (bF P)))] := hD
  refine lv_aload_n hx hb d_MO_way_5 rfl (lv_at hl 0 rfl) ?_
  refine lv_iload_n hx hb d_MO_way_6 rfl (lv_at hl 1 rfl) ?_
  refine vp_callSi (va_Run.run (k_V (n := 1) (C := R_MO) (rest := []) ⟨hx, hb, hml, hown, hts⟩ (c_MO_isThere l dC dI cI cJ cZ o fF fG fT fN fW fO fB fS fD (nI 0) be bz sz nd ar P x (by first | assumption | omega)) wml_MO_113 wim_MO_isThere wsel_MO_isThere wini_MO wcode_MO_isThere (by decide +kernel) ⟨Nat.le_of_ble_eq_true rfl, Nat.le_of_ble_eq_true rfl⟩ (preV_R (q := (R_MO, F_MO, 15)) (ci := 7) (q0 := 0) (hP.sub (ws' := [(o, .inr (7, [.int (nI 0), .int (nI nd), .int (nI ar), .ref fF, .ref fG, .ref fT, .ref fN, .ref fW, .int be, .ref fO, .ref fB, .int bz, .ref fS, .ref fD, .int sz])), (fT, .inl (cZ, 41, .inl (bF P)))]) [0, 1] rfl) hK rfl rfl) rfl hl.1 rfl (Nat.le_of_ble_eq_true rfl) d_MO_way_7 ⟨Nat.zero_le _, Nat.zero_le _⟩)) (fun r_1 hr_2 => ?_)
  refine xe_i (y := (bI (vd x ar && P x.toNatClampNeg))) hr_2 ?_
  refine xe_i (y := (bI false)) (by rw [hbad]) ?_
  refine lv_if_ne (tgt := 15) hx hb d_MO_way_10 (by decide) (fun c9 => absurd (by decide : ((bI false) : Int32) = 0) c9) (fun _ => ?_)
  refine lv_iconst (v := (-1)) hx hb d_MO_way_13 (by decide) ?_
  exact W.iret (v := (-1)) hx hb hr (fun t9 ht9 _ => ⟨⟨_, (), rfl, rfl, by show va_P (dC, dI) cls _ t9.heap; rw [ht9]; exact hP⟩, hS.F ht9⟩) hS.2.2 d_MO_way_14

theorem d_MO_splits_0 : decode prog_9_method_49_code 0 = .ok (.aload_n 0, 1) := by decide +kernel
theorem d_MO_splits_1 : decode prog_9_method_49_code 1 = .ok (.iconst 0, 1) := by decide +kernel
theorem d_MO_splits_2 : decode prog_9_method_49_code 2 = .ok (.putfield 38, 3) := by decide +kernel
theorem d_MO_splits_5 : decode prog_9_method_49_code 5 = .ok (.aload_n 0, 1) := by decide +kernel
theorem d_MO_splits_6 : decode prog_9_method_49_code 6 = .ok (.iload_n 1, 1) := by decide +kernel
theorem d_MO_splits_7 : decode prog_9_method_49_code 7 = .ok (.invokevirtual 113, 3) := by decide +kernel
theorem d_MO_splits_10 : decode prog_9_method_49_code 10 = .ok (.ifCond .ne 5, 3) := by decide +kernel
theorem d_MO_splits_13 : decode prog_9_method_49_code 13 = .ok (.iconst (-1), 1) := by decide +kernel
theorem d_MO_splits_14 : decode prog_9_method_49_code 14 = .ok (.ireturn, 1) := by decide +kernel
theorem d_MO_splits_15 : decode prog_9_method_49_code 15 = .ok (.iload_n 2, 1) := by decide +kernel
theorem d_MO_splits_16 : decode prog_9_method_49_code 16 = .ok (.iconst 0, 1) := by decide +kernel
theorem d_MO_splits_17 : decode prog_9_method_49_code 17 = .ok (.iconst 3, 1) := by decide +kernel
theorem d_MO_splits_18 : decode prog_9_method_49_code 18 = .ok (.invokestatic 48, 3) := by decide +kernel
theorem d_MO_splits_21 : decode prog_9_method_49_code 21 = .ok (.ifCond .ne 6, 3) := by decide +kernel
theorem d_MO_splits_24 : decode prog_9_method_49_code 24 = .ok (.bipush (-2), 2) := by decide +kernel
theorem d_MO_splits_26 : decode prog_9_method_49_code 26 = .ok (.ireturn, 1) := by decide +kernel
theorem d_MO_splits_27 : decode prog_9_method_49_code 27 = .ok (.aload_n 0, 1) := by decide +kernel
theorem d_MO_splits_28 : decode prog_9_method_49_code 28 = .ok (.iload_n 1, 1) := by decide +kernel
theorem d_MO_splits_29 : decode prog_9_method_49_code 29 = .ok (.invokevirtual 141, 3) := by decide +kernel
theorem d_MO_splits_32 : decode prog_9_method_49_code 32 = .ok (.iload_n 2, 1) := by decide +kernel
theorem d_MO_splits_33 : decode prog_9_method_49_code 33 = .ok (.ifCond .ne 8, 3) := by decide +kernel
theorem d_MO_splits_36 : decode prog_9_method_49_code 36 = .ok (.aload_n 0, 1) := by decide +kernel
theorem d_MO_splits_37 : decode prog_9_method_49_code 37 = .ok (.getfield 132, 3) := by decide +kernel
theorem d_MO_splits_40 : decode prog_9_method_49_code 40 = .ok (.ireturn, 1) := by decide +kernel
theorem d_MO_splits_41 : decode prog_9_method_49_code 41 = .ok (.aload_n 0, 1) := by decide +kernel
theorem d_MO_splits_42 : decode prog_9_method_49_code 42 = .ok (.getfield 132, 3) := by decide +kernel
theorem d_MO_splits_45 : decode prog_9_method_49_code 45 = .ok (.bipush 14, 2) := by decide +kernel
theorem d_MO_splits_47 : decode prog_9_method_49_code 47 = .ok (.if_icmp .le 6, 3) := by decide +kernel
theorem d_MO_splits_50 : decode prog_9_method_49_code 50 = .ok (.bipush (-4), 2) := by decide +kernel
theorem d_MO_splits_52 : decode prog_9_method_49_code 52 = .ok (.ireturn, 1) := by decide +kernel
theorem d_MO_splits_53 : decode prog_9_method_49_code 53 = .ok (.aload_n 0, 1) := by decide +kernel
theorem d_MO_splits_54 : decode prog_9_method_49_code 54 = .ok (.invokevirtual 144, 3) := by decide +kernel
theorem d_MO_splits_57 : decode prog_9_method_49_code 57 = .ok (.iconst 0, 1) := by decide +kernel
theorem d_MO_splits_58 : decode prog_9_method_49_code 58 = .ok (.istore_n 3, 1) := by decide +kernel
theorem d_MO_splits_59 : decode prog_9_method_49_code 59 = .ok (.iload_n 2, 1) := by decide +kernel
theorem d_MO_splits_60 : decode prog_9_method_49_code 60 = .ok (.iconst 1, 1) := by decide +kernel
theorem d_MO_splits_61 : decode prog_9_method_49_code 61 = .ok (.if_icmp .ne 41, 3) := by decide +kernel
theorem d_MO_splits_64 : decode prog_9_method_49_code 64 = .ok (.iconst 0, 1) := by decide +kernel
theorem d_MO_splits_65 : decode prog_9_method_49_code 65 = .ok (.istore 4, 2) := by decide +kernel
theorem d_MO_splits_67 : decode prog_9_method_49_code 67 = .ok (.iload 4, 2) := by decide +kernel
theorem d_MO_splits_69 : decode prog_9_method_49_code 69 = .ok (.aload_n 0, 1) := by decide +kernel
theorem d_MO_splits_70 : decode prog_9_method_49_code 70 = .ok (.getfield 135, 3) := by decide +kernel
theorem d_MO_splits_73 : decode prog_9_method_49_code 73 = .ok (.if_icmp .ge 27, 3) := by decide +kernel
theorem d_MO_splits_76 : decode prog_9_method_49_code 76 = .ok (.iload_n 3, 1) := by decide +kernel
theorem d_MO_splits_77 : decode prog_9_method_49_code 77 = .ok (.aload_n 0, 1) := by decide +kernel
theorem d_MO_splits_78 : decode prog_9_method_49_code 78 = .ok (.getfield 35, 3) := by decide +kernel
theorem d_MO_splits_81 : decode prog_9_method_49_code 81 = .ok (.iload 4, 2) := by decide +kernel
theorem d_MO_splits_83 : decode prog_9_method_49_code 83 = .ok (.baload, 1) := by decide +kernel
theorem d_MO_splits_84 : decode prog_9_method_49_code 84 = .ok (.ifCond .eq 7, 3) := by decide +kernel
theorem d_MO_splits_87 : decode prog_9_method_49_code 87 = .ok (.iconst 1, 1) := by decide +kernel
theorem d_MO_splits_88 : decode prog_9_method_49_code 88 = .ok (.goto 4, 3) := by decide +kernel
theorem d_MO_splits_91 : decode prog_9_method_49_code 91 = .ok (.iconst 0, 1) := by decide +kernel
theorem d_MO_splits_92 : decode prog_9_method_49_code 92 = .ok (.iadd, 1) := by decide +kernel
theorem d_MO_splits_93 : decode prog_9_method_49_code 93 = .ok (.istore_n 3, 1) := by decide +kernel
theorem d_MO_splits_94 : decode prog_9_method_49_code 94 = .ok (.iinc 4 1, 3) := by decide +kernel
theorem d_MO_splits_97 : decode prog_9_method_49_code 97 = .ok (.goto (-30), 3) := by decide +kernel
theorem d_MO_splits_100 : decode prog_9_method_49_code 100 = .ok (.iload_n 3, 1) := by decide +kernel
theorem d_MO_splits_101 : decode prog_9_method_49_code 101 = .ok (.ireturn, 1) := by decide +kernel
theorem d_MO_splits_102 : decode prog_9_method_49_code 102 = .ok (.iconst (-1), 1) := by decide +kernel
theorem d_MO_splits_103 : decode prog_9_method_49_code 103 = .ok (.istore 4, 2) := by decide +kernel
theorem d_MO_splits_105 : decode prog_9_method_49_code 105 = .ok (.iconst 0, 1) := by decide +kernel
theorem d_MO_splits_106 : decode prog_9_method_49_code 106 = .ok (.istore 5, 2) := by decide +kernel
theorem d_MO_splits_108 : decode prog_9_method_49_code 108 = .ok (.iload 5, 2) := by decide +kernel
theorem d_MO_splits_110 : decode prog_9_method_49_code 110 = .ok (.aload_n 0, 1) := by decide +kernel
theorem d_MO_splits_111 : decode prog_9_method_49_code 111 = .ok (.getfield 132, 3) := by decide +kernel
theorem d_MO_splits_114 : decode prog_9_method_49_code 114 = .ok (.if_icmp .ge 60, 3) := by decide +kernel
theorem d_MO_splits_117 : decode prog_9_method_49_code 117 = .ok (.aload_n 0, 1) := by decide +kernel
theorem d_MO_splits_118 : decode prog_9_method_49_code 118 = .ok (.aload_n 0, 1) := by decide +kernel
theorem d_MO_splits_119 : decode prog_9_method_49_code 119 = .ok (.iload_n 1, 1) := by decide +kernel
theorem d_MO_splits_120 : decode prog_9_method_49_code 120 = .ok (.invokevirtual 147, 3) := by decide +kernel
theorem d_MO_splits_123 : decode prog_9_method_49_code 123 = .ok (.iload 5, 2) := by decide +kernel
theorem d_MO_splits_125 : decode prog_9_method_49_code 125 = .ok (.invokevirtual 150, 3) := by decide +kernel
theorem d_MO_splits_128 : decode prog_9_method_49_code 128 = .ok (.istore 6, 2) := by decide +kernel
theorem d_MO_splits_130 : decode prog_9_method_49_code 130 = .ok (.iload_n 3, 1) := by decide +kernel
theorem d_MO_splits_131 : decode prog_9_method_49_code 131 = .ok (.iload 6, 2) := by decide +kernel
theorem d_MO_splits_133 : decode prog_9_method_49_code 133 = .ok (.ifCond .eq 7, 3) := by decide +kernel
theorem d_MO_splits_136 : decode prog_9_method_49_code 136 = .ok (.iconst 1, 1) := by decide +kernel
theorem d_MO_splits_137 : decode prog_9_method_49_code 137 = .ok (.goto 4, 3) := by decide +kernel
theorem d_MO_splits_140 : decode prog_9_method_49_code 140 = .ok (.iconst 0, 1) := by decide +kernel
theorem d_MO_splits_141 : decode prog_9_method_49_code 141 = .ok (.iadd, 1) := by decide +kernel
theorem d_MO_splits_142 : decode prog_9_method_49_code 142 = .ok (.istore_n 3, 1) := by decide +kernel
theorem d_MO_splits_143 : decode prog_9_method_49_code 143 = .ok (.iload 6, 2) := by decide +kernel
theorem d_MO_splits_145 : decode prog_9_method_49_code 145 = .ok (.ifCond .eq 19, 3) := by decide +kernel
theorem d_MO_splits_148 : decode prog_9_method_49_code 148 = .ok (.iload 4, 2) := by decide +kernel
theorem d_MO_splits_150 : decode prog_9_method_49_code 150 = .ok (.iconst (-1), 1) := by decide +kernel
theorem d_MO_splits_151 : decode prog_9_method_49_code 151 = .ok (.if_icmp .ne 13, 3) := by decide +kernel
theorem d_MO_splits_154 : decode prog_9_method_49_code 154 = .ok (.aload_n 0, 1) := by decide +kernel
theorem d_MO_splits_155 : decode prog_9_method_49_code 155 = .ok (.getfield 29, 3) := by decide +kernel
theorem d_MO_splits_158 : decode prog_9_method_49_code 158 = .ok (.iload 5, 2) := by decide +kernel
theorem d_MO_splits_160 : decode prog_9_method_49_code 160 = .ok (.iaload, 1) := by decide +kernel
theorem d_MO_splits_161 : decode prog_9_method_49_code 161 = .ok (.goto 5, 3) := by decide +kernel
theorem d_MO_splits_164 : decode prog_9_method_49_code 164 = .ok (.iload 4, 2) := by decide +kernel
theorem d_MO_splits_166 : decode prog_9_method_49_code 166 = .ok (.istore 4, 2) := by decide +kernel
theorem d_MO_splits_168 : decode prog_9_method_49_code 168 = .ok (.iinc 5 1, 3) := by decide +kernel
theorem d_MO_splits_171 : decode prog_9_method_49_code 171 = .ok (.goto (-63), 3) := by decide +kernel
theorem d_MO_splits_174 : decode prog_9_method_49_code 174 = .ok (.iload_n 2, 1) := by decide +kernel
theorem d_MO_splits_175 : decode prog_9_method_49_code 175 = .ok (.iconst 2, 1) := by decide +kernel
theorem d_MO_splits_176 : decode prog_9_method_49_code 176 = .ok (.if_icmp .ne 7, 3) := by decide +kernel
theorem d_MO_splits_179 : decode prog_9_method_49_code 179 = .ok (.iload_n 3, 1) := by decide +kernel
theorem d_MO_splits_180 : decode prog_9_method_49_code 180 = .ok (.goto 5, 3) := by decide +kernel
theorem d_MO_splits_183 : decode prog_9_method_49_code 183 = .ok (.iload 4, 2) := by decide +kernel
theorem d_MO_splits_185 : decode prog_9_method_49_code 185 = .ok (.ireturn, 1) := by decide +kernel
set_option maxHeartbeats 4000000 in
set_option maxRecDepth 100000 in
theorem c_MO_splits_b (l : Launch) (dC : Nat → ClassId) (dI : Nat → Nat → Nat) (cI cJ cZ : ClassId) (o fF fG fT fN fW fO fB fS fD : Nat) (th be bz sz : Int32) (nd ar : Nat) (P : Nat → Bool) (x y : Int32) (har : ar ≤ 40) (hbad : (vd x ar && P x.toNatClampNeg) = false) : Met l ⟨"CutPointsModel", "splits", "(II)I"⟩ (Cond.code ⟨"CutPointsModel", "splits", "(II)I"⟩ prog_9_method_49_code 7 (some .int) :: TT) (rmk 2 43) (PM dC dI cI cJ cZ [.ref o, .int x, .int y] [(o, .inr (7, [.int th, .int (nI nd), .int (nI ar), .ref fF, .ref fG, .ref fT, .ref fN, .ref fW, .int be, .ref fO, .ref fB, .int bz, .ref fS, .ref fD, .int sz])), (fT, .inl (cZ, 41, .inl (bF P)))]) (va_Qi (S := Unit) (fun r u9 => r = -1) (fun u9 t9 => va_P (dC, dI) cls ([(o, .inr (7, [.int (nI 0), .int (nI nd), .int (nI ar), .ref fF, .ref fG, .ref fT, .ref fN, .ref fW, .int be, .ref fO, .ref fB, .int bz, .ref fS, .ref fD, .int sz])), (fT, .inl (cZ, 41, .inl (bF P)))]) t9.heap) (ow [(o, .inr (7, [.int th, .int (nI nd), .int (nI ar), .ref fF, .ref fG, .ref fT, .ref fN, .ref fW, .int be, .ref fO, .ref fB, .int bz, .ref fS, .ref fD, .int sz])), (fT, .inl (cZ, 41, .inl (bF P)))])) 0 0 (ow [(o, .inr (7, [.int th, .int (nI nd), .int (nI ar), .ref fF, .ref fG, .ref fT, .ref fN, .ref fW, .int be, .ref fO, .ref fB, .int bz, .ref fS, .ref fD, .int sz])), (fT, .inl (cZ, 41, .inl (bF P)))]) := by
  refine Met.ofW (cc := prog_9_method_49_code) (maxL := 7) (ret := (some .int)) (by decide) rfl ?_
  intro p e s m args below meth c s₁ BB9 hml hv
  obtain ⟨rfl, hP, hK, hD0⟩ := hv
  have hx := BB9.exec
  have hb := BB9.bytes
  have hr := BB9.returns
  have hts : ∀ w ∈ TT, w.before _ s = true := fun w h => atoms_spec (ws := (Cond.code ⟨"CutPointsModel", "splits", "(II)I"⟩ prog_9_method_49_code 7 (some .int) :: TT)) BB9.pre w (List.mem_cons_of_mem _ h)
  have hown : s.vm.findClass "CutPointsModel" = some m.cls := findClass_of_methodNamed BB9.named
  have hlocks := BB9.notSynchronized
  have hD := hD0.mine
  have hS : va_S (ow [(o, .inr (7, [.int th, .int (nI nd), .int (nI ar), .ref fF, .ref fG, .ref fT, .ref fN, .ref fW, .int be, .ref fO, .ref fB, .int bz, .ref fS, .ref fD, .int sz])), (fT, .inl (cZ, 41, .inl (bF P)))]) s.heap s.heap [] := va_S.rf
  have hl := lv_entry ([.ref o, .int x, .int y]) (n := 7) (Nat.le_of_ble_eq_true rfl)
  rw [lg_entry_eq]
  generalize (lg_sl ([.ref o, .int x, .int y]) ++ List.replicate (7 - (lg_sl ([.ref o, .int x, .int y])).length) Slot.unset).toArray = ls at hl ⊢
  have hl : lv_has ls 7 [(0, .ref o), (1, .int x), (2, .int y)] := hl
  refine lv_aload_n hx hb d_MO_splits_0 rfl (lv_at hl 0 rfl) ?_
  refine lv_iconst (v := (nI 0)) hx hb d_MO_splits_1 (by decide) ?_
  refine va_put (D := (dC, dI)) (ci := 7) (v := .int (nI 0)) (ty := .int) (C := R_MO) (T := F_MO) (N := 15) hx hb hts in_MO t_MO t_MO_ok n_MO hown hK.1 hP hD hS 0 rfl rfl 0 (by decide) (hts _ wfl_MO_38) (fun _ h9 => h9) rfl (by decide +kernel) rfl rfl (Nat.le_of_ble_eq_true rfl) d_MO_splits_2 (fun H locs hP hD hS => ?_)
  have hP : va_P (dC, dI) cls [(o, .inr (7, [.int (nI 0), .int (nI nd), .int (nI ar), .ref fF, .ref fG, .ref fT, .ref fN, .ref fW, .int be, .ref fO, .ref fB, .int bz, .ref fS, .ref fD, .int sz])), (fT, .inl (cZ, 41, .inl (bF P)))] H := hP
  have hD : va_D (ow [(o, .inr (7, [.int th, .int (nI nd), .int (nI ar), .ref fF, .ref fG, .ref fT, .ref fN, .ref fW, .int be, .ref fO, .ref fB, .int bz, .ref fS, .ref fD, .int sz])), (fT, .inl (cZ, 41, .inl (bF P)))]) [(o, .inr (7, [.int (nI 0), .int (nI nd), .int (nI ar), .ref fF, .ref fG, .ref fT, .ref fN, .ref fW, .int be, .ref fO, .ref fB, .int bz, .ref fS, .ref fD, .int sz])), (fT, .inl (cZ, 41, .inl (bF P)))] := hD
  refine lv_aload_n hx hb d_MO_splits_5 rfl (lv_at hl 0 rfl) ?_
  refine lv_iload_n hx hb d_MO_splits_6 rfl (lv_at hl 1 rfl) ?_
  refine vp_callSi (va_Run.run (k_V (n := 1) (C := R_MO) (rest := []) ⟨hx, hb, hml, hown, hts⟩ (c_MO_isThere l dC dI cI cJ cZ o fF fG fT fN fW fO fB fS fD (nI 0) be bz sz nd ar P x (by first | assumption | omega)) wml_MO_113 wim_MO_isThere wsel_MO_isThere wini_MO wcode_MO_isThere (by decide +kernel) ⟨Nat.le_of_ble_eq_true rfl, Nat.le_of_ble_eq_true rfl⟩ (preV_R (q := (R_MO, F_MO, 15)) (ci := 7) (q0 := 0) (hP.sub (ws' := [(o, .inr (7, [.int (nI 0), .int (nI nd), .int (nI ar), .ref fF, .ref fG, .ref fT, .ref fN, .ref fW, .int be, .ref fO, .ref fB, .int bz, .ref fS, .ref fD, .int sz])), (fT, .inl (cZ, 41, .inl (bF P)))]) [0, 1] rfl) hK rfl rfl) rfl hl.1 rfl (Nat.le_of_ble_eq_true rfl) d_MO_splits_7 ⟨Nat.zero_le _, Nat.zero_le _⟩)) (fun r_1 hr_2 => ?_)
  refine xe_i (y := (bI (vd x ar && P x.toNatClampNeg))) hr_2 ?_
  refine xe_i (y := (bI false)) (by rw [hbad]) ?_
  refine lv_if_ne (tgt := 15) hx hb d_MO_splits_10 (by decide) (fun c9 => absurd (by decide : ((bI false) : Int32) = 0) c9) (fun _ => ?_)
  refine lv_iconst (v := (-1)) hx hb d_MO_splits_13 (by decide) ?_
  exact W.iret (v := (-1)) hx hb hr (fun t9 ht9 _ => ⟨⟨_, (), rfl, rfl, by show va_P (dC, dI) cls _ t9.heap; rw [ht9]; exact hP⟩, hS.F ht9⟩) hS.2.2 d_MO_splits_14

set_option maxHeartbeats 4000000 in
set_option maxRecDepth 100000 in
theorem c_MO_arc_f (l : Launch) (dC : Nat → ClassId) (dI : Nat → Nat → Nat) (cI cJ cZ : ClassId) (o fF fG fT fN fW fO fB fS fD : Nat) (th be bz sz : Int32) (nd ar : Nat) (hnd14 : nd ≤ 14) (har : ar = 40) (a b : Nat) (ha : a < nd) (hb_ : b < nd) (hab : a ≠ b) : Met l ⟨"CutPointsModel", "arc", "(II)I"⟩ (Cond.code ⟨"CutPointsModel", "arc", "(II)I"⟩ prog_9_method_10_code 3 (some .int) :: TT) (rmk 2 43) (PM dC dI cI cJ cZ [.ref o, .int (nI a), .int (nI b)] [(o, .inr (7, [.int th, .int (nI nd), .int (nI ar), .ref fF, .ref fG, .ref fT, .ref fN, .ref fW, .int be, .ref fO, .ref fB, .int bz, .ref fS, .ref fD, .int sz]))]) (va_Qi (S := Unit) (fun r u9 => r = -4) (fun u9 t9 => va_P (dC, dI) cls ([(o, .inr (7, [.int (nI 0), .int (nI nd), .int (nI ar), .ref fF, .ref fG, .ref fT, .ref fN, .ref fW, .int be, .ref fO, .ref fB, .int bz, .ref fS, .ref fD, .int sz]))]) t9.heap) (ow [(o, .inr (7, [.int th, .int (nI nd), .int (nI ar), .ref fF, .ref fG, .ref fT, .ref fN, .ref fW, .int be, .ref fO, .ref fB, .int bz, .ref fS, .ref fD, .int sz]))])) 0 0 (ow [(o, .inr (7, [.int th, .int (nI nd), .int (nI ar), .ref fF, .ref fG, .ref fT, .ref fN, .ref fW, .int be, .ref fO, .ref fB, .int bz, .ref fS, .ref fD, .int sz]))]) := by
  refine Met.ofW (cc := prog_9_method_10_code) (maxL := 3) (ret := (some .int)) (by decide) rfl ?_
  intro p e s m args below meth c s₁ BB9 hml hv
  obtain ⟨rfl, hP, hK, hD0⟩ := hv
  have hx := BB9.exec
  have hb := BB9.bytes
  have hr := BB9.returns
  have hts : ∀ w ∈ TT, w.before _ s = true := fun w h => atoms_spec (ws := (Cond.code ⟨"CutPointsModel", "arc", "(II)I"⟩ prog_9_method_10_code 3 (some .int) :: TT)) BB9.pre w (List.mem_cons_of_mem _ h)
  have hown : s.vm.findClass "CutPointsModel" = some m.cls := findClass_of_methodNamed BB9.named
  have hlocks := BB9.notSynchronized
  have hD := hD0.mine
  have hS : va_S (ow [(o, .inr (7, [.int th, .int (nI nd), .int (nI ar), .ref fF, .ref fG, .ref fT, .ref fN, .ref fW, .int be, .ref fO, .ref fB, .int bz, .ref fS, .ref fD, .int sz]))]) s.heap s.heap [] := va_S.rf
  have hl := lv_entry ([.ref o, .int (nI a), .int (nI b)]) (n := 3) (Nat.le_of_ble_eq_true rfl)
  rw [lg_entry_eq]
  generalize (lg_sl ([.ref o, .int (nI a), .int (nI b)]) ++ List.replicate (3 - (lg_sl ([.ref o, .int (nI a), .int (nI b)])).length) Slot.unset).toArray = ls at hl ⊢
  have hl : lv_has ls 3 [(0, .ref o), (1, .int (nI a)), (2, .int (nI b))] := hl
  refine lv_aload_n hx hb d_MO_arc_0 rfl (lv_at hl 0 rfl) ?_
  refine lv_iconst (v := (nI 0)) hx hb d_MO_arc_1 (by decide) ?_
  refine va_put (D := (dC, dI)) (ci := 7) (v := .int (nI 0)) (ty := .int) (C := R_MO) (T := F_MO) (N := 15) hx hb hts in_MO t_MO t_MO_ok n_MO hown hK.1 hP hD hS 0 rfl rfl 0 (by decide) (hts _ wfl_MO_38) (fun _ h9 => h9) rfl (by decide +kernel) rfl rfl (Nat.le_of_ble_eq_true rfl) d_MO_arc_2 (fun H locs hP hD hS => ?_)
  have hP : va_P (dC, dI) cls [(o, .inr (7, [.int (nI 0), .int (nI nd), .int (nI ar), .ref fF, .ref fG, .ref fT, .ref fN, .ref fW, .int be, .ref fO, .ref fB, .int bz, .ref fS, .ref fD, .int sz]))] H := hP
  have hD : va_D (ow [(o, .inr (7, [.int th, .int (nI nd), .int (nI ar), .ref fF, .ref fG, .ref fT, .ref fN, .ref fW, .int be, .ref fO, .ref fB, .int bz, .ref fS, .ref fD, .int sz]))]) [(o, .inr (7, [.int (nI 0), .int (nI nd), .int (nI ar), .ref fF, .ref fG, .ref fT, .ref fN, .ref fW, .int be, .ref fO, .ref fB, .int bz, .ref fS, .ref fD, .int sz]))] := hD
  refine lv_aload_n hx hb d_MO_arc_5 rfl (lv_at hl 0 rfl) ?_
  refine lv_iload_n hx hb d_MO_arc_6 rfl (lv_at hl 1 rfl) ?_
  refine vp_callSi (va_Run.run (k_V (n := 1) (C := R_MO) (rest := []) ⟨hx, hb, hml, hown, hts⟩ (c_MO_isNode l dC dI cI cJ cZ o fF fG fT fN fW fO fB fS fD (nI 0) be bz sz nd ar (nI a) (by first | assumption | omega)) wml_MO_52 wim_MO_isNode wsel_MO_isNode wini_MO wcode_MO_isNode (by decide +kernel) ⟨Nat.le_of_ble_eq_true rfl, Nat.le_of_ble_eq_true rfl⟩ (preV_R (q := (R_MO, F_MO, 15)) (ci := 7) (q0 := 0) (hP.sub (ws' := [(o, .inr (7, [.int (nI 0), .int (nI nd), .int (nI ar), .ref fF, .ref fG, .ref fT, .ref fN, .ref fW, .int be, .ref fO, .ref fB, .int bz, .ref fS, .ref fD, .int sz]))]) [0] rfl) hK rfl rfl) rfl hl.1 rfl (Nat.le_of_ble_eq_true rfl) d_MO_arc_7 ⟨Nat.zero_le _, Nat.zero_le _⟩)) (fun r_1 hr_2 => ?_)
  refine xe_i (y := (bI (vd (nI a) nd))) hr_2 ?_
  refine xe_i (y := (bI true)) (by rw [vd_tt (by omega) ha]) ?_
  refine lv_if_eq (tgt := 21) hx hb d_MO_arc_10 (by decide) (fun c9 => absurd c9 (by decide : ¬ ((bI true) : Int32) = 0)) (fun _ => ?_)
  refine lv_aload_n hx hb d_MO_arc_13 rfl (lv_at hl 0 rfl) ?_
  refine lv_iload_n hx hb d_MO_arc_14 rfl (lv_at hl 2 rfl) ?_
  refine vp_callSi (va_Run.run (k_V (n := 1) (C := R_MO) (rest := []) ⟨hx, hb, hml, hown, hts⟩ (c_MO_isNode l dC dI cI cJ cZ o fF fG fT fN fW fO fB fS fD (nI 0) be bz sz nd ar (nI b) (by first | assumption | omega)) wml_MO_52 wim_MO_isNode wsel_MO_isNode wini_MO wcode_MO_isNode (by decide +kernel) ⟨Nat.le_of_ble_eq_true rfl, Nat.le_of_ble_eq_true rfl⟩ (preV_R (q := (R_MO, F_MO, 15)) (ci := 7) (q0 := 0) (hP.sub (ws' := [(o, .inr (7, [.int (nI 0), .int (nI nd), .int (nI ar), .ref fF, .ref fG, .ref fT, .ref fN, .ref fW, .int be, .ref fO, .ref fB, .int bz, .ref fS, .ref fD, .int sz]))]) [0] rfl) hK rfl rfl) rfl hl.1 rfl (Nat.le_of_ble_eq_true rfl) d_MO_arc_15 ⟨Nat.zero_le _, Nat.zero_le _⟩)) (fun r_4 hr_5 => ?_)
  refine xe_i (y := (bI (vd (nI b) nd))) hr_5 ?_
  refine xe_i (y := (bI true)) (by rw [vd_tt (by omega) hb_]) ?_
  refine lv_if_ne (tgt := 23) hx hb d_MO_arc_18 (by decide) (fun _ => ?_) (fun c9 => absurd c9 (by decide : ¬ ((bI true) : Int32) = 0))
  refine lv_iload_n hx hb d_MO_arc_23 rfl (lv_at hl 1 rfl) ?_
  refine lv_iload_n hx hb d_MO_arc_24 rfl (lv_at hl 2 rfl) ?_
  refine x_cmp_ne (a := a) (b := b) (tgt := 31) hx hb (by omega) (by omega) d_MO_arc_25 (by decide) (fun c_7 => ?_) (fun c_7 => ?_)
  · skip
    refine lv_aload_n hx hb d_MO_arc_31 rfl (lv_at hl 0 rfl) ?_
    refine va_get (D := (dC, dI)) (ci := 7) (v := .int (nI ar)) (C := R_MO) (T := F_MO) (N := 15) hx hb hts in_MO hown hK.1 hP 0 rfl rfl 2 (by decide) (hts _ wfl_MO_45) (fun _ h9 => h9) rfl d_MO_arc_32 ?_
    refine lv_bipush (v := (nI 40)) hx hb d_MO_arc_35 (by decide) ?_
    refine x_cmp_ne (a := ar) (b := 40) (tgt := 43) hx hb (by omega) (by omega) d_MO_arc_37 (by decide) (fun c_8 => ?_) (fun c_8 => ?_)
    · skip
      omega
    · skip
      refine lv_bipush (v := (-4)) hx hb d_MO_arc_40 (by decide) ?_
      exact W.iret (v := (-4)) hx hb hr (fun t9 ht9 _ => ⟨⟨_, (), rfl, rfl, by show va_P (dC, dI) cls _ t9.heap; rw [ht9]; exact hP⟩, hS.F ht9⟩) hS.2.2 d_MO_arc_42
  · skip
    exact absurd c_7 hab

set_option maxHeartbeats 4000000 in
set_option maxRecDepth 100000 in
theorem c_MO_arc_k (l : Launch) (dC : Nat → ClassId) (dI : Nat → Nat → Nat) (cI cJ cZ : ClassId) (o fF fG fT fN fW fO fB fS fD : Nat) (th be bz sz : Int32) (nd ar : Nat) (F G : Nat → Nat) (P : Nat → Bool) (hnd14 : nd ≤ 14) (har : ar < 40) (a b : Nat) (ha : a < nd) (hb_ : b < nd) (hab : a ≠ b) : Met l ⟨"CutPointsModel", "arc", "(II)I"⟩ (Cond.code ⟨"CutPointsModel", "arc", "(II)I"⟩ prog_9_method_10_code 3 (some .int) :: TT) (rmk 2 43) (PM dC dI cI cJ cZ [.ref o, .int (nI a), .int (nI b)] [(o, .inr (7, [.int th, .int (nI nd), .int (nI ar), .ref fF, .ref fG, .ref fT, .ref fN, .ref fW, .int be, .ref fO, .ref fB, .int bz, .ref fS, .ref fD, .int sz])), (fF, .inl (cI, 41, .inl (nF F))), (fG, .inl (cI, 41, .inl (nF G))), (fT, .inl (cZ, 41, .inl (bF P)))]) (va_Qi (S := Unit) (fun r u9 => r = nI ar) (fun u9 t9 => va_P (dC, dI) cls ([(o, .inr (7, [.int (nI 0), .int (nI nd), .int (nI (ar + 1)), .ref fF, .ref fG, .ref fT, .ref fN, .ref fW, .int be, .ref fO, .ref fB, .int bz, .ref fS, .ref fD, .int sz])), (fF, .inl (cI, 41, .inl (nF (va_up F ar a)))), (fG, .inl (cI, 41, .inl (nF (va_up G ar b)))), (fT, .inl (cZ, 41, .inl (bF (va_up P ar true))))]) t9.heap) (ow [(o, .inr (7, [.int th, .int (nI nd), .int (nI ar), .ref fF, .ref fG, .ref fT, .ref fN, .ref fW, .int be, .ref fO, .ref fB, .int bz, .ref fS, .ref fD, .int sz])), (fF, .inl (cI, 41, .inl (nF F))), (fG, .inl (cI, 41, .inl (nF G))), (fT, .inl (cZ, 41, .inl (bF P)))])) 0 0 (ow [(o, .inr (7, [.int th, .int (nI nd), .int (nI ar), .ref fF, .ref fG, .ref fT, .ref fN, .ref fW, .int be, .ref fO, .ref fB, .int bz, .ref fS, .ref fD, .int sz])), (fF, .inl (cI, 41, .inl (nF F))), (fG, .inl (cI, 41, .inl (nF G))), (fT, .inl (cZ, 41, .inl (bF P)))]) := by
  refine Met.ofW (cc := prog_9_method_10_code) (maxL := 3) (ret := (some .int)) (by decide) rfl ?_
  intro p e s m args below meth c s₁ BB9 hml hv
  obtain ⟨rfl, hP, hK, hD0⟩ := hv
  have hx := BB9.exec
  have hb := BB9.bytes
  have hr := BB9.returns
  have hts : ∀ w ∈ TT, w.before _ s = true := fun w h => atoms_spec (ws := (Cond.code ⟨"CutPointsModel", "arc", "(II)I"⟩ prog_9_method_10_code 3 (some .int) :: TT)) BB9.pre w (List.mem_cons_of_mem _ h)
  have hown : s.vm.findClass "CutPointsModel" = some m.cls := findClass_of_methodNamed BB9.named
  have hlocks := BB9.notSynchronized
  have hD := hD0.mine
  have hS : va_S (ow [(o, .inr (7, [.int th, .int (nI nd), .int (nI ar), .ref fF, .ref fG, .ref fT, .ref fN, .ref fW, .int be, .ref fO, .ref fB, .int bz, .ref fS, .ref fD, .int sz])), (fF, .inl (cI, 41, .inl (nF F))), (fG, .inl (cI, 41, .inl (nF G))), (fT, .inl (cZ, 41, .inl (bF P)))]) s.heap s.heap [] := va_S.rf
  have hl := lv_entry ([.ref o, .int (nI a), .int (nI b)]) (n := 3) (Nat.le_of_ble_eq_true rfl)
  rw [lg_entry_eq]
  generalize (lg_sl ([.ref o, .int (nI a), .int (nI b)]) ++ List.replicate (3 - (lg_sl ([.ref o, .int (nI a), .int (nI b)])).length) Slot.unset).toArray = ls at hl ⊢
  have hl : lv_has ls 3 [(0, .ref o), (1, .int (nI a)), (2, .int (nI b))] := hl
  refine lv_aload_n hx hb d_MO_arc_0 rfl (lv_at hl 0 rfl) ?_
  refine lv_iconst (v := (nI 0)) hx hb d_MO_arc_1 (by decide) ?_
  refine va_put (D := (dC, dI)) (ci := 7) (v := .int (nI 0)) (ty := .int) (C := R_MO) (T := F_MO) (N := 15) hx hb hts in_MO t_MO t_MO_ok n_MO hown hK.1 hP hD hS 0 rfl rfl 0 (by decide) (hts _ wfl_MO_38) (fun _ h9 => h9) rfl (by decide +kernel) rfl rfl (Nat.le_of_ble_eq_true rfl) d_MO_arc_2 (fun H locs hP hD hS => ?_)
  have hP : va_P (dC, dI) cls [(o, .inr (7, [.int (nI 0), .int (nI nd), .int (nI ar), .ref fF, .ref fG, .ref fT, .ref fN, .ref fW, .int be, .ref fO, .ref fB, .int bz, .ref fS, .ref fD, .int sz])), (fF, .inl (cI, 41, .inl (nF F))), (fG, .inl (cI, 41, .inl (nF G))), (fT, .inl (cZ, 41, .inl (bF P)))] H := hP
  have hD : va_D (ow [(o, .inr (7, [.int th, .int (nI nd), .int (nI ar), .ref fF, .ref fG, .ref fT, .ref fN, .ref fW, .int be, .ref fO, .ref fB, .int bz, .ref fS, .ref fD, .int sz])), (fF, .inl (cI, 41, .inl (nF F))), (fG, .inl (cI, 41, .inl (nF G))), (fT, .inl (cZ, 41, .inl (bF P)))]) [(o, .inr (7, [.int (nI 0), .int (nI nd), .int (nI ar), .ref fF, .ref fG, .ref fT, .ref fN, .ref fW, .int be, .ref fO, .ref fB, .int bz, .ref fS, .ref fD, .int sz])), (fF, .inl (cI, 41, .inl (nF F))), (fG, .inl (cI, 41, .inl (nF G))), (fT, .inl (cZ, 41, .inl (bF P)))] := hD
  refine lv_aload_n hx hb d_MO_arc_5 rfl (lv_at hl 0 rfl) ?_
  refine lv_iload_n hx hb d_MO_arc_6 rfl (lv_at hl 1 rfl) ?_
  refine vp_callSi (va_Run.run (k_V (n := 1) (C := R_MO) (rest := []) ⟨hx, hb, hml, hown, hts⟩ (c_MO_isNode l dC dI cI cJ cZ o fF fG fT fN fW fO fB fS fD (nI 0) be bz sz nd ar (nI a) (by first | assumption | omega)) wml_MO_52 wim_MO_isNode wsel_MO_isNode wini_MO wcode_MO_isNode (by decide +kernel) ⟨Nat.le_of_ble_eq_true rfl, Nat.le_of_ble_eq_true rfl⟩ (preV_R (q := (R_MO, F_MO, 15)) (ci := 7) (q0 := 0) (hP.sub (ws' := [(o, .inr (7, [.int (nI 0), .int (nI nd), .int (nI ar), .ref fF, .ref fG, .ref fT, .ref fN, .ref fW, .int be, .ref fO, .ref fB, .int bz, .ref fS, .ref fD, .int sz]))]) [0] rfl) hK rfl rfl) rfl hl.1 rfl (Nat.le_of_ble_eq_true rfl) d_MO_arc_7 ⟨Nat.zero_le _, Nat.zero_le _⟩)) (fun r_1 hr_2 => ?_)
  refine xe_i (y := (bI (vd (nI a) nd))) hr_2 ?_
  refine xe_i (y := (bI true)) (by rw [vd_tt (by omega) ha]) ?_
  refine lv_if_eq (tgt := 21) hx hb d_MO_arc_10 (by decide) (fun c9 => absurd c9 (by decide : ¬ ((bI true) : Int32) = 0)) (fun _ => ?_)
  refine lv_aload_n hx hb d_MO_arc_13 rfl (lv_at hl 0 rfl) ?_
  refine lv_iload_n hx hb d_MO_arc_14 rfl (lv_at hl 2 rfl) ?_
  refine vp_callSi (va_Run.run (k_V (n := 1) (C := R_MO) (rest := []) ⟨hx, hb, hml, hown, hts⟩ (c_MO_isNode l dC dI cI cJ cZ o fF fG fT fN fW fO fB fS fD (nI 0) be bz sz nd ar (nI b) (by first | assumption | omega)) wml_MO_52 wim_MO_isNode wsel_MO_isNode wini_MO wcode_MO_isNode (by decide +kernel) ⟨Nat.le_of_ble_eq_true rfl, Nat.le_of_ble_eq_true rfl⟩ (preV_R (q := (R_MO, F_MO, 15)) (ci := 7) (q0 := 0) (hP.sub (ws' := [(o, .inr (7, [.int (nI 0), .int (nI nd), .int (nI ar), .ref fF, .ref fG, .ref fT, .ref fN, .ref fW, .int be, .ref fO, .ref fB, .int bz, .ref fS, .ref fD, .int sz]))]) [0] rfl) hK rfl rfl) rfl hl.1 rfl (Nat.le_of_ble_eq_true rfl) d_MO_arc_15 ⟨Nat.zero_le _, Nat.zero_le _⟩)) (fun r_4 hr_5 => ?_)
  refine xe_i (y := (bI (vd (nI b) nd))) hr_5 ?_
  refine xe_i (y := (bI true)) (by rw [vd_tt (by omega) hb_]) ?_
  refine lv_if_ne (tgt := 23) hx hb d_MO_arc_18 (by decide) (fun _ => ?_) (fun c9 => absurd c9 (by decide : ¬ ((bI true) : Int32) = 0))
  refine lv_iload_n hx hb d_MO_arc_23 rfl (lv_at hl 1 rfl) ?_
  refine lv_iload_n hx hb d_MO_arc_24 rfl (lv_at hl 2 rfl) ?_
  refine x_cmp_ne (a := a) (b := b) (tgt := 31) hx hb (by omega) (by omega) d_MO_arc_25 (by decide) (fun c_7 => ?_) (fun c_7 => ?_)
  · skip
    refine lv_aload_n hx hb d_MO_arc_31 rfl (lv_at hl 0 rfl) ?_
    refine va_get (D := (dC, dI)) (ci := 7) (v := .int (nI ar)) (C := R_MO) (T := F_MO) (N := 15) hx hb hts in_MO hown hK.1 hP 0 rfl rfl 2 (by decide) (hts _ wfl_MO_45) (fun _ h9 => h9) rfl d_MO_arc_32 ?_
    refine lv_bipush (v := (nI 40)) hx hb d_MO_arc_35 (by decide) ?_
    refine x_cmp_ne (a := ar) (b := 40) (tgt := 43) hx hb (by omega) (by omega) d_MO_arc_37 (by decide) (fun c_8 => ?_) (fun c_8 => ?_)
    · skip
      refine lv_aload_n hx hb d_MO_arc_43 rfl (lv_at hl 0 rfl) ?_
      refine va_get (D := (dC, dI)) (ci := 7) (v := .ref fF) (C := R_MO) (T := F_MO) (N := 15) hx hb hts in_MO hown hK.1 hP 0 rfl rfl 3 (by decide) (hts _ wfl_MO_7) (fun _ h9 => h9) rfl d_MO_arc_44 ?_
      refine lv_aload_n hx hb d_MO_arc_47 rfl (lv_at hl 0 rfl) ?_
      refine va_get (D := (dC, dI)) (ci := 7) (v := .int (nI ar)) (C := R_MO) (T := F_MO) (N := 15) hx hb hts in_MO hown hK.1 hP 0 rfl rfl 2 (by decide) (hts _ wfl_MO_45) (fun _ h9 => h9) rfl d_MO_arc_48 ?_
      refine lv_iload_n hx hb d_MO_arc_51 rfl (lv_at hl 1 rfl) ?_
      refine x_iast (g := (nF (va_up F ar a))) hx hb hK.1 hP hD hS 1 0 rfl rfl (nF_up _ _ _) (by omega) (by omega) d_MO_arc_52 (fun H locs hP hD hS => ?_)
      have hP : va_P (dC, dI) cls [(o, .inr (7, [.int (nI 0), .int (nI nd), .int (nI ar), .ref fF, .ref fG, .ref fT, .ref fN, .ref fW, .int be, .ref fO, .ref fB, .int bz, .ref fS, .ref fD, .int sz])), (fF, .inl (cI, 41, .inl (nF (va_up F ar a)))), (fG, .inl (cI, 41, .inl (nF G))), (fT, .inl (cZ, 41, .inl (bF P)))] H := hP
      have hD : va_D (ow [(o, .inr (7, [.int th, .int (nI nd), .int (nI ar), .ref fF, .ref fG, .ref fT, .ref fN, .ref fW, .int be, .ref fO, .ref fB, .int bz, .ref fS, .ref fD, .int sz])), (fF, .inl (cI, 41, .inl (nF F))), (fG, .inl (cI, 41, .inl (nF G))), (fT, .inl (cZ, 41, .inl (bF P)))]) [(o, .inr (7, [.int (nI 0), .int (nI nd), .int (nI ar), .ref fF, .ref fG, .ref fT, .ref fN, .ref fW, .int be, .ref fO, .ref fB, .int bz, .ref fS, .ref fD, .int sz])), (fF, .inl (cI, 41, .inl (nF (va_up F ar a)))), (fG, .inl (cI, 41, .inl (nF G))), (fT, .inl (cZ, 41, .inl (bF P)))] := hD
      refine lv_aload_n hx hb d_MO_arc_53 rfl (lv_at hl 0 rfl) ?_
      refine va_get (D := (dC, dI)) (ci := 7) (v := .ref fG) (C := R_MO) (T := F_MO) (N := 15) hx hb hts in_MO hown hK.1 hP 0 rfl rfl 4 (by decide) (hts _ wfl_MO_13) (fun _ h9 => h9) rfl d_MO_arc_54 ?_
      refine lv_aload_n hx hb d_MO_arc_57 rfl (lv_at hl 0 rfl) ?_
      refine va_get (D := (dC, dI)) (ci := 7) (v := .int (nI ar)) (C := R_MO) (T := F_MO) (N := 15) hx hb hts in_MO hown hK.1 hP 0 rfl rfl 2 (by decide) (hts _ wfl_MO_45) (fun _ h9 => h9) rfl d_MO_arc_58 ?_
      refine lv_iload_n hx hb d_MO_arc_61 rfl (lv_at hl 2 rfl) ?_
      refine x_iast (g := (nF (va_up G ar b))) hx hb hK.1 hP hD hS 2 0 rfl rfl (nF_up _ _ _) (by omega) (by omega) d_MO_arc_62 (fun H locs hP hD hS => ?_)
      have hP : va_P (dC, dI) cls [(o, .inr (7, [.int (nI 0), .int (nI nd), .int (nI ar), .ref fF, .ref fG, .ref fT, .ref fN, .ref fW, .int be, .ref fO, .ref fB, .int bz, .ref fS, .ref fD, .int sz])), (fF, .inl (cI, 41, .inl (nF (va_up F ar a)))), (fG, .inl (cI, 41, .inl (nF (va_up G ar b)))), (fT, .inl (cZ, 41, .inl (bF P)))] H := hP
      have hD : va_D (ow [(o, .inr (7, [.int th, .int (nI nd), .int (nI ar), .ref fF, .ref fG, .ref fT, .ref fN, .ref fW, .int be, .ref fO, .ref fB, .int bz, .ref fS, .ref fD, .int sz])), (fF, .inl (cI, 41, .inl (nF F))), (fG, .inl (cI, 41, .inl (nF G))), (fT, .inl (cZ, 41, .inl (bF P)))]) [(o, .inr (7, [.int (nI 0), .int (nI nd), .int (nI ar), .ref fF, .ref fG, .ref fT, .ref fN, .ref fW, .int be, .ref fO, .ref fB, .int bz, .ref fS, .ref fD, .int sz])), (fF, .inl (cI, 41, .inl (nF (va_up F ar a)))), (fG, .inl (cI, 41, .inl (nF (va_up G ar b)))), (fT, .inl (cZ, 41, .inl (bF P)))] := hD
      refine lv_aload_n hx hb d_MO_arc_63 rfl (lv_at hl 0 rfl) ?_
      refine va_get (D := (dC, dI)) (ci := 7) (v := .ref fT) (C := R_MO) (T := F_MO) (N := 15) hx hb hts in_MO hown hK.1 hP 0 rfl rfl 5 (by decide) (hts _ wfl_MO_16) (fun _ h9 => h9) rfl d_MO_arc_64 ?_
      refine lv_aload_n hx hb d_MO_arc_67 rfl (lv_at hl 0 rfl) ?_
      refine va_get (D := (dC, dI)) (ci := 7) (v := .int (nI ar)) (C := R_MO) (T := F_MO) (N := 15) hx hb hts in_MO hown hK.1 hP 0 rfl rfl 2 (by decide) (hts _ wfl_MO_45) (fun _ h9 => h9) rfl d_MO_arc_68 ?_
      refine lv_iconst (v := (nI 1)) hx hb d_MO_arc_71 (by decide) ?_
      refine xe_i (y := bI true) rfl ?_
      refine x_zast (g := (bF (va_up P ar true))) hx hb hK.1 hP hD hS 3 2 rfl rfl (bF_up _ _ _) (by omega) (by omega) d_MO_arc_72 (fun H locs hP hD hS => ?_)
      have hP : va_P (dC, dI) cls [(o, .inr (7, [.int (nI 0), .int (nI nd), .int (nI ar), .ref fF, .ref fG, .ref fT, .ref fN, .ref fW, .int be, .ref fO, .ref fB, .int bz, .ref fS, .ref fD, .int sz])), (fF, .inl (cI, 41, .inl (nF (va_up F ar a)))), (fG, .inl (cI, 41, .inl (nF (va_up G ar b)))), (fT, .inl (cZ, 41, .inl (bF (va_up P ar true))))] H := hP
      have hD : va_D (ow [(o, .inr (7, [.int th, .int (nI nd), .int (nI ar), .ref fF, .ref fG, .ref fT, .ref fN, .ref fW, .int be, .ref fO, .ref fB, .int bz, .ref fS, .ref fD, .int sz])), (fF, .inl (cI, 41, .inl (nF F))), (fG, .inl (cI, 41, .inl (nF G))), (fT, .inl (cZ, 41, .inl (bF P)))]) [(o, .inr (7, [.int (nI 0), .int (nI nd), .int (nI ar), .ref fF, .ref fG, .ref fT, .ref fN, .ref fW, .int be, .ref fO, .ref fB, .int bz, .ref fS, .ref fD, .int sz])), (fF, .inl (cI, 41, .inl (nF (va_up F ar a)))), (fG, .inl (cI, 41, .inl (nF (va_up G ar b)))), (fT, .inl (cZ, 41, .inl (bF (va_up P ar true))))] := hD
      refine lv_aload_n hx hb d_MO_arc_73 rfl (lv_at hl 0 rfl) ?_
      refine lv_dup hx hb d_MO_arc_74 rfl ?_
      refine va_get (D := (dC, dI)) (ci := 7) (v := .int (nI ar)) (C := R_MO) (T := F_MO) (N := 15) hx hb hts in_MO hown hK.1 hP 0 rfl rfl 2 (by decide) (hts _ wfl_MO_45) (fun _ h9 => h9) rfl d_MO_arc_75 ?_
      refine lv_iconst (v := (nI 1)) hx hb d_MO_arc_78 (by decide) ?_
      refine lv_iadd hx hb d_MO_arc_79 ?_
      refine xe_i (nI_add _ _) ?_
      refine va_put (D := (dC, dI)) (ci := 7) (v := .int (nI (ar + 1))) (ty := .int) (C := R_MO) (T := F_MO) (N := 15) hx hb hts in_MO t_MO t_MO_ok n_MO hown hK.1 hP hD hS 0 rfl rfl 2 (by decide) (hts _ wfl_MO_45) (fun _ h9 => h9) rfl (by decide +kernel) rfl rfl (Nat.le_of_ble_eq_true rfl) d_MO_arc_80 (fun H locs hP hD hS => ?_)
      have hP : va_P (dC, dI) cls [(o, .inr (7, [.int (nI 0), .int (nI nd), .int (nI (ar + 1)), .ref fF, .ref fG, .ref fT, .ref fN, .ref fW, .int be, .ref fO, .ref fB, .int bz, .ref fS, .ref fD, .int sz])), (fF, .inl (cI, 41, .inl (nF (va_up F ar a)))), (fG, .inl (cI, 41, .inl (nF (va_up G ar b)))), (fT, .inl (cZ, 41, .inl (bF (va_up P ar true))))] H := hP
      have hD : va_D (ow [(o, .inr (7, [.int th, .int (nI nd), .int (nI ar), .ref fF, .ref fG, .ref fT, .ref fN, .ref fW, .int be, .ref fO, .ref fB, .int bz, .ref fS, .ref fD, .int sz])), (fF, .inl (cI, 41, .inl (nF F))), (fG, .inl (cI, 41, .inl (nF G))), (fT, .inl (cZ, 41, .inl (bF P)))]) [(o, .inr (7, [.int (nI 0), .int (nI nd), .int (nI (ar + 1)), .ref fF, .ref fG, .ref fT, .ref fN, .ref fW, .int be, .ref fO, .ref fB, .int bz, .ref fS, .ref fD, .int sz])), (fF, .inl (cI, 41, .inl (nF (va_up F ar a)))), (fG, .inl (cI, 41, .inl (nF (va_up G ar b)))), (fT, .inl (cZ, 41, .inl (bF (va_up P ar true))))] := hD
      refine lv_aload_n hx hb d_MO_arc_83 rfl (lv_at hl 0 rfl) ?_
      refine va_get (D := (dC, dI)) (ci := 7) (v := .int (nI (ar + 1))) (C := R_MO) (T := F_MO) (N := 15) hx hb hts in_MO hown hK.1 hP 0 rfl rfl 2 (by decide) (hts _ wfl_MO_45) (fun _ h9 => h9) rfl d_MO_arc_84 ?_
      refine lv_iconst (v := (nI 1)) hx hb d_MO_arc_87 (by decide) ?_
      refine lv_isub hx hb d_MO_arc_88 ?_
      refine xe_i (pk_sub (by omega)) ?_
      exact W.iret (v := (nI ((ar + 1) - 1))) hx hb hr (fun t9 ht9 _ => ⟨⟨_, (), rfl, rfl, by show va_P (dC, dI) cls _ t9.heap; rw [ht9]; exact hP⟩, hS.F ht9⟩) hS.2.2 d_MO_arc_89
    · skip
      omega
  · skip
    exact absurd c_7 hab

set_option maxHeartbeats 4000000 in
set_option maxRecDepth 100000 in
theorem c_MO_turn_k (l : Launch) (dC : Nat → ClassId) (dI : Nat → Nat → Nat) (cI cJ cZ : ClassId) (o fF fG fT fN fW fO fB fS fD : Nat) (th be bz sz : Int32) (nd ar : Nat) (P : Nat → Bool) (har : ar ≤ 40) (x : Nat) (hxa : x < ar) : Met l ⟨"CutPointsModel", "turn", "(I)I"⟩ (Cond.code ⟨"CutPointsModel", "turn", "(I)I"⟩ prog_9_method_11_code 2 (some .int) :: TT) (rmk 1 22) (PM dC dI cI cJ cZ [.ref o, .int (nI x)] [(o, .inr (7, [.int th, .int (nI nd), .int (nI ar), .ref fF, .ref fG, .ref fT, .ref fN, .ref fW, .int be, .ref fO, .ref fB, .int bz, .ref fS, .ref fD, .int sz])), (fT, .inl (cZ, 41, .inl (bF P)))]) (va_Qi (S := Nat → Bool) (fun r u9 => r = bI (!P x) ∧ u9 = va_up P x (!P x)) (fun u9 t9 => va_P (dC, dI) cls ([(o, .inr (7, [.int (nI 0), .int (nI nd), .int (nI ar), .ref fF, .ref fG, .ref fT, .ref fN, .ref fW, .int be, .ref fO, .ref fB, .int bz, .ref fS, .ref fD, .int sz])), (fT, .inl (cZ, 41, .inl (bF u9)))]) t9.heap) (ow [(o, .inr (7, [.int th, .int (nI nd), .int (nI ar), .ref fF, .ref fG, .ref fT, .ref fN, .ref fW, .int be, .ref fO, .ref fB, .int bz, .ref fS, .ref fD, .int sz])), (fT, .inl (cZ, 41, .inl (bF P)))])) 0 0 (ow [(o, .inr (7, [.int th, .int (nI nd), .int (nI ar), .ref fF, .ref fG, .ref fT, .ref fN, .ref fW, .int be, .ref fO, .ref fB, .int bz, .ref fS, .ref fD, .int sz])), (fT, .inl (cZ, 41, .inl (bF P)))]) := by
  refine Met.ofW (cc := prog_9_method_11_code) (maxL := 2) (ret := (some .int)) (by decide) rfl ?_
  intro p e s m args below meth c s₁ BB9 hml hv
  obtain ⟨rfl, hP, hK, hD0⟩ := hv
  have hx := BB9.exec
  have hb := BB9.bytes
  have hr := BB9.returns
  have hts : ∀ w ∈ TT, w.before _ s = true := fun w h => atoms_spec (ws := (Cond.code ⟨"CutPointsModel", "turn", "(I)I"⟩ prog_9_method_11_code 2 (some .int) :: TT)) BB9.pre w (List.mem_cons_of_mem _ h)
  have hown : s.vm.findClass "CutPointsModel" = some m.cls := findClass_of_methodNamed BB9.named
  have hlocks := BB9.notSynchronized
  have hD := hD0.mine
  have hS : va_S (ow [(o, .inr (7, [.int th, .int (nI nd), .int (nI ar), .ref fF, .ref fG, .ref fT, .ref fN, .ref fW, .int be, .ref fO, .ref fB, .int bz, .ref fS, .ref fD, .int sz])), (fT, .inl (cZ, 41, .inl (bF P)))]) s.heap s.heap [] := va_S.rf
  have hl := lv_entry ([.ref o, .int (nI x)]) (n := 2) (Nat.le_of_ble_eq_true rfl)
  rw [lg_entry_eq]
  generalize (lg_sl ([.ref o, .int (nI x)]) ++ List.replicate (2 - (lg_sl ([.ref o, .int (nI x)])).length) Slot.unset).toArray = ls at hl ⊢
  have hl : lv_has ls 2 [(0, .ref o), (1, .int (nI x))] := hl
  refine lv_aload_n hx hb d_MO_turn_0 rfl (lv_at hl 0 rfl) ?_
  refine lv_iconst (v := (nI 0)) hx hb d_MO_turn_1 (by decide) ?_
  refine va_put (D := (dC, dI)) (ci := 7) (v := .int (nI 0)) (ty := .int) (C := R_MO) (T := F_MO) (N := 15) hx hb hts in_MO t_MO t_MO_ok n_MO hown hK.1 hP hD hS 0 rfl rfl 0 (by decide) (hts _ wfl_MO_38) (fun _ h9 => h9) rfl (by decide +kernel) rfl rfl (Nat.le_of_ble_eq_true rfl) d_MO_turn_2 (fun H locs hP hD hS => ?_)
  have hP : va_P (dC, dI) cls [(o, .inr (7, [.int (nI 0), .int (nI nd), .int (nI ar), .ref fF, .ref fG, .ref fT, .ref fN, .ref fW, .int be, .ref fO, .ref fB, .int bz, .ref fS, .ref fD, .int sz])), (fT, .inl (cZ, 41, .inl (bF P)))] H := hP
  have hD : va_D (ow [(o, .inr (7, [.int th, .int (nI nd), .int (nI ar), .ref fF, .ref fG, .ref fT, .ref fN, .ref fW, .int be, .ref fO, .ref fB, .int bz, .ref fS, .ref fD, .int sz])), (fT, .inl (cZ, 41, .inl (bF P)))]) [(o, .inr (7, [.int (nI 0), .int (nI nd), .int (nI ar), .ref fF, .ref fG, .ref fT, .ref fN, .ref fW, .int be, .ref fO, .ref fB, .int bz, .ref fS, .ref fD, .int sz])), (fT, .inl (cZ, 41, .inl (bF P)))] := hD
  refine lv_iload_n hx hb d_MO_turn_5 rfl (lv_at hl 1 rfl) ?_
  refine lv_iconst (v := (nI 0)) hx hb d_MO_turn_6 (by decide) ?_
  refine lv_aload_n hx hb d_MO_turn_7 rfl (lv_at hl 0 rfl) ?_
  refine va_get (D := (dC, dI)) (ci := 7) (v := .int (nI ar)) (C := R_MO) (T := F_MO) (N := 15) hx hb hts in_MO hown hK.1 hP 0 rfl rfl 2 (by decide) (hts _ wfl_MO_45) (fun _ h9 => h9) rfl d_MO_turn_8 ?_
  refine lv_iconst (v := (nI 1)) hx hb d_MO_turn_11 (by decide) ?_
  refine lv_isub hx hb d_MO_turn_12 ?_
  refine vp_callSi (va_Run.run (k_S (n := 3) (rest := []) ⟨hx, hb, hml, hown, hts⟩ (c_MO_within l dC dI cI cJ cZ (nI x) (nI 0) ((nI ar) - (nI 1))) wml_MO_48 wst_MO_within wini_MO wcode_MO_within (by decide +kernel) ⟨Nat.le_of_ble_eq_true rfl, Nat.le_of_ble_eq_true rfl⟩ (pre_R (hP.sub (ws' := []) [] rfl) hK) rfl hl.1 rfl (Nat.le_of_ble_eq_true rfl) d_MO_turn_13 ⟨Nat.zero_le _, Nat.zero_le _⟩)) (fun r_1 hr_2 => ?_)
  refine xe_i (y := (bI (decide ((nI 0) ≤ (nI x)) && decide ((nI x) ≤ ((nI ar) - (nI 1)))))) hr_2 ?_
  refine xe_i (y := (bI true)) (by rw [vd_w (by omega), vd_tt (by omega) hxa]) ?_
  refine lv_if_ne (tgt := 21) hx hb d_MO_turn_16 (by decide) (fun _ => ?_) (fun c9 => absurd c9 (by decide : ¬ ((bI true) : Int32) = 0))
  refine lv_aload_n hx hb d_MO_turn_21 rfl (lv_at hl 0 rfl) ?_
  refine va_get (D := (dC, dI)) (ci := 7) (v := .ref fT) (C := R_MO) (T := F_MO) (N := 15) hx hb hts in_MO hown hK.1 hP 0 rfl rfl 5 (by decide) (hts _ wfl_MO_16) (fun _ h9 => h9) rfl d_MO_turn_22 ?_
  refine lv_iload_n hx hb d_MO_turn_25 rfl (lv_at hl 1 rfl) ?_
  refine lv_aload_n hx hb d_MO_turn_26 rfl (lv_at hl 0 rfl) ?_
  refine va_get (D := (dC, dI)) (ci := 7) (v := .ref fT) (C := R_MO) (T := F_MO) (N := 15) hx hb hts in_MO hown hK.1 hP 0 rfl rfl 5 (by decide) (hts _ wfl_MO_16) (fun _ h9 => h9) rfl d_MO_turn_27 ?_
  refine lv_iload_n hx hb d_MO_turn_30 rfl (lv_at hl 1 rfl) ?_
  refine x_zald (n := 41) (f := (bF P)) (j := x) hx hb hK.1 hP 1 2 rfl rfl (by omega) (by omega) d_MO_turn_31 ?_
  refine xe_i (y := (bI (P x))) rfl ?_
  refine x_if_ne (tgt := 39) hx hb d_MO_turn_32 (by decide) (fun c_4 => ?_) (fun c_4 => ?_)
  · skip
    refine lv_iconst (v := (nI 0)) hx hb d_MO_turn_39 (by decide) ?_
    refine xe_i (y := bI false) rfl ?_
    refine x_zast (g := (bF (va_up P x false))) hx hb hK.1 hP hD hS 1 2 rfl rfl (bF_up _ _ _) (by omega) (by omega) d_MO_turn_40 (fun H locs hP hD hS => ?_)
    have hP : va_P (dC, dI) cls [(o, .inr (7, [.int (nI 0), .int (nI nd), .int (nI ar), .ref fF, .ref fG, .ref fT, .ref fN, .ref fW, .int be, .ref fO, .ref fB, .int bz, .ref fS, .ref fD, .int sz])), (fT, .inl (cZ, 41, .inl (bF (va_up P x false))))] H := hP
    have hD : va_D (ow [(o, .inr (7, [.int th, .int (nI nd), .int (nI ar), .ref fF, .ref fG, .ref fT, .ref fN, .ref fW, .int be, .ref fO, .ref fB, .int bz, .ref fS, .ref fD, .int sz])), (fT, .inl (cZ, 41, .inl (bF P)))]) [(o, .inr (7, [.int (nI 0), .int (nI nd), .int (nI ar), .ref fF, .ref fG, .ref fT, .ref fN, .ref fW, .int be, .ref fO, .ref fB, .int bz, .ref fS, .ref fD, .int sz])), (fT, .inl (cZ, 41, .inl (bF (va_up P x false))))] := hD
    refine lv_aload_n hx hb d_MO_turn_41 rfl (lv_at hl 0 rfl) ?_
    refine va_get (D := (dC, dI)) (ci := 7) (v := .ref fT) (C := R_MO) (T := F_MO) (N := 15) hx hb hts in_MO hown hK.1 hP 0 rfl rfl 5 (by decide) (hts _ wfl_MO_16) (fun _ h9 => h9) rfl d_MO_turn_42 ?_
    refine lv_iload_n hx hb d_MO_turn_45 rfl (lv_at hl 1 rfl) ?_
    refine x_zald (n := 41) (f := (bF (va_up P x false))) (j := x) hx hb hK.1 hP 1 2 rfl rfl (by omega) (by omega) d_MO_turn_46 ?_
    refine xe_i (y := (bI ((va_up P x false) x))) rfl ?_
    refine x_if_eq (tgt := 54) hx hb d_MO_turn_47 (by decide) (fun c_5 => ?_) (fun c_5 => ?_)
    · skip
      refine lv_iconst (v := (nI 0)) hx hb d_MO_turn_54 (by decide) ?_
      exact W.iret (v := (nI 0)) hx hb hr (fun t9 ht9 _ => ⟨⟨_, ((va_up P x false)), rfl, ⟨by rw [c_4]; rfl, by rw [c_4]; rfl⟩, by show va_P (dC, dI) cls _ t9.heap; rw [ht9]; exact hP⟩, hS.F ht9⟩) hS.2.2 d_MO_turn_55
    · skip
      rw [va_up_s] at c_5; cases c_5
  · skip
    refine lv_iconst (v := (nI 1)) hx hb d_MO_turn_35 (by decide) ?_
    refine lv_goto (tgt := 40) hx hb d_MO_turn_36 (by decide) ?_
    refine xe_i (y := bI true) rfl ?_
    refine x_zast (g := (bF (va_up P x true))) hx hb hK.1 hP hD hS 1 2 rfl rfl (bF_up _ _ _) (by omega) (by omega) d_MO_turn_40 (fun H locs hP hD hS => ?_)
    have hP : va_P (dC, dI) cls [(o, .inr (7, [.int (nI 0), .int (nI nd), .int (nI ar), .ref fF, .ref fG, .ref fT, .ref fN, .ref fW, .int be, .ref fO, .ref fB, .int bz, .ref fS, .ref fD, .int sz])), (fT, .inl (cZ, 41, .inl (bF (va_up P x true))))] H := hP
    have hD : va_D (ow [(o, .inr (7, [.int th, .int (nI nd), .int (nI ar), .ref fF, .ref fG, .ref fT, .ref fN, .ref fW, .int be, .ref fO, .ref fB, .int bz, .ref fS, .ref fD, .int sz])), (fT, .inl (cZ, 41, .inl (bF P)))]) [(o, .inr (7, [.int (nI 0), .int (nI nd), .int (nI ar), .ref fF, .ref fG, .ref fT, .ref fN, .ref fW, .int be, .ref fO, .ref fB, .int bz, .ref fS, .ref fD, .int sz])), (fT, .inl (cZ, 41, .inl (bF (va_up P x true))))] := hD
    refine lv_aload_n hx hb d_MO_turn_41 rfl (lv_at hl 0 rfl) ?_
    refine va_get (D := (dC, dI)) (ci := 7) (v := .ref fT) (C := R_MO) (T := F_MO) (N := 15) hx hb hts in_MO hown hK.1 hP 0 rfl rfl 5 (by decide) (hts _ wfl_MO_16) (fun _ h9 => h9) rfl d_MO_turn_42 ?_
    refine lv_iload_n hx hb d_MO_turn_45 rfl (lv_at hl 1 rfl) ?_
    refine x_zald (n := 41) (f := (bF (va_up P x true))) (j := x) hx hb hK.1 hP 1 2 rfl rfl (by omega) (by omega) d_MO_turn_46 ?_
    refine xe_i (y := (bI ((va_up P x true) x))) rfl ?_
    refine x_if_eq (tgt := 54) hx hb d_MO_turn_47 (by decide) (fun c_6 => ?_) (fun c_6 => ?_)
    · skip
      rw [va_up_s] at c_6; cases c_6
    · skip
      refine lv_iconst (v := (nI 1)) hx hb d_MO_turn_50 (by decide) ?_
      refine lv_goto (tgt := 55) hx hb d_MO_turn_51 (by decide) ?_
      exact W.iret (v := (nI 1)) hx hb hr (fun t9 ht9 _ => ⟨⟨_, ((va_up P x true)), rfl, ⟨by rw [c_4]; rfl, by rw [c_4]; rfl⟩, by show va_P (dC, dI) cls _ t9.heap; rw [ht9]; exact hP⟩, hS.F ht9⟩) hS.2.2 d_MO_turn_55

set_option maxHeartbeats 4000000 in
set_option maxRecDepth 100000 in
theorem c_MO_part_k (l : Launch) (dC : Nat → ClassId) (dI : Nat → Nat → Nat) (cI cJ cZ : ClassId) (o fF fG fT fN fW fO fB fS fD : Nat) (th be bz sz : Int32) (nd ar : Nat) (F G : Nat → Nat) (P : Nat → Bool) (hF : ∀ k, F k < 14) (hG : ∀ k, G k < 14) (hnd : nd ≤ 14) (har : ar ≤ 40) (hM : ∀ e, e < ar → F e < nd ∧ G e < nd) (N0 : Nat → Int32) (x : Nat) (hxn : x < nd) : Met l ⟨"CutPointsModel", "part", "(I)I"⟩ (Cond.code ⟨"CutPointsModel", "part", "(I)I"⟩ prog_9_method_28_code 2 (some .int) :: TT) (rmk 3 68) (PM dC dI cI cJ cZ [.ref o, .int (nI x)] [(o, .inr (7, [.int th, .int (nI nd), .int (nI ar), .ref fF, .ref fG, .ref fT, .ref fN, .ref fW, .int be, .ref fO, .ref fB, .int bz, .ref fS, .ref fD, .int sz])), (fF, .inl (cI, 41, .inl (nF F))), (fG, .inl (cI, 41, .inl (nF G))), (fT, .inl (cZ, 41, .inl (bF P))), (fN, .inl (cI, 14, .inl N0))]) (va_Qi (S := Nat → Int32) (fun r u9 => ∃ v, r = nI v ∧ ∃ pt, RcT (lkT ar 0 P (-1) (-1) (nI 0) F G) F G (sb x) pt ∧ v = lsn (bt pt) 16) (fun u9 t9 => va_P (dC, dI) cls ([(o, .inr (7, [.int (nI 0), .int (nI nd), .int (nI ar), .ref fF, .ref fG, .ref fT, .ref fN, .ref fW, .int be, .ref fO, .ref fB, .int bz, .ref fS, .ref fD, .int sz])), (fF, .inl (cI, 41, .inl (nF F))), (fG, .inl (cI, 41, .inl (nF G))), (fT, .inl (cZ, 41, .inl (bF P))), (fN, .inl (cI, 14, .inl u9))]) t9.heap) (ow [(o, .inr (7, [.int th, .int (nI nd), .int (nI ar), .ref fF, .ref fG, .ref fT, .ref fN, .ref fW, .int be, .ref fO, .ref fB, .int bz, .ref fS, .ref fD, .int sz])), (fF, .inl (cI, 41, .inl (nF F))), (fG, .inl (cI, 41, .inl (nF G))), (fT, .inl (cZ, 41, .inl (bF P))), (fN, .inl (cI, 14, .inl N0))])) 0 0 (ow [(o, .inr (7, [.int th, .int (nI nd), .int (nI ar), .ref fF, .ref fG, .ref fT, .ref fN, .ref fW, .int be, .ref fO, .ref fB, .int bz, .ref fS, .ref fD, .int sz])), (fF, .inl (cI, 41, .inl (nF F))), (fG, .inl (cI, 41, .inl (nF G))), (fT, .inl (cZ, 41, .inl (bF P))), (fN, .inl (cI, 14, .inl N0))]) := by
  refine Met.ofW (cc := prog_9_method_28_code) (maxL := 2) (ret := (some .int)) (by decide) rfl ?_
  intro p e s m args below meth c s₁ BB9 hml hv
  obtain ⟨rfl, hP, hK, hD0⟩ := hv
  have hx := BB9.exec
  have hb := BB9.bytes
  have hr := BB9.returns
  have hts : ∀ w ∈ TT, w.before _ s = true := fun w h => atoms_spec (ws := (Cond.code ⟨"CutPointsModel", "part", "(I)I"⟩ prog_9_method_28_code 2 (some .int) :: TT)) BB9.pre w (List.mem_cons_of_mem _ h)
  have hown : s.vm.findClass "CutPointsModel" = some m.cls := findClass_of_methodNamed BB9.named
  have hlocks := BB9.notSynchronized
  have hD := hD0.mine
  have hS : va_S (ow [(o, .inr (7, [.int th, .int (nI nd), .int (nI ar), .ref fF, .ref fG, .ref fT, .ref fN, .ref fW, .int be, .ref fO, .ref fB, .int bz, .ref fS, .ref fD, .int sz])), (fF, .inl (cI, 41, .inl (nF F))), (fG, .inl (cI, 41, .inl (nF G))), (fT, .inl (cZ, 41, .inl (bF P))), (fN, .inl (cI, 14, .inl N0))]) s.heap s.heap [] := va_S.rf
  have hl := lv_entry ([.ref o, .int (nI x)]) (n := 2) (Nat.le_of_ble_eq_true rfl)
  rw [lg_entry_eq]
  generalize (lg_sl ([.ref o, .int (nI x)]) ++ List.replicate (2 - (lg_sl ([.ref o, .int (nI x)])).length) Slot.unset).toArray = ls at hl ⊢
  have hl : lv_has ls 2 [(0, .ref o), (1, .int (nI x))] := hl
  refine lv_aload_n hx hb d_MO_part_0 rfl (lv_at hl 0 rfl) ?_
  refine lv_iconst (v := (nI 0)) hx hb d_MO_part_1 (by decide) ?_
  refine va_put (D := (dC, dI)) (ci := 7) (v := .int (nI 0)) (ty := .int) (C := R_MO) (T := F_MO) (N := 15) hx hb hts in_MO t_MO t_MO_ok n_MO hown hK.1 hP hD hS 0 rfl rfl 0 (by decide) (hts _ wfl_MO_38) (fun _ h9 => h9) rfl (by decide +kernel) rfl rfl (Nat.le_of_ble_eq_true rfl) d_MO_part_2 (fun H locs hP hD hS => ?_)
  have hP : va_P (dC, dI) cls [(o, .inr (7, [.int (nI 0), .int (nI nd), .int (nI ar), .ref fF, .ref fG, .ref fT, .ref fN, .ref fW, .int be, .ref fO, .ref fB, .int bz, .ref fS, .ref fD, .int sz])), (fF, .inl (cI, 41, .inl (nF F))), (fG, .inl (cI, 41, .inl (nF G))), (fT, .inl (cZ, 41, .inl (bF P))), (fN, .inl (cI, 14, .inl N0))] H := hP
  have hD : va_D (ow [(o, .inr (7, [.int th, .int (nI nd), .int (nI ar), .ref fF, .ref fG, .ref fT, .ref fN, .ref fW, .int be, .ref fO, .ref fB, .int bz, .ref fS, .ref fD, .int sz])), (fF, .inl (cI, 41, .inl (nF F))), (fG, .inl (cI, 41, .inl (nF G))), (fT, .inl (cZ, 41, .inl (bF P))), (fN, .inl (cI, 14, .inl N0))]) [(o, .inr (7, [.int (nI 0), .int (nI nd), .int (nI ar), .ref fF, .ref fG, .ref fT, .ref fN, .ref fW, .int be, .ref fO, .ref fB, .int bz, .ref fS, .ref fD, .int sz])), (fF, .inl (cI, 41, .inl (nF F))), (fG, .inl (cI, 41, .inl (nF G))), (fT, .inl (cZ, 41, .inl (bF P))), (fN, .inl (cI, 14, .inl N0))] := hD
  refine lv_aload_n hx hb d_MO_part_5 rfl (lv_at hl 0 rfl) ?_
  refine lv_iload_n hx hb d_MO_part_6 rfl (lv_at hl 1 rfl) ?_
  refine vp_callSi (va_Run.run (k_V (n := 1) (C := R_MO) (rest := []) ⟨hx, hb, hml, hown, hts⟩ (c_MO_isNode l dC dI cI cJ cZ o fF fG fT fN fW fO fB fS fD (nI 0) be bz sz nd ar (nI x) (by first | assumption | omega)) wml_MO_52 wim_MO_isNode wsel_MO_isNode wini_MO wcode_MO_isNode (by decide +kernel) ⟨Nat.le_of_ble_eq_true rfl, Nat.le_of_ble_eq_true rfl⟩ (preV_R (q := (R_MO, F_MO, 15)) (ci := 7) (q0 := 0) (hP.sub (ws' := [(o, .inr (7, [.int (nI 0), .int (nI nd), .int (nI ar), .ref fF, .ref fG, .ref fT, .ref fN, .ref fW, .int be, .ref fO, .ref fB, .int bz, .ref fS, .ref fD, .int sz]))]) [0] rfl) hK rfl rfl) rfl hl.1 rfl (Nat.le_of_ble_eq_true rfl) d_MO_part_7 ⟨Nat.zero_le _, Nat.zero_le _⟩)) (fun r_1 hr_2 => ?_)
  refine xe_i (y := (bI (vd (nI x) nd))) hr_2 ?_
  refine xe_i (y := (bI true)) (by rw [vd_tt (by omega) hxn]) ?_
  refine lv_if_eq (tgt := 24) hx hb d_MO_part_10 (by decide) (fun c9 => absurd c9 (by decide : ¬ ((bI true) : Int32) = 0)) (fun _ => ?_)
  refine lv_aload_n hx hb d_MO_part_13 rfl (lv_at hl 0 rfl) ?_
  refine lv_iload_n hx hb d_MO_part_14 rfl (lv_at hl 1 rfl) ?_
  refine x_ci (k_V (n := 1) (C := R_MO) (rest := []) ⟨hx, hb, hml, hown, hts⟩ (c_MO_partSet l dC dI cI cJ cZ o fF fG fT fN fW fO fB fS fD (nI 0) be bz sz nd ar F G P hF hG (by first | assumption | omega) (by first | assumption | omega) hM N0 x (by first | assumption | omega)) wml_MO_70 wim_MO_partSet wsel_MO_partSet wini_MO wcode_MO_partSet (by decide +kernel) ⟨Nat.le_of_ble_eq_true rfl, Nat.le_of_ble_eq_true rfl⟩ (preV_M (q := (R_MO, F_MO, 15)) (ci := 7) (q0 := 0) (hP.sub (ws' := [(o, .inr (7, [.int (nI 0), .int (nI nd), .int (nI ar), .ref fF, .ref fG, .ref fT, .ref fN, .ref fW, .int be, .ref fO, .ref fB, .int bz, .ref fS, .ref fD, .int sz])), (fF, .inl (cI, 41, .inl (nF F))), (fG, .inl (cI, 41, .inl (nF G))), (fT, .inl (cZ, 41, .inl (bF P))), (fN, .inl (cI, 14, .inl N0))]) [0, 1, 2, 3, 4] rfl) hK (hD.sub (ws' := [(o, .inr (7, [.int (nI 0), .int (nI nd), .int (nI ar), .ref fF, .ref fG, .ref fT, .ref fN, .ref fW, .int be, .ref fO, .ref fB, .int bz, .ref fS, .ref fD, .int sz])), (fF, .inl (cI, 41, .inl (nF F))), (fG, .inl (cI, 41, .inl (nF G))), (fT, .inl (cZ, 41, .inl (bF P))), (fN, .inl (cI, 14, .inl N0))]) [0, 1, 2, 3, 4] (by decide) rfl) rfl rfl) rfl hl.1 rfl (Nat.le_of_ble_eq_true rfl) d_MO_part_15 ⟨Nat.zero_le _, Nat.zero_le _⟩) hP hD hS [0, 1, 2, 3, 4] rfl (fun _ => rfl) (fun r_4 u_4 H locs hu_4 hP hS => ?_)
  obtain ⟨N9_4, rfl⟩ : ∃ z, z = u_4 := ⟨_, rfl⟩
  have hP : va_P (dC, dI) cls [(o, .inr (7, [.int (nI 0), .int (nI nd), .int (nI ar), .ref fF, .ref fG, .ref fT, .ref fN, .ref fW, .int be, .ref fO, .ref fB, .int bz, .ref fS, .ref fD, .int sz])), (fF, .inl (cI, 41, .inl (nF F))), (fG, .inl (cI, 41, .inl (nF G))), (fT, .inl (cZ, 41, .inl (bF P))), (fN, .inl (cI, 14, .inl N9_4))] H := hP
  have hD := hD.addr (ws' := [(o, .inr (7, [.int (nI 0), .int (nI nd), .int (nI ar), .ref fF, .ref fG, .ref fT, .ref fN, .ref fW, .int be, .ref fO, .ref fB, .int bz, .ref fS, .ref fD, .int sz])), (fF, .inl (cI, 41, .inl (nF F))), (fG, .inl (cI, 41, .inl (nF G))), (fT, .inl (cZ, 41, .inl (bF P))), (fN, .inl (cI, 14, .inl N9_4))]) rfl
  refine vp_callSi (va_Run.run (k_S (n := 1) (rest := []) ⟨hx, hb, hml, hown, hts⟩ (c_MO_least l dC dI cI cJ cZ r_4) wml_MO_56 wst_MO_least wini_MO wcode_MO_least (by decide +kernel) ⟨Nat.le_of_ble_eq_true rfl, Nat.le_of_ble_eq_true rfl⟩ (pre_R (hP.sub (ws' := []) [] rfl) hK) rfl hl.1 rfl (Nat.le_of_ble_eq_true rfl) d_MO_part_18 ⟨Nat.zero_le _, Nat.zero_le _⟩)) (fun r_5 hr_6 => ?_)
  refine xe_i (y := (nI (lsn (bt r_4) 16))) hr_6 ?_
  refine lv_goto (tgt := 25) hx hb d_MO_part_21 (by decide) ?_
  exact W.iret (v := (nI (lsn (bt r_4) 16))) hx hb hr (fun t9 ht9 _ => ⟨⟨_, (N9_4), rfl, ⟨_, rfl, _, hu_4.1, rfl⟩, by show va_P (dC, dI) cls _ t9.heap; rw [ht9]; exact hP⟩, hS.F ht9⟩) hS.2.2 d_MO_part_25

set_option maxHeartbeats 4000000 in
set_option maxRecDepth 100000 in
theorem c_MO_bridge_k (l : Launch) (dC : Nat → ClassId) (dI : Nat → Nat → Nat) (cI cJ cZ : ClassId) (o fF fG fT fN fW fO fB fS fD : Nat) (th be bz sz : Int32) (nd ar : Nat) (F G : Nat → Nat) (P : Nat → Bool) (hF : ∀ k, F k < 14) (hG : ∀ k, G k < 14) (hnd : nd ≤ 14) (har : ar ≤ 40) (hM : ∀ e, e < ar → F e < nd ∧ G e < nd) (N0 : Nat → Int32) (x : Nat) (hxa : x < ar) (hPx : P x = true) : Met l ⟨"CutPointsModel", "bridge", "(I)I"⟩ (Cond.code ⟨"CutPointsModel", "bridge", "(I)I"⟩ prog_9_method_29_code 2 (some .int) :: TT) (rmk 2 48) (PM dC dI cI cJ cZ [.ref o, .int (nI x)] [(o, .inr (7, [.int th, .int (nI nd), .int (nI ar), .ref fF, .ref fG, .ref fT, .ref fN, .ref fW, .int be, .ref fO, .ref fB, .int bz, .ref fS, .ref fD, .int sz])), (fF, .inl (cI, 41, .inl (nF F))), (fG, .inl (cI, 41, .inl (nF G))), (fT, .inl (cZ, 41, .inl (bF P))), (fN, .inl (cI, 14, .inl N0))]) (va_Qi (S := Nat → Int32) (fun r u9 => r = bI (!dc (Rc (ad (lkT ar 0 P (nI x) (-1) (nI 0) F G) F G) (F x) (G x)))) (fun u9 t9 => va_P (dC, dI) cls ([(o, .inr (7, [.int (nI 0), .int (nI nd), .int (nI ar), .ref fF, .ref fG, .ref fT, .ref fN, .ref fW, .int be, .ref fO, .ref fB, .int bz, .ref fS, .ref fD, .int sz])), (fF, .inl (cI, 41, .inl (nF F))), (fG, .inl (cI, 41, .inl (nF G))), (fT, .inl (cZ, 41, .inl (bF P))), (fN, .inl (cI, 14, .inl u9))]) t9.heap) (ow [(o, .inr (7, [.int th, .int (nI nd), .int (nI ar), .ref fF, .ref fG, .ref fT, .ref fN, .ref fW, .int be, .ref fO, .ref fB, .int bz, .ref fS, .ref fD, .int sz])), (fF, .inl (cI, 41, .inl (nF F))), (fG, .inl (cI, 41, .inl (nF G))), (fT, .inl (cZ, 41, .inl (bF P))), (fN, .inl (cI, 14, .inl N0))])) 0 0 (ow [(o, .inr (7, [.int th, .int (nI nd), .int (nI ar), .ref fF, .ref fG, .ref fT, .ref fN, .ref fW, .int be, .ref fO, .ref fB, .int bz, .ref fS, .ref fD, .int sz])), (fF, .inl (cI, 41, .inl (nF F))), (fG, .inl (cI, 41, .inl (nF G))), (fT, .inl (cZ, 41, .inl (bF P))), (fN, .inl (cI, 14, .inl N0))]) := by
  refine Met.ofW (cc := prog_9_method_29_code) (maxL := 2) (ret := (some .int)) (by decide) rfl ?_
  intro p e s m args below meth c s₁ BB9 hml hv
  obtain ⟨rfl, hP, hK, hD0⟩ := hv
  have hx := BB9.exec
  have hb := BB9.bytes
  have hr := BB9.returns
  have hts : ∀ w ∈ TT, w.before _ s = true := fun w h => atoms_spec (ws := (Cond.code ⟨"CutPointsModel", "bridge", "(I)I"⟩ prog_9_method_29_code 2 (some .int) :: TT)) BB9.pre w (List.mem_cons_of_mem _ h)
  have hown : s.vm.findClass "CutPointsModel" = some m.cls := findClass_of_methodNamed BB9.named
  have hlocks := BB9.notSynchronized
  have hD := hD0.mine
  have hS : va_S (ow [(o, .inr (7, [.int th, .int (nI nd), .int (nI ar), .ref fF, .ref fG, .ref fT, .ref fN, .ref fW, .int be, .ref fO, .ref fB, .int bz, .ref fS, .ref fD, .int sz])), (fF, .inl (cI, 41, .inl (nF F))), (fG, .inl (cI, 41, .inl (nF G))), (fT, .inl (cZ, 41, .inl (bF P))), (fN, .inl (cI, 14, .inl N0))]) s.heap s.heap [] := va_S.rf
  have hl := lv_entry ([.ref o, .int (nI x)]) (n := 2) (Nat.le_of_ble_eq_true rfl)
  rw [lg_entry_eq]
  generalize (lg_sl ([.ref o, .int (nI x)]) ++ List.replicate (2 - (lg_sl ([.ref o, .int (nI x)])).length) Slot.unset).toArray = ls at hl ⊢
  have hl : lv_has ls 2 [(0, .ref o), (1, .int (nI x))] := hl
  refine lv_aload_n hx hb d_MO_bridge_0 rfl (lv_at hl 0 rfl) ?_
  refine lv_iconst (v := (nI 0)) hx hb d_MO_bridge_1 (by decide) ?_
  refine va_put (D := (dC, dI)) (ci := 7) (v := .int (nI 0)) (ty := .int) (C := R_MO) (T := F_MO) (N := 15) hx hb hts in_MO t_MO t_MO_ok n_MO hown hK.1 hP hD hS 0 rfl rfl 0 (by decide) (hts _ wfl_MO_38) (fun _ h9 => h9) rfl (by decide +kernel) rfl rfl (Nat.le_of_ble_eq_true rfl) d_MO_bridge_2 (fun H locs hP hD hS => ?_)
  have hP : va_P (dC, dI) cls [(o, .inr (7, [.int (nI 0), .int (nI nd), .int (nI ar), .ref fF, .ref fG, .ref fT, .ref fN, .ref fW, .int be, .ref fO, .ref fB, .int bz, .ref fS, .ref fD, .int sz])), (fF, .inl (cI, 41, .inl (nF F))), (fG, .inl (cI, 41, .inl (nF G))), (fT, .inl (cZ, 41, .inl (bF P))), (fN, .inl (cI, 14, .inl N0))] H := hP
  have hD : va_D (ow [(o, .inr (7, [.int th, .int (nI nd), .int (nI ar), .ref fF, .ref fG, .ref fT, .ref fN, .ref fW, .int be, .ref fO, .ref fB, .int bz, .ref fS, .ref fD, .int sz])), (fF, .inl (cI, 41, .inl (nF F))), (fG, .inl (cI, 41, .inl (nF G))), (fT, .inl (cZ, 41, .inl (bF P))), (fN, .inl (cI, 14, .inl N0))]) [(o, .inr (7, [.int (nI 0), .int (nI nd), .int (nI ar), .ref fF, .ref fG, .ref fT, .ref fN, .ref fW, .int be, .ref fO, .ref fB, .int bz, .ref fS, .ref fD, .int sz])), (fF, .inl (cI, 41, .inl (nF F))), (fG, .inl (cI, 41, .inl (nF G))), (fT, .inl (cZ, 41, .inl (bF P))), (fN, .inl (cI, 14, .inl N0))] := hD
  refine lv_aload_n hx hb d_MO_bridge_5 rfl (lv_at hl 0 rfl) ?_
  refine lv_iload_n hx hb d_MO_bridge_6 rfl (lv_at hl 1 rfl) ?_
  refine vp_callSi (va_Run.run (k_V (n := 1) (C := R_MO) (rest := []) ⟨hx, hb, hml, hown, hts⟩ (c_MO_isThere l dC dI cI cJ cZ o fF fG fT fN fW fO fB fS fD (nI 0) be bz sz nd ar P (nI x) (by first | assumption | omega)) wml_MO_113 wim_MO_isThere wsel_MO_isThere wini_MO wcode_MO_isThere (by decide +kernel) ⟨Nat.le_of_ble_eq_true rfl, Nat.le_of_ble_eq_true rfl⟩ (preV_R (q := (R_MO, F_MO, 15)) (ci := 7) (q0 := 0) (hP.sub (ws' := [(o, .inr (7, [.int (nI 0), .int (nI nd), .int (nI ar), .ref fF, .ref fG, .ref fT, .ref fN, .ref fW, .int be, .ref fO, .ref fB, .int bz, .ref fS, .ref fD, .int sz])), (fT, .inl (cZ, 41, .inl (bF P)))]) [0, 3] rfl) hK rfl rfl) rfl hl.1 rfl (Nat.le_of_ble_eq_true rfl) d_MO_bridge_7 ⟨Nat.zero_le _, Nat.zero_le _⟩)) (fun r_1 hr_2 => ?_)
  refine xe_i (y := (bI (vd (nI x) ar && P (nI x).toNatClampNeg))) hr_2 ?_
  refine xe_i (y := (bI true)) (by rw [tm_tt (by omega) hxa hPx]) ?_
  refine lv_if_ne (tgt := 17) hx hb d_MO_bridge_10 (by decide) (fun _ => ?_) (fun c9 => absurd c9 (by decide : ¬ ((bI true) : Int32) = 0))
  refine lv_aload_n hx hb d_MO_bridge_17 rfl (lv_at hl 0 rfl) ?_
  refine lv_iload_n hx hb d_MO_bridge_18 rfl (lv_at hl 1 rfl) ?_
  refine x_ci (k_V (n := 1) (C := R_MO) (rest := []) ⟨hx, hb, hml, hown, hts⟩ (c_MO_isBridge l dC dI cI cJ cZ o fF fG fT fN fW fO fB fS fD (nI 0) be bz sz nd ar F G P hF hG (by first | assumption | omega) (by first | assumption | omega) hM N0 x (by first | assumption | omega)) wml_MO_95 wim_MO_isBridge wsel_MO_isBridge wini_MO wcode_MO_isBridge (by decide +kernel) ⟨Nat.le_of_ble_eq_true rfl, Nat.le_of_ble_eq_true rfl⟩ (preV_M (q := (R_MO, F_MO, 15)) (ci := 7) (q0 := 0) (hP.sub (ws' := [(o, .inr (7, [.int (nI 0), .int (nI nd), .int (nI ar), .ref fF, .ref fG, .ref fT, .ref fN, .ref fW, .int be, .ref fO, .ref fB, .int bz, .ref fS, .ref fD, .int sz])), (fF, .inl (cI, 41, .inl (nF F))), (fG, .inl (cI, 41, .inl (nF G))), (fT, .inl (cZ, 41, .inl (bF P))), (fN, .inl (cI, 14, .inl N0))]) [0, 1, 2, 3, 4] rfl) hK (hD.sub (ws' := [(o, .inr (7, [.int (nI 0), .int (nI nd), .int (nI ar), .ref fF, .ref fG, .ref fT, .ref fN, .ref fW, .int be, .ref fO, .ref fB, .int bz, .ref fS, .ref fD, .int sz])), (fF, .inl (cI, 41, .inl (nF F))), (fG, .inl (cI, 41, .inl (nF G))), (fT, .inl (cZ, 41, .inl (bF P))), (fN, .inl (cI, 14, .inl N0))]) [0, 1, 2, 3, 4] (by decide) rfl) rfl rfl) rfl hl.1 rfl (Nat.le_of_ble_eq_true rfl) d_MO_bridge_19 ⟨Nat.zero_le _, Nat.zero_le _⟩) hP hD hS [0, 1, 2, 3, 4] rfl (fun _ => rfl) (fun r_4 u_4 H locs hu_4 hP hS => ?_)
  obtain ⟨N9_4, rfl⟩ : ∃ z, z = u_4 := ⟨_, rfl⟩
  have hP : va_P (dC, dI) cls [(o, .inr (7, [.int (nI 0), .int (nI nd), .int (nI ar), .ref fF, .ref fG, .ref fT, .ref fN, .ref fW, .int be, .ref fO, .ref fB, .int bz, .ref fS, .ref fD, .int sz])), (fF, .inl (cI, 41, .inl (nF F))), (fG, .inl (cI, 41, .inl (nF G))), (fT, .inl (cZ, 41, .inl (bF P))), (fN, .inl (cI, 14, .inl N9_4))] H := hP
  have hD := hD.addr (ws' := [(o, .inr (7, [.int (nI 0), .int (nI nd), .int (nI ar), .ref fF, .ref fG, .ref fT, .ref fN, .ref fW, .int be, .ref fO, .ref fB, .int bz, .ref fS, .ref fD, .int sz])), (fF, .inl (cI, 41, .inl (nF F))), (fG, .inl (cI, 41, .inl (nF G))), (fT, .inl (cZ, 41, .inl (bF P))), (fN, .inl (cI, 14, .inl N9_4))]) rfl
  refine xe_i (y := (bI (!dc (Rc (ad (lkT ar 0 P (nI x) (-1) (nI 0) F G) F G) (F x) (G x))))) hu_4 ?_
  refine x_if_eq (tgt := 29) hx hb d_MO_bridge_22 (by decide) (fun c_5 => ?_) (fun c_5 => ?_)
  · skip
    refine lv_iconst (v := (nI 0)) hx hb d_MO_bridge_29 (by decide) ?_
    exact W.iret (v := (nI 0)) hx hb hr (fun t9 ht9 _ => ⟨⟨_, (N9_4), rfl, (by rw [c_5]; rfl), by show va_P (dC, dI) cls _ t9.heap; rw [ht9]; exact hP⟩, hS.F ht9⟩) hS.2.2 d_MO_bridge_30
  · skip
    refine lv_iconst (v := (nI 1)) hx hb d_MO_bridge_25 (by decide) ?_
    refine lv_goto (tgt := 30) hx hb d_MO_bridge_26 (by decide) ?_
    exact W.iret (v := (nI 1)) hx hb hr (fun t9 ht9 _ => ⟨⟨_, (N9_4), rfl, (by rw [c_5]; rfl), by show va_P (dC, dI) cls _ t9.heap; rw [ht9]; exact hP⟩, hS.F ht9⟩) hS.2.2 d_MO_bridge_30

set_option maxHeartbeats 4000000 in
set_option maxRecDepth 100000 in
theorem c_MO_falls_k (l : Launch) (dC : Nat → ClassId) (dI : Nat → Nat → Nat) (cI cJ cZ : ClassId) (o fF fG fT fN fW fO fB fS fD : Nat) (th be bz sz : Int32) (nd ar : Nat) (F G : Nat → Nat) (P : Nat → Bool) (hF : ∀ k, F k < 14) (hG : ∀ k, G k < 14) (hnd : nd ≤ 14) (har : ar ≤ 40) (hM : ∀ e, e < ar → F e < nd ∧ G e < nd) (N0 : Nat → Int32) (x : Nat) (hxn : x < nd) : Met l ⟨"CutPointsModel", "falls", "(I)I"⟩ (Cond.code ⟨"CutPointsModel", "falls", "(I)I"⟩ prog_9_method_30_code 2 (some .int) :: TT) (rmk 4 90) (PM dC dI cI cJ cZ [.ref o, .int (nI x)] [(o, .inr (7, [.int th, .int (nI nd), .int (nI ar), .ref fF, .ref fG, .ref fT, .ref fN, .ref fW, .int be, .ref fO, .ref fB, .int bz, .ref fS, .ref fD, .int sz])), (fF, .inl (cI, 41, .inl (nF F))), (fG, .inl (cI, 41, .inl (nF G))), (fT, .inl (cZ, 41, .inl (bF P))), (fN, .inl (cI, 14, .inl N0))]) (va_Qi (S := Nat → Int32) (fun r u9 => ∃ kk, r = nI kk ∧ ∃ pt, RcT (lkT ar 0 P (-1) (-1) (nI 0) F G) F G (sb x) pt ∧ kk = cn (ldB (lkT ar 0 P (-1) (-1) (sb x) F G) F G (pt &&& (sb x ^^^ (-1)))) 16) (fun u9 t9 => va_P (dC, dI) cls ([(o, .inr (7, [.int (nI 0), .int (nI nd), .int (nI ar), .ref fF, .ref fG, .ref fT, .ref fN, .ref fW, .int be, .ref fO, .ref fB, .int bz, .ref fS, .ref fD, .int sz])), (fF, .inl (cI, 41, .inl (nF F))), (fG, .inl (cI, 41, .inl (nF G))), (fT, .inl (cZ, 41, .inl (bF P))), (fN, .inl (cI, 14, .inl u9))]) t9.heap) (ow [(o, .inr (7, [.int th, .int (nI nd), .int (nI ar), .ref fF, .ref fG, .ref fT, .ref fN, .ref fW, .int be, .ref fO, .ref fB, .int bz, .ref fS, .ref fD, .int sz])), (fF, .inl (cI, 41, .inl (nF F))), (fG, .inl (cI, 41, .inl (nF G))), (fT, .inl (cZ, 41, .inl (bF P))), (fN, .inl (cI, 14, .inl N0))])) 0 0 (ow [(o, .inr (7, [.int th, .int (nI nd), .int (nI ar), .ref fF, .ref fG, .ref fT, .ref fN, .ref fW, .int be, .ref fO, .ref fB, .int bz, .ref fS, .ref fD, .int sz])), (fF, .inl (cI, 41, .inl (nF F))), (fG, .inl (cI, 41, .inl (nF G))), (fT, .inl (cZ, 41, .inl (bF P))), (fN, .inl (cI, 14, .inl N0))]) := by
  refine Met.ofW (cc := prog_9_method_30_code) (maxL := 2) (ret := (some .int)) (by decide) rfl ?_
  intro p e s m args below meth c s₁ BB9 hml hv
  obtain ⟨rfl, hP, hK, hD0⟩ := hv
  have hx := BB9.exec
  have hb := BB9.bytes
  have hr := BB9.returns
  have hts : ∀ w ∈ TT, w.before _ s = true := fun w h => atoms_spec (ws := (Cond.code ⟨"CutPointsModel", "falls", "(I)I"⟩ prog_9_method_30_code 2 (some .int) :: TT)) BB9.pre w (List.mem_cons_of_mem _ h)
  have hown : s.vm.findClass "CutPointsModel" = some m.cls := findClass_of_methodNamed BB9.named
  have hlocks := BB9.notSynchronized
  have hD := hD0.mine
  have hS : va_S (ow [(o, .inr (7, [.int th, .int (nI nd), .int (nI ar), .ref fF, .ref fG, .ref fT, .ref fN, .ref fW, .int be, .ref fO, .ref fB, .int bz, .ref fS, .ref fD, .int sz])), (fF, .inl (cI, 41, .inl (nF F))), (fG, .inl (cI, 41, .inl (nF G))), (fT, .inl (cZ, 41, .inl (bF P))), (fN, .inl (cI, 14, .inl N0))]) s.heap s.heap [] := va_S.rf
  have hl := lv_entry ([.ref o, .int (nI x)]) (n := 2) (Nat.le_of_ble_eq_true rfl)
  rw [lg_entry_eq]
  generalize (lg_sl ([.ref o, .int (nI x)]) ++ List.replicate (2 - (lg_sl ([.ref o, .int (nI x)])).length) Slot.unset).toArray = ls at hl ⊢
  have hl : lv_has ls 2 [(0, .ref o), (1, .int (nI x))] := hl
  refine lv_aload_n hx hb d_MO_falls_0 rfl (lv_at hl 0 rfl) ?_
  refine lv_iconst (v := (nI 0)) hx hb d_MO_falls_1 (by decide) ?_
  refine va_put (D := (dC, dI)) (ci := 7) (v := .int (nI 0)) (ty := .int) (C := R_MO) (T := F_MO) (N := 15) hx hb hts in_MO t_MO t_MO_ok n_MO hown hK.1 hP hD hS 0 rfl rfl 0 (by decide) (hts _ wfl_MO_38) (fun _ h9 => h9) rfl (by decide +kernel) rfl rfl (Nat.le_of_ble_eq_true rfl) d_MO_falls_2 (fun H locs hP hD hS => ?_)
  have hP : va_P (dC, dI) cls [(o, .inr (7, [.int (nI 0), .int (nI nd), .int (nI ar), .ref fF, .ref fG, .ref fT, .ref fN, .ref fW, .int be, .ref fO, .ref fB, .int bz, .ref fS, .ref fD, .int sz])), (fF, .inl (cI, 41, .inl (nF F))), (fG, .inl (cI, 41, .inl (nF G))), (fT, .inl (cZ, 41, .inl (bF P))), (fN, .inl (cI, 14, .inl N0))] H := hP
  have hD : va_D (ow [(o, .inr (7, [.int th, .int (nI nd), .int (nI ar), .ref fF, .ref fG, .ref fT, .ref fN, .ref fW, .int be, .ref fO, .ref fB, .int bz, .ref fS, .ref fD, .int sz])), (fF, .inl (cI, 41, .inl (nF F))), (fG, .inl (cI, 41, .inl (nF G))), (fT, .inl (cZ, 41, .inl (bF P))), (fN, .inl (cI, 14, .inl N0))]) [(o, .inr (7, [.int (nI 0), .int (nI nd), .int (nI ar), .ref fF, .ref fG, .ref fT, .ref fN, .ref fW, .int be, .ref fO, .ref fB, .int bz, .ref fS, .ref fD, .int sz])), (fF, .inl (cI, 41, .inl (nF F))), (fG, .inl (cI, 41, .inl (nF G))), (fT, .inl (cZ, 41, .inl (bF P))), (fN, .inl (cI, 14, .inl N0))] := hD
  refine lv_aload_n hx hb d_MO_falls_5 rfl (lv_at hl 0 rfl) ?_
  refine lv_iload_n hx hb d_MO_falls_6 rfl (lv_at hl 1 rfl) ?_
  refine vp_callSi (va_Run.run (k_V (n := 1) (C := R_MO) (rest := []) ⟨hx, hb, hml, hown, hts⟩ (c_MO_isNode l dC dI cI cJ cZ o fF fG fT fN fW fO fB fS fD (nI 0) be bz sz nd ar (nI x) (by first | assumption | omega)) wml_MO_52 wim_MO_isNode wsel_MO_isNode wini_MO wcode_MO_isNode (by decide +kernel) ⟨Nat.le_of_ble_eq_true rfl, Nat.le_of_ble_eq_true rfl⟩ (preV_R (q := (R_MO, F_MO, 15)) (ci := 7) (q0 := 0) (hP.sub (ws' := [(o, .inr (7, [.int (nI 0), .int (nI nd), .int (nI ar), .ref fF, .ref fG, .ref fT, .ref fN, .ref fW, .int be, .ref fO, .ref fB, .int bz, .ref fS, .ref fD, .int sz]))]) [0] rfl) hK rfl rfl) rfl hl.1 rfl (Nat.le_of_ble_eq_true rfl) d_MO_falls_7 ⟨Nat.zero_le _, Nat.zero_le _⟩)) (fun r_1 hr_2 => ?_)
  refine xe_i (y := (bI (vd (nI x) nd))) hr_2 ?_
  refine xe_i (y := (bI true)) (by rw [vd_tt (by omega) hxn]) ?_
  refine lv_if_eq (tgt := 21) hx hb d_MO_falls_10 (by decide) (fun c9 => absurd c9 (by decide : ¬ ((bI true) : Int32) = 0)) (fun _ => ?_)
  refine lv_aload_n hx hb d_MO_falls_13 rfl (lv_at hl 0 rfl) ?_
  refine lv_iload_n hx hb d_MO_falls_14 rfl (lv_at hl 1 rfl) ?_
  refine x_ci (k_V (n := 1) (C := R_MO) (rest := []) ⟨hx, hb, hml, hown, hts⟩ (c_MO_fallsOf l dC dI cI cJ cZ o fF fG fT fN fW fO fB fS fD (nI 0) be bz sz nd ar F G P hF hG (by first | assumption | omega) (by first | assumption | omega) hM N0 x (by first | assumption | omega)) wml_MO_98 wim_MO_fallsOf wsel_MO_fallsOf wini_MO wcode_MO_fallsOf (by decide +kernel) ⟨Nat.le_of_ble_eq_true rfl, Nat.le_of_ble_eq_true rfl⟩ (preV_M (q := (R_MO, F_MO, 15)) (ci := 7) (q0 := 0) (hP.sub (ws' := [(o, .inr (7, [.int (nI 0), .int (nI nd), .int (nI ar), .ref fF, .ref fG, .ref fT, .ref fN, .ref fW, .int be, .ref fO, .ref fB, .int bz, .ref fS, .ref fD, .int sz])), (fF, .inl (cI, 41, .inl (nF F))), (fG, .inl (cI, 41, .inl (nF G))), (fT, .inl (cZ, 41, .inl (bF P))), (fN, .inl (cI, 14, .inl N0))]) [0, 1, 2, 3, 4] rfl) hK (hD.sub (ws' := [(o, .inr (7, [.int (nI 0), .int (nI nd), .int (nI ar), .ref fF, .ref fG, .ref fT, .ref fN, .ref fW, .int be, .ref fO, .ref fB, .int bz, .ref fS, .ref fD, .int sz])), (fF, .inl (cI, 41, .inl (nF F))), (fG, .inl (cI, 41, .inl (nF G))), (fT, .inl (cZ, 41, .inl (bF P))), (fN, .inl (cI, 14, .inl N0))]) [0, 1, 2, 3, 4] (by decide) rfl) rfl rfl) rfl hl.1 rfl (Nat.le_of_ble_eq_true rfl) d_MO_falls_15 ⟨Nat.zero_le _, Nat.zero_le _⟩) hP hD hS [0, 1, 2, 3, 4] rfl (fun _ => rfl) (fun r_4 u_4 H locs hu_4 hP hS => ?_)
  obtain ⟨N9_4, rfl⟩ : ∃ z, z = u_4 := ⟨_, rfl⟩
  have hP : va_P (dC, dI) cls [(o, .inr (7, [.int (nI 0), .int (nI nd), .int (nI ar), .ref fF, .ref fG, .ref fT, .ref fN, .ref fW, .int be, .ref fO, .ref fB, .int bz, .ref fS, .ref fD, .int sz])), (fF, .inl (cI, 41, .inl (nF F))), (fG, .inl (cI, 41, .inl (nF G))), (fT, .inl (cZ, 41, .inl (bF P))), (fN, .inl (cI, 14, .inl N9_4))] H := hP
  have hD := hD.addr (ws' := [(o, .inr (7, [.int (nI 0), .int (nI nd), .int (nI ar), .ref fF, .ref fG, .ref fT, .ref fN, .ref fW, .int be, .ref fO, .ref fB, .int bz, .ref fS, .ref fD, .int sz])), (fF, .inl (cI, 41, .inl (nF F))), (fG, .inl (cI, 41, .inl (nF G))), (fT, .inl (cZ, 41, .inl (bF P))), (fN, .inl (cI, 14, .inl N9_4))]) rfl
  obtain ⟨kx_5, ek_5, hk_5⟩ := hu_4
  refine xe_i (y := (nI kx_5)) ek_5 ?_
  refine lv_goto (tgt := 22) hx hb d_MO_falls_18 (by decide) ?_
  exact W.iret (v := (nI kx_5)) hx hb hr (fun t9 ht9 _ => ⟨⟨_, (N9_4), rfl, ⟨_, rfl, hk_5⟩, by show va_P (dC, dI) cls _ t9.heap; rw [ht9]; exact hP⟩, hS.F ht9⟩) hS.2.2 d_MO_falls_22

set_option maxHeartbeats 4000000 in
set_option maxRecDepth 100000 in
theorem c_MO_block_k (l : Launch) (dC : Nat → ClassId) (dI : Nat → Nat → Nat) (cI cJ cZ : ClassId) (o fF fG fT fN fW fO fB fS fD : Nat) (th be bz sz : Int32) (nd ar : Nat) (F G : Nat → Nat) (P : Nat → Bool) (hF : ∀ k, F k < 14) (hG : ∀ k, G k < 14) (hnd : nd ≤ 14) (har : ar ≤ 40) (hM : ∀ e, e < ar → F e < nd ∧ G e < nd) (N0 : Nat → Int32) (x : Nat) (hxa : x < ar) (hPx : P x = true) : Met l ⟨"CutPointsModel", "block", "(I)I"⟩ (Cond.code ⟨"CutPointsModel", "block", "(I)I"⟩ prog_9_method_31_code 2 (some .int) :: TT) (rmk 3 74) (PM dC dI cI cJ cZ [.ref o, .int (nI x)] [(o, .inr (7, [.int th, .int (nI nd), .int (nI ar), .ref fF, .ref fG, .ref fT, .ref fN, .ref fW, .int be, .ref fO, .ref fB, .int bz, .ref fS, .ref fD, .int sz])), (fF, .inl (cI, 41, .inl (nF F))), (fG, .inl (cI, 41, .inl (nF G))), (fT, .inl (cZ, 41, .inl (bF P))), (fN, .inl (cI, 14, .inl N0))]) (va_Qi (S := Nat → Int32) (fun r u9 => ∃ v, r = nI v ∧ v ≤ x ∧ (P v = true ∧ abR ar nd P F G x v) ∧ ∀ f, f < v → ¬ (P f = true ∧ abR ar nd P F G x f)) (fun u9 t9 => va_P (dC, dI) cls ([(o, .inr (7, [.int (nI 0), .int (nI nd), .int (nI ar), .ref fF, .ref fG, .ref fT, .ref fN, .ref fW, .int be, .ref fO, .ref fB, .int bz, .ref fS, .ref fD, .int sz])), (fF, .inl (cI, 41, .inl (nF F))), (fG, .inl (cI, 41, .inl (nF G))), (fT, .inl (cZ, 41, .inl (bF P))), (fN, .inl (cI, 14, .inl u9))]) t9.heap) (ow [(o, .inr (7, [.int th, .int (nI nd), .int (nI ar), .ref fF, .ref fG, .ref fT, .ref fN, .ref fW, .int be, .ref fO, .ref fB, .int bz, .ref fS, .ref fD, .int sz])), (fF, .inl (cI, 41, .inl (nF F))), (fG, .inl (cI, 41, .inl (nF G))), (fT, .inl (cZ, 41, .inl (bF P))), (fN, .inl (cI, 14, .inl N0))])) 0 0 (ow [(o, .inr (7, [.int th, .int (nI nd), .int (nI ar), .ref fF, .ref fG, .ref fT, .ref fN, .ref fW, .int be, .ref fO, .ref fB, .int bz, .ref fS, .ref fD, .int sz])), (fF, .inl (cI, 41, .inl (nF F))), (fG, .inl (cI, 41, .inl (nF G))), (fT, .inl (cZ, 41, .inl (bF P))), (fN, .inl (cI, 14, .inl N0))]) := by
  refine Met.ofW (cc := prog_9_method_31_code) (maxL := 2) (ret := (some .int)) (by decide) rfl ?_
  intro p e s m args below meth c s₁ BB9 hml hv
  obtain ⟨rfl, hP, hK, hD0⟩ := hv
  have hx := BB9.exec
  have hb := BB9.bytes
  have hr := BB9.returns
  have hts : ∀ w ∈ TT, w.before _ s = true := fun w h => atoms_spec (ws := (Cond.code ⟨"CutPointsModel", "block", "(I)I"⟩ prog_9_method_31_code 2 (some .int) :: TT)) BB9.pre w (List.mem_cons_of_mem _ h)
  have hown : s.vm.findClass "CutPointsModel" = some m.cls := findClass_of_methodNamed BB9.named
  have hlocks := BB9.notSynchronized
  have hD := hD0.mine
  have hS : va_S (ow [(o, .inr (7, [.int th, .int (nI nd), .int (nI ar), .ref fF, .ref fG, .ref fT, .ref fN, .ref fW, .int be, .ref fO, .ref fB, .int bz, .ref fS, .ref fD, .int sz])), (fF, .inl (cI, 41, .inl (nF F))), (fG, .inl (cI, 41, .inl (nF G))), (fT, .inl (cZ, 41, .inl (bF P))), (fN, .inl (cI, 14, .inl N0))]) s.heap s.heap [] := va_S.rf
  have hl := lv_entry ([.ref o, .int (nI x)]) (n := 2) (Nat.le_of_ble_eq_true rfl)
  rw [lg_entry_eq]
  generalize (lg_sl ([.ref o, .int (nI x)]) ++ List.replicate (2 - (lg_sl ([.ref o, .int (nI x)])).length) Slot.unset).toArray = ls at hl ⊢
  have hl : lv_has ls 2 [(0, .ref o), (1, .int (nI x))] := hl
  refine lv_aload_n hx hb d_MO_block_0 rfl (lv_at hl 0 rfl) ?_
  refine lv_iconst (v := (nI 0)) hx hb d_MO_block_1 (by decide) ?_
  refine va_put (D := (dC, dI)) (ci := 7) (v := .int (nI 0)) (ty := .int) (C := R_MO) (T := F_MO) (N := 15) hx hb hts in_MO t_MO t_MO_ok n_MO hown hK.1 hP hD hS 0 rfl rfl 0 (by decide) (hts _ wfl_MO_38) (fun _ h9 => h9) rfl (by decide +kernel) rfl rfl (Nat.le_of_ble_eq_true rfl) d_MO_block_2 (fun H locs hP hD hS => ?_)
  have hP : va_P (dC, dI) cls [(o, .inr (7, [.int (nI 0), .int (nI nd), .int (nI ar), .ref fF, .ref fG, .ref fT, .ref fN, .ref fW, .int be, .ref fO, .ref fB, .int bz, .ref fS, .ref fD, .int sz])), (fF, .inl (cI, 41, .inl (nF F))), (fG, .inl (cI, 41, .inl (nF G))), (fT, .inl (cZ, 41, .inl (bF P))), (fN, .inl (cI, 14, .inl N0))] H := hP
  have hD : va_D (ow [(o, .inr (7, [.int th, .int (nI nd), .int (nI ar), .ref fF, .ref fG, .ref fT, .ref fN, .ref fW, .int be, .ref fO, .ref fB, .int bz, .ref fS, .ref fD, .int sz])), (fF, .inl (cI, 41, .inl (nF F))), (fG, .inl (cI, 41, .inl (nF G))), (fT, .inl (cZ, 41, .inl (bF P))), (fN, .inl (cI, 14, .inl N0))]) [(o, .inr (7, [.int (nI 0), .int (nI nd), .int (nI ar), .ref fF, .ref fG, .ref fT, .ref fN, .ref fW, .int be, .ref fO, .ref fB, .int bz, .ref fS, .ref fD, .int sz])), (fF, .inl (cI, 41, .inl (nF F))), (fG, .inl (cI, 41, .inl (nF G))), (fT, .inl (cZ, 41, .inl (bF P))), (fN, .inl (cI, 14, .inl N0))] := hD
  refine lv_aload_n hx hb d_MO_block_5 rfl (lv_at hl 0 rfl) ?_
  refine lv_iload_n hx hb d_MO_block_6 rfl (lv_at hl 1 rfl) ?_
  refine vp_callSi (va_Run.run (k_V (n := 1) (C := R_MO) (rest := []) ⟨hx, hb, hml, hown, hts⟩ (c_MO_isThere l dC dI cI cJ cZ o fF fG fT fN fW fO fB fS fD (nI 0) be bz sz nd ar P (nI x) (by first | assumption | omega)) wml_MO_113 wim_MO_isThere wsel_MO_isThere wini_MO wcode_MO_isThere (by decide +kernel) ⟨Nat.le_of_ble_eq_true rfl, Nat.le_of_ble_eq_true rfl⟩ (preV_R (q := (R_MO, F_MO, 15)) (ci := 7) (q0 := 0) (hP.sub (ws' := [(o, .inr (7, [.int (nI 0), .int (nI nd), .int (nI ar), .ref fF, .ref fG, .ref fT, .ref fN, .ref fW, .int be, .ref fO, .ref fB, .int bz, .ref fS, .ref fD, .int sz])), (fT, .inl (cZ, 41, .inl (bF P)))]) [0, 3] rfl) hK rfl rfl) rfl hl.1 rfl (Nat.le_of_ble_eq_true rfl) d_MO_block_7 ⟨Nat.zero_le _, Nat.zero_le _⟩)) (fun r_1 hr_2 => ?_)
  refine xe_i (y := (bI (vd (nI x) ar && P (nI x).toNatClampNeg))) hr_2 ?_
  refine xe_i (y := (bI true)) (by rw [tm_tt (by omega) hxa hPx]) ?_
  refine lv_if_eq (tgt := 21) hx hb d_MO_block_10 (by decide) (fun c9 => absurd c9 (by decide : ¬ ((bI true) : Int32) = 0)) (fun _ => ?_)
  refine lv_aload_n hx hb d_MO_block_13 rfl (lv_at hl 0 rfl) ?_
  refine lv_iload_n hx hb d_MO_block_14 rfl (lv_at hl 1 rfl) ?_
  refine x_ci (k_V (n := 1) (C := R_MO) (rest := []) ⟨hx, hb, hml, hown, hts⟩ (c_MO_blockOf l dC dI cI cJ cZ o fF fG fT fN fW fO fB fS fD (nI 0) be bz sz nd ar F G P hF hG (by first | assumption | omega) (by first | assumption | omega) hM N0 x (by first | assumption | omega) (by first | assumption | omega)) wml_MO_101 wim_MO_blockOf wsel_MO_blockOf wini_MO wcode_MO_blockOf (by decide +kernel) ⟨Nat.le_of_ble_eq_true rfl, Nat.le_of_ble_eq_true rfl⟩ (preV_M (q := (R_MO, F_MO, 15)) (ci := 7) (q0 := 0) (hP.sub (ws' := [(o, .inr (7, [.int (nI 0), .int (nI nd), .int (nI ar), .ref fF, .ref fG, .ref fT, .ref fN, .ref fW, .int be, .ref fO, .ref fB, .int bz, .ref fS, .ref fD, .int sz])), (fF, .inl (cI, 41, .inl (nF F))), (fG, .inl (cI, 41, .inl (nF G))), (fT, .inl (cZ, 41, .inl (bF P))), (fN, .inl (cI, 14, .inl N0))]) [0, 1, 2, 3, 4] rfl) hK (hD.sub (ws' := [(o, .inr (7, [.int (nI 0), .int (nI nd), .int (nI ar), .ref fF, .ref fG, .ref fT, .ref fN, .ref fW, .int be, .ref fO, .ref fB, .int bz, .ref fS, .ref fD, .int sz])), (fF, .inl (cI, 41, .inl (nF F))), (fG, .inl (cI, 41, .inl (nF G))), (fT, .inl (cZ, 41, .inl (bF P))), (fN, .inl (cI, 14, .inl N0))]) [0, 1, 2, 3, 4] (by decide) rfl) rfl rfl) rfl hl.1 rfl (Nat.le_of_ble_eq_true rfl) d_MO_block_15 ⟨Nat.zero_le _, Nat.zero_le _⟩) hP hD hS [0, 1, 2, 3, 4] rfl (fun _ => rfl) (fun r_4 u_4 H locs hu_4 hP hS => ?_)
  obtain ⟨N9_4, rfl⟩ : ∃ z, z = u_4 := ⟨_, rfl⟩
  have hP : va_P (dC, dI) cls [(o, .inr (7, [.int (nI 0), .int (nI nd), .int (nI ar), .ref fF, .ref fG, .ref fT, .ref fN, .ref fW, .int be, .ref fO, .ref fB, .int bz, .ref fS, .ref fD, .int sz])), (fF, .inl (cI, 41, .inl (nF F))), (fG, .inl (cI, 41, .inl (nF G))), (fT, .inl (cZ, 41, .inl (bF P))), (fN, .inl (cI, 14, .inl N9_4))] H := hP
  have hD := hD.addr (ws' := [(o, .inr (7, [.int (nI 0), .int (nI nd), .int (nI ar), .ref fF, .ref fG, .ref fT, .ref fN, .ref fW, .int be, .ref fO, .ref fB, .int bz, .ref fS, .ref fD, .int sz])), (fF, .inl (cI, 41, .inl (nF F))), (fG, .inl (cI, 41, .inl (nF G))), (fT, .inl (cZ, 41, .inl (bF P))), (fN, .inl (cI, 14, .inl N9_4))]) rfl
  obtain ⟨kx_5, ek_5, hk_5⟩ := hu_4
  refine xe_i (y := (nI kx_5)) ek_5 ?_
  refine lv_goto (tgt := 22) hx hb d_MO_block_18 (by decide) ?_
  exact W.iret (v := (nI kx_5)) hx hb hr (fun t9 ht9 _ => ⟨⟨_, (N9_4), rfl, ⟨_, rfl, hk_5⟩, by show va_P (dC, dI) cls _ t9.heap; rw [ht9]; exact hP⟩, hS.F ht9⟩) hS.2.2 d_MO_block_22

set_option maxHeartbeats 4000000 in
set_option maxRecDepth 100000 in
theorem c_MO_twin_k (l : Launch) (dC : Nat → ClassId) (dI : Nat → Nat → Nat) (cI cJ cZ : ClassId) (o fF fG fT fN fW fO fB fS fD : Nat) (th be bz sz : Int32) (nd ar : Nat) (F G : Nat → Nat) (P : Nat → Bool) (hF : ∀ k, F k < 14) (hG : ∀ k, G k < 14) (hnd : nd ≤ 14) (har : ar ≤ 40) (hM : ∀ e, e < ar → F e < nd ∧ G e < nd) (W0 : Nat → Int32) (N0 : Nat → Int32) (x : Nat) (hxn : x < nd) : Met l ⟨"CutPointsModel", "twin", "(I)I"⟩ (Cond.code ⟨"CutPointsModel", "twin", "(I)I"⟩ prog_9_method_32_code 2 (some .int) :: TT) (rmk 2 50) (PM dC dI cI cJ cZ [.ref o, .int (nI x)] [(o, .inr (7, [.int th, .int (nI nd), .int (nI ar), .ref fF, .ref fG, .ref fT, .ref fN, .ref fW, .int be, .ref fO, .ref fB, .int bz, .ref fS, .ref fD, .int sz])), (fF, .inl (cI, 41, .inl (nF F))), (fG, .inl (cI, 41, .inl (nF G))), (fT, .inl (cZ, 41, .inl (bF P))), (fN, .inl (cI, 14, .inl N0)), (fW, .inl (cI, 14, .inl W0))]) (va_Qi (S := (Nat → Int32) × (Nat → Int32)) (fun r u9 => ∃ v, r = nI v ∧ ∃ W, twI ar 0 nd P F G W (ar + 0) ∧ v = lsn (bt (W x)) 16) (fun u9 t9 => va_P (dC, dI) cls ([(o, .inr (7, [.int (nI 0), .int (nI nd), .int (nI ar), .ref fF, .ref fG, .ref fT, .ref fN, .ref fW, .int be, .ref fO, .ref fB, .int bz, .ref fS, .ref fD, .int sz])), (fF, .inl (cI, 41, .inl (nF F))), (fG, .inl (cI, 41, .inl (nF G))), (fT, .inl (cZ, 41, .inl (bF P))), (fN, .inl (cI, 14, .inl u9.1)), (fW, .inl (cI, 14, .inl u9.2))]) t9.heap) (ow [(o, .inr (7, [.int th, .int (nI nd), .int (nI ar), .ref fF, .ref fG, .ref fT, .ref fN, .ref fW, .int be, .ref fO, .ref fB, .int bz, .ref fS, .ref fD, .int sz])), (fF, .inl (cI, 41, .inl (nF F))), (fG, .inl (cI, 41, .inl (nF G))), (fT, .inl (cZ, 41, .inl (bF P))), (fN, .inl (cI, 14, .inl N0)), (fW, .inl (cI, 14, .inl W0))])) 0 0 (ow [(o, .inr (7, [.int th, .int (nI nd), .int (nI ar), .ref fF, .ref fG, .ref fT, .ref fN, .ref fW, .int be, .ref fO, .ref fB, .int bz, .ref fS, .ref fD, .int sz])), (fF, .inl (cI, 41, .inl (nF F))), (fG, .inl (cI, 41, .inl (nF G))), (fT, .inl (cZ, 41, .inl (bF P))), (fN, .inl (cI, 14, .inl N0)), (fW, .inl (cI, 14, .inl W0))]) := by
  refine Met.ofW (cc := prog_9_method_32_code) (maxL := 2) (ret := (some .int)) (by decide) rfl ?_
  intro p e s m args below meth c s₁ BB9 hml hv
  obtain ⟨rfl, hP, hK, hD0⟩ := hv
  have hx := BB9.exec
  have hb := BB9.bytes
  have hr := BB9.returns
  have hts : ∀ w ∈ TT, w.before _ s = true := fun w h => atoms_spec (ws := (Cond.code ⟨"CutPointsModel", "twin", "(I)I"⟩ prog_9_method_32_code 2 (some .int) :: TT)) BB9.pre w (List.mem_cons_of_mem _ h)
  have hown : s.vm.findClass "CutPointsModel" = some m.cls := findClass_of_methodNamed BB9.named
  have hlocks := BB9.notSynchronized
  have hD := hD0.mine
  have hS : va_S (ow [(o, .inr (7, [.int th, .int (nI nd), .int (nI ar), .ref fF, .ref fG, .ref fT, .ref fN, .ref fW, .int be, .ref fO, .ref fB, .int bz, .ref fS, .ref fD, .int sz])), (fF, .inl (cI, 41, .inl (nF F))), (fG, .inl (cI, 41, .inl (nF G))), (fT, .inl (cZ, 41, .inl (bF P))), (fN, .inl (cI, 14, .inl N0)), (fW, .inl (cI, 14, .inl W0))]) s.heap s.heap [] := va_S.rf
  have hl := lv_entry ([.ref o, .int (nI x)]) (n := 2) (Nat.le_of_ble_eq_true rfl)
  rw [lg_entry_eq]
  generalize (lg_sl ([.ref o, .int (nI x)]) ++ List.replicate (2 - (lg_sl ([.ref o, .int (nI x)])).length) Slot.unset).toArray = ls at hl ⊢
  have hl : lv_has ls 2 [(0, .ref o), (1, .int (nI x))] := hl
  refine lv_aload_n hx hb d_MO_twin_0 rfl (lv_at hl 0 rfl) ?_
  refine lv_iconst (v := (nI 0)) hx hb d_MO_twin_1 (by decide) ?_
  refine va_put (D := (dC, dI)) (ci := 7) (v := .int (nI 0)) (ty := .int) (C := R_MO) (T := F_MO) (N := 15) hx hb hts in_MO t_MO t_MO_ok n_MO hown hK.1 hP hD hS 0 rfl rfl 0 (by decide) (hts _ wfl_MO_38) (fun _ h9 => h9) rfl (by decide +kernel) rfl rfl (Nat.le_of_ble_eq_true rfl) d_MO_twin_2 (fun H locs hP hD hS => ?_)
  have hP : va_P (dC, dI) cls [(o, .inr (7, [.int (nI 0), .int (nI nd), .int (nI ar), .ref fF, .ref fG, .ref fT, .ref fN, .ref fW, .int be, .ref fO, .ref fB, .int bz, .ref fS, .ref fD, .int sz])), (fF, .inl (cI, 41, .inl (nF F))), (fG, .inl (cI, 41, .inl (nF G))), (fT, .inl (cZ, 41, .inl (bF P))), (fN, .inl (cI, 14, .inl N0)), (fW, .inl (cI, 14, .inl W0))] H := hP
  have hD : va_D (ow [(o, .inr (7, [.int th, .int (nI nd), .int (nI ar), .ref fF, .ref fG, .ref fT, .ref fN, .ref fW, .int be, .ref fO, .ref fB, .int bz, .ref fS, .ref fD, .int sz])), (fF, .inl (cI, 41, .inl (nF F))), (fG, .inl (cI, 41, .inl (nF G))), (fT, .inl (cZ, 41, .inl (bF P))), (fN, .inl (cI, 14, .inl N0)), (fW, .inl (cI, 14, .inl W0))]) [(o, .inr (7, [.int (nI 0), .int (nI nd), .int (nI ar), .ref fF, .ref fG, .ref fT, .ref fN, .ref fW, .int be, .ref fO, .ref fB, .int bz, .ref fS, .ref fD, .int sz])), (fF, .inl (cI, 41, .inl (nF F))), (fG, .inl (cI, 41, .inl (nF G))), (fT, .inl (cZ, 41, .inl (bF P))), (fN, .inl (cI, 14, .inl N0)), (fW, .inl (cI, 14, .inl W0))] := hD
  refine lv_aload_n hx hb d_MO_twin_5 rfl (lv_at hl 0 rfl) ?_
  refine lv_iload_n hx hb d_MO_twin_6 rfl (lv_at hl 1 rfl) ?_
  refine vp_callSi (va_Run.run (k_V (n := 1) (C := R_MO) (rest := []) ⟨hx, hb, hml, hown, hts⟩ (c_MO_isNode l dC dI cI cJ cZ o fF fG fT fN fW fO fB fS fD (nI 0) be bz sz nd ar (nI x) (by first | assumption | omega)) wml_MO_52 wim_MO_isNode wsel_MO_isNode wini_MO wcode_MO_isNode (by decide +kernel) ⟨Nat.le_of_ble_eq_true rfl, Nat.le_of_ble_eq_true rfl⟩ (preV_R (q := (R_MO, F_MO, 15)) (ci := 7) (q0 := 0) (hP.sub (ws' := [(o, .inr (7, [.int (nI 0), .int (nI nd), .int (nI ar), .ref fF, .ref fG, .ref fT, .ref fN, .ref fW, .int be, .ref fO, .ref fB, .int bz, .ref fS, .ref fD, .int sz]))]) [0] rfl) hK rfl rfl) rfl hl.1 rfl (Nat.le_of_ble_eq_true rfl) d_MO_twin_7 ⟨Nat.zero_le _, Nat.zero_le _⟩)) (fun r_1 hr_2 => ?_)
  refine xe_i (y := (bI (vd (nI x) nd))) hr_2 ?_
  refine xe_i (y := (bI true)) (by rw [vd_tt (by omega) hxn]) ?_
  refine lv_if_ne (tgt := 15) hx hb d_MO_twin_10 (by decide) (fun _ => ?_) (fun c9 => absurd c9 (by decide : ¬ ((bI true) : Int32) = 0))
  refine lv_aload_n hx hb d_MO_twin_15 rfl (lv_at hl 0 rfl) ?_
  refine lv_iconst (v := (nI 0)) hx hb d_MO_twin_16 (by decide) ?_
  refine x_cv (k_V (n := 1) (C := R_MO) (rest := []) ⟨hx, hb, hml, hown, hts⟩ (c_MO_lookTwins l dC dI cI cJ cZ o fF fG fT fN fW fO fB fS fD (nI 0) be bz sz nd ar F G P hF hG (by first | assumption | omega) (by first | assumption | omega) 0 (by first | assumption | omega) hM N0 W0) wml_MO_80 wim_MO_lookTwins wsel_MO_lookTwins wini_MO wcode_MO_lookTwins (by decide +kernel) ⟨Nat.le_of_ble_eq_true rfl, Nat.le_of_ble_eq_true rfl⟩ (preV_M (q := (R_MO, F_MO, 15)) (ci := 7) (q0 := 0) (hP.sub (ws' := [(o, .inr (7, [.int (nI 0), .int (nI nd), .int (nI ar), .ref fF, .ref fG, .ref fT, .ref fN, .ref fW, .int be, .ref fO, .ref fB, .int bz, .ref fS, .ref fD, .int sz])), (fF, .inl (cI, 41, .inl (nF F))), (fG, .inl (cI, 41, .inl (nF G))), (fT, .inl (cZ, 41, .inl (bF P))), (fN, .inl (cI, 14, .inl N0)), (fW, .inl (cI, 14, .inl W0))]) [0, 1, 2, 3, 4, 5] rfl) hK (hD.sub (ws' := [(o, .inr (7, [.int (nI 0), .int (nI nd), .int (nI ar), .ref fF, .ref fG, .ref fT, .ref fN, .ref fW, .int be, .ref fO, .ref fB, .int bz, .ref fS, .ref fD, .int sz])), (fF, .inl (cI, 41, .inl (nF F))), (fG, .inl (cI, 41, .inl (nF G))), (fT, .inl (cZ, 41, .inl (bF P))), (fN, .inl (cI, 14, .inl N0)), (fW, .inl (cI, 14, .inl W0))]) [0, 1, 2, 3, 4, 5] (by decide) rfl) rfl rfl) rfl hl.1 rfl (Nat.le_of_ble_eq_true rfl) d_MO_twin_17 ⟨Nat.zero_le _, Nat.zero_le _⟩) hP hD hS [0, 1, 2, 3, 4, 5] rfl (fun _ => rfl) (fun u_4 H locs hu_4 hP hS => ?_)
  obtain ⟨N9_4, W9_4⟩ := u_4
  have hP : va_P (dC, dI) cls [(o, .inr (7, [.int (nI 0), .int (nI nd), .int (nI ar), .ref fF, .ref fG, .ref fT, .ref fN, .ref fW, .int be, .ref fO, .ref fB, .int bz, .ref fS, .ref fD, .int sz])), (fF, .inl (cI, 41, .inl (nF F))), (fG, .inl (cI, 41, .inl (nF G))), (fT, .inl (cZ, 41, .inl (bF P))), (fN, .inl (cI, 14, .inl N9_4)), (fW, .inl (cI, 14, .inl W9_4))] H := hP
  have hD := hD.addr (ws' := [(o, .inr (7, [.int (nI 0), .int (nI nd), .int (nI ar), .ref fF, .ref fG, .ref fT, .ref fN, .ref fW, .int be, .ref fO, .ref fB, .int bz, .ref fS, .ref fD, .int sz])), (fF, .inl (cI, 41, .inl (nF F))), (fG, .inl (cI, 41, .inl (nF G))), (fT, .inl (cZ, 41, .inl (bF P))), (fN, .inl (cI, 14, .inl N9_4)), (fW, .inl (cI, 14, .inl W9_4))]) rfl
  refine lv_aload_n hx hb d_MO_twin_20 rfl (lv_at hl 0 rfl) ?_
  refine va_get (D := (dC, dI)) (ci := 7) (v := .ref fW) (C := R_MO) (T := F_MO) (N := 15) hx hb hts in_MO hown hK.1 hP 0 rfl rfl 7 (by decide) (hts _ wfl_MO_23) (fun _ h9 => h9) rfl d_MO_twin_21 ?_
  refine lv_iload_n hx hb d_MO_twin_24 rfl (lv_at hl 1 rfl) ?_
  refine x_iald (n := 14) (f := W9_4) (j := x) hx hb hK.1 hP 5 0 rfl rfl (by omega) (by omega) d_MO_twin_25 ?_
  refine vp_callSi (va_Run.run (k_S (n := 1) (rest := []) ⟨hx, hb, hml, hown, hts⟩ (c_MO_least l dC dI cI cJ cZ (W9_4 x)) wml_MO_56 wst_MO_least wini_MO wcode_MO_least (by decide +kernel) ⟨Nat.le_of_ble_eq_true rfl, Nat.le_of_ble_eq_true rfl⟩ (pre_R (hP.sub (ws' := []) [] rfl) hK) rfl hl.1 rfl (Nat.le_of_ble_eq_true rfl) d_MO_twin_26 ⟨Nat.zero_le _, Nat.zero_le _⟩)) (fun r_5 hr_6 => ?_)
  refine xe_i (y := (nI (lsn (bt (W9_4 x)) 16))) hr_6 ?_
  exact W.iret (v := (nI (lsn (bt (W9_4 x)) 16))) hx hb hr (fun t9 ht9 _ => ⟨⟨_, (N9_4, W9_4), rfl, ⟨_, rfl, _, hu_4, rfl⟩, by show va_P (dC, dI) cls _ t9.heap; rw [ht9]; exact hP⟩, hS.F ht9⟩) hS.2.2 d_MO_twin_29

set_option maxHeartbeats 4000000 in
set_option maxRecDepth 100000 in
theorem c_MO_arcs_k (l : Launch) (dC : Nat → ClassId) (dI : Nat → Nat → Nat) (cI cJ cZ : ClassId) (o fF fG fT fN fW fO fB fS fD : Nat) (th be bz sz : Int32) (nd ar : Nat) (F G : Nat → Nat) (P : Nat → Bool) (hF : ∀ k, F k < 14) (hG : ∀ k, G k < 14) (hnd : nd ≤ 14) (har : ar ≤ 40) (a b : Nat) (ha : a < nd) (hb_ : b < nd) (hab : a ≠ b) : Met l ⟨"CutPointsModel", "arcs", "(II)I"⟩ (Cond.code ⟨"CutPointsModel", "arcs", "(II)I"⟩ prog_9_method_34_code 3 (some .int) :: TT) (rmk 2 50) (PM dC dI cI cJ cZ [.ref o, .int (nI a), .int (nI b)] [(o, .inr (7, [.int th, .int (nI nd), .int (nI ar), .ref fF, .ref fG, .ref fT, .ref fN, .ref fW, .int be, .ref fO, .ref fB, .int bz, .ref fS, .ref fD, .int sz])), (fF, .inl (cI, 41, .inl (nF F))), (fG, .inl (cI, 41, .inl (nF G))), (fT, .inl (cZ, 41, .inl (bF P)))]) (va_Qi (S := Nat) (fun r u9 => ∃ fw, r = nI fw ∧ loI ar P F G a b fw u9 (2 ^ nd)) (fun u9 t9 => va_P (dC, dI) cls ([(o, .inr (7, [.int (nI 0), .int (nI nd), .int (nI ar), .ref fF, .ref fG, .ref fT, .ref fN, .ref fW, .int (nI u9), .ref fO, .ref fB, .int bz, .ref fS, .ref fD, .int sz])), (fF, .inl (cI, 41, .inl (nF F))), (fG, .inl (cI, 41, .inl (nF G))), (fT, .inl (cZ, 41, .inl (bF P)))]) t9.heap) (ow [(o, .inr (7, [.int th, .int (nI nd), .int (nI ar), .ref fF, .ref fG, .ref fT, .ref fN, .ref fW, .int be, .ref fO, .ref fB, .int bz, .ref fS, .ref fD, .int sz])), (fF, .inl (cI, 41, .inl (nF F))), (fG, .inl (cI, 41, .inl (nF G))), (fT, .inl (cZ, 41, .inl (bF P)))])) 0 0 (ow [(o, .inr (7, [.int th, .int (nI nd), .int (nI ar), .ref fF, .ref fG, .ref fT, .ref fN, .ref fW, .int be, .ref fO, .ref fB, .int bz, .ref fS, .ref fD, .int sz])), (fF, .inl (cI, 41, .inl (nF F))), (fG, .inl (cI, 41, .inl (nF G))), (fT, .inl (cZ, 41, .inl (bF P)))]) := by
  refine Met.ofW (cc := prog_9_method_34_code) (maxL := 3) (ret := (some .int)) (by decide) rfl ?_
  intro p e s m args below meth c s₁ BB9 hml hv
  obtain ⟨rfl, hP, hK, hD0⟩ := hv
  have hx := BB9.exec
  have hb := BB9.bytes
  have hr := BB9.returns
  have hts : ∀ w ∈ TT, w.before _ s = true := fun w h => atoms_spec (ws := (Cond.code ⟨"CutPointsModel", "arcs", "(II)I"⟩ prog_9_method_34_code 3 (some .int) :: TT)) BB9.pre w (List.mem_cons_of_mem _ h)
  have hown : s.vm.findClass "CutPointsModel" = some m.cls := findClass_of_methodNamed BB9.named
  have hlocks := BB9.notSynchronized
  have hD := hD0.mine
  have hS : va_S (ow [(o, .inr (7, [.int th, .int (nI nd), .int (nI ar), .ref fF, .ref fG, .ref fT, .ref fN, .ref fW, .int be, .ref fO, .ref fB, .int bz, .ref fS, .ref fD, .int sz])), (fF, .inl (cI, 41, .inl (nF F))), (fG, .inl (cI, 41, .inl (nF G))), (fT, .inl (cZ, 41, .inl (bF P)))]) s.heap s.heap [] := va_S.rf
  have hl := lv_entry ([.ref o, .int (nI a), .int (nI b)]) (n := 3) (Nat.le_of_ble_eq_true rfl)
  rw [lg_entry_eq]
  generalize (lg_sl ([.ref o, .int (nI a), .int (nI b)]) ++ List.replicate (3 - (lg_sl ([.ref o, .int (nI a), .int (nI b)])).length) Slot.unset).toArray = ls at hl ⊢
  have hl : lv_has ls 3 [(0, .ref o), (1, .int (nI a)), (2, .int (nI b))] := hl
  refine lv_aload_n hx hb d_MO_arcs_0 rfl (lv_at hl 0 rfl) ?_
  refine lv_iconst (v := (nI 0)) hx hb d_MO_arcs_1 (by decide) ?_
  refine va_put (D := (dC, dI)) (ci := 7) (v := .int (nI 0)) (ty := .int) (C := R_MO) (T := F_MO) (N := 15) hx hb hts in_MO t_MO t_MO_ok n_MO hown hK.1 hP hD hS 0 rfl rfl 0 (by decide) (hts _ wfl_MO_38) (fun _ h9 => h9) rfl (by decide +kernel) rfl rfl (Nat.le_of_ble_eq_true rfl) d_MO_arcs_2 (fun H locs hP hD hS => ?_)
  have hP : va_P (dC, dI) cls [(o, .inr (7, [.int (nI 0), .int (nI nd), .int (nI ar), .ref fF, .ref fG, .ref fT, .ref fN, .ref fW, .int be, .ref fO, .ref fB, .int bz, .ref fS, .ref fD, .int sz])), (fF, .inl (cI, 41, .inl (nF F))), (fG, .inl (cI, 41, .inl (nF G))), (fT, .inl (cZ, 41, .inl (bF P)))] H := hP
  have hD : va_D (ow [(o, .inr (7, [.int th, .int (nI nd), .int (nI ar), .ref fF, .ref fG, .ref fT, .ref fN, .ref fW, .int be, .ref fO, .ref fB, .int bz, .ref fS, .ref fD, .int sz])), (fF, .inl (cI, 41, .inl (nF F))), (fG, .inl (cI, 41, .inl (nF G))), (fT, .inl (cZ, 41, .inl (bF P)))]) [(o, .inr (7, [.int (nI 0), .int (nI nd), .int (nI ar), .ref fF, .ref fG, .ref fT, .ref fN, .ref fW, .int be, .ref fO, .ref fB, .int bz, .ref fS, .ref fD, .int sz])), (fF, .inl (cI, 41, .inl (nF F))), (fG, .inl (cI, 41, .inl (nF G))), (fT, .inl (cZ, 41, .inl (bF P)))] := hD
  refine lv_aload_n hx hb d_MO_arcs_5 rfl (lv_at hl 0 rfl) ?_
  refine lv_iload_n hx hb d_MO_arcs_6 rfl (lv_at hl 1 rfl) ?_
  refine vp_callSi (va_Run.run (k_V (n := 1) (C := R_MO) (rest := []) ⟨hx, hb, hml, hown, hts⟩ (c_MO_isNode l dC dI cI cJ cZ o fF fG fT fN fW fO fB fS fD (nI 0) be bz sz nd ar (nI a) (by first | assumption | omega)) wml_MO_52 wim_MO_isNode wsel_MO_isNode wini_MO wcode_MO_isNode (by decide +kernel) ⟨Nat.le_of_ble_eq_true rfl, Nat.le_of_ble_eq_true rfl⟩ (preV_R (q := (R_MO, F_MO, 15)) (ci := 7) (q0 := 0) (hP.sub (ws' := [(o, .inr (7, [.int (nI 0), .int (nI nd), .int (nI ar), .ref fF, .ref fG, .ref fT, .ref fN, .ref fW, .int be, .ref fO, .ref fB, .int bz, .ref fS, .ref fD, .int sz]))]) [0] rfl) hK rfl rfl) rfl hl.1 rfl (Nat.le_of_ble_eq_true rfl) d_MO_arcs_7 ⟨Nat.zero_le _, Nat.zero_le _⟩)) (fun r_1 hr_2 => ?_)
  refine xe_i (y := (bI (vd (nI a) nd))) hr_2 ?_
  refine xe_i (y := (bI true)) (by rw [vd_tt (by omega) ha]) ?_
  refine lv_if_eq (tgt := 21) hx hb d_MO_arcs_10 (by decide) (fun c9 => absurd c9 (by decide : ¬ ((bI true) : Int32) = 0)) (fun _ => ?_)
  refine lv_aload_n hx hb d_MO_arcs_13 rfl (lv_at hl 0 rfl) ?_
  refine lv_iload_n hx hb d_MO_arcs_14 rfl (lv_at hl 2 rfl) ?_
  refine vp_callSi (va_Run.run (k_V (n := 1) (C := R_MO) (rest := []) ⟨hx, hb, hml, hown, hts⟩ (c_MO_isNode l dC dI cI cJ cZ o fF fG fT fN fW fO fB fS fD (nI 0) be bz sz nd ar (nI b) (by first | assumption | omega)) wml_MO_52 wim_MO_isNode wsel_MO_isNode wini_MO wcode_MO_isNode (by decide +kernel) ⟨Nat.le_of_ble_eq_true rfl, Nat.le_of_ble_eq_true rfl⟩ (preV_R (q := (R_MO, F_MO, 15)) (ci := 7) (q0 := 0) (hP.sub (ws' := [(o, .inr (7, [.int (nI 0), .int (nI nd), .int (nI ar), .ref fF, .ref fG, .ref fT, .ref fN, .ref fW, .int be, .ref fO, .ref fB, .int bz, .ref fS, .ref fD, .int sz]))]) [0] rfl) hK rfl rfl) rfl hl.1 rfl (Nat.le_of_ble_eq_true rfl) d_MO_arcs_15 ⟨Nat.zero_le _, Nat.zero_le _⟩)) (fun r_4 hr_5 => ?_)
  refine xe_i (y := (bI (vd (nI b) nd))) hr_5 ?_
  refine xe_i (y := (bI true)) (by rw [vd_tt (by omega) hb_]) ?_
  refine lv_if_ne (tgt := 23) hx hb d_MO_arcs_18 (by decide) (fun _ => ?_) (fun c9 => absurd c9 (by decide : ¬ ((bI true) : Int32) = 0))
  refine lv_iload_n hx hb d_MO_arcs_23 rfl (lv_at hl 1 rfl) ?_
  refine lv_iload_n hx hb d_MO_arcs_24 rfl (lv_at hl 2 rfl) ?_
  refine x_cmp_ne (a := a) (b := b) (tgt := 33) hx hb (by omega) (by omega) d_MO_arcs_25 (by decide) (fun c_7 => ?_) (fun c_7 => ?_)
  · skip
    refine lv_aload_n hx hb d_MO_arcs_33 rfl (lv_at hl 0 rfl) ?_
    refine lv_iload_n hx hb d_MO_arcs_34 rfl (lv_at hl 1 rfl) ?_
    refine lv_iload_n hx hb d_MO_arcs_35 rfl (lv_at hl 2 rfl) ?_
    refine x_ci (k_V (n := 2) (C := R_MO) (rest := []) ⟨hx, hb, hml, hown, hts⟩ (c_MO_leastOut l dC dI cI cJ cZ o fF fG fT fN fW fO fB fS fD (nI 0) be bz sz nd ar F G P hF hG (by first | assumption | omega) (by first | assumption | omega) a b (by first | assumption | omega) (by first | assumption | omega)) wml_MO_119 wim_MO_leastOut wsel_MO_leastOut wini_MO wcode_MO_leastOut (by decide +kernel) ⟨Nat.le_of_ble_eq_true rfl, Nat.le_of_ble_eq_true rfl⟩ (preV_M (q := (R_MO, F_MO, 15)) (ci := 7) (q0 := 0) (hP.sub (ws' := [(o, .inr (7, [.int (nI 0), .int (nI nd), .int (nI ar), .ref fF, .ref fG, .ref fT, .ref fN, .ref fW, .int be, .ref fO, .ref fB, .int bz, .ref fS, .ref fD, .int sz])), (fF, .inl (cI, 41, .inl (nF F))), (fG, .inl (cI, 41, .inl (nF G))), (fT, .inl (cZ, 41, .inl (bF P)))]) [0, 1, 2, 3] rfl) hK (hD.sub (ws' := [(o, .inr (7, [.int (nI 0), .int (nI nd), .int (nI ar), .ref fF, .ref fG, .ref fT, .ref fN, .ref fW, .int be, .ref fO, .ref fB, .int bz, .ref fS, .ref fD, .int sz])), (fF, .inl (cI, 41, .inl (nF F))), (fG, .inl (cI, 41, .inl (nF G))), (fT, .inl (cZ, 41, .inl (bF P)))]) [0, 1, 2, 3] (by decide) rfl) rfl rfl) rfl hl.1 rfl (Nat.le_of_ble_eq_true rfl) d_MO_arcs_36 ⟨Nat.zero_le _, Nat.zero_le _⟩) hP hD hS [0, 1, 2, 3] rfl (fun _ => rfl) (fun r_8 u_8 H locs hu_8 hP hS => ?_)
    obtain ⟨bs9_8, rfl⟩ : ∃ z, z = u_8 := ⟨_, rfl⟩
    have hP : va_P (dC, dI) cls [(o, .inr (7, [.int (nI 0), .int (nI nd), .int (nI ar), .ref fF, .ref fG, .ref fT, .ref fN, .ref fW, .int (nI bs9_8), .ref fO, .ref fB, .int bz, .ref fS, .ref fD, .int sz])), (fF, .inl (cI, 41, .inl (nF F))), (fG, .inl (cI, 41, .inl (nF G))), (fT, .inl (cZ, 41, .inl (bF P)))] H := hP
    have hD := hD.addr (ws' := [(o, .inr (7, [.int (nI 0), .int (nI nd), .int (nI ar), .ref fF, .ref fG, .ref fT, .ref fN, .ref fW, .int (nI bs9_8), .ref fO, .ref fB, .int bz, .ref fS, .ref fD, .int sz])), (fF, .inl (cI, 41, .inl (nF F))), (fG, .inl (cI, 41, .inl (nF G))), (fT, .inl (cZ, 41, .inl (bF P)))]) rfl
    obtain ⟨kx_9, ek_9, hk_9⟩ := hu_8
    refine xe_i (y := (nI kx_9)) ek_9 ?_
    exact W.iret (v := (nI kx_9)) hx hb hr (fun t9 ht9 _ => ⟨⟨_, (bs9_8), rfl, ⟨_, rfl, hk_9⟩, by show va_P (dC, dI) cls _ t9.heap; rw [ht9]; exact hP⟩, hS.F ht9⟩) hS.2.2 d_MO_arcs_39
  · skip
    exact absurd c_7 hab

set_option maxHeartbeats 4000000 in
set_option maxRecDepth 100000 in
theorem c_MO_side_k (l : Launch) (dC : Nat → ClassId) (dI : Nat → Nat → Nat) (cI cJ cZ : ClassId) (o fF fG fT fN fW fO fB fS fD : Nat) (th be bz sz : Int32) (nd ar : Nat) (F G : Nat → Nat) (P : Nat → Bool) (hF : ∀ k, F k < 14) (hG : ∀ k, G k < 14) (hnd : nd ≤ 14) (har : ar ≤ 40) (a b : Nat) (ha : a < nd) (hb_ : b < nd) (hab : a ≠ b) : Met l ⟨"CutPointsModel", "side", "(II)I"⟩ (Cond.code ⟨"CutPointsModel", "side", "(II)I"⟩ prog_9_method_35_code 3 (some .int) :: TT) (rmk 2 50) (PM dC dI cI cJ cZ [.ref o, .int (nI a), .int (nI b)] [(o, .inr (7, [.int th, .int (nI nd), .int (nI ar), .ref fF, .ref fG, .ref fT, .ref fN, .ref fW, .int be, .ref fO, .ref fB, .int bz, .ref fS, .ref fD, .int sz])), (fF, .inl (cI, 41, .inl (nF F))), (fG, .inl (cI, 41, .inl (nF G))), (fT, .inl (cZ, 41, .inl (bF P)))]) (va_Qi (S := Nat) (fun r u9 => r = nI u9 ∧ ∃ fw, loI ar P F G a b fw u9 (2 ^ nd)) (fun u9 t9 => va_P (dC, dI) cls ([(o, .inr (7, [.int (nI 0), .int (nI nd), .int (nI ar), .ref fF, .ref fG, .ref fT, .ref fN, .ref fW, .int (nI u9), .ref fO, .ref fB, .int bz, .ref fS, .ref fD, .int sz])), (fF, .inl (cI, 41, .inl (nF F))), (fG, .inl (cI, 41, .inl (nF G))), (fT, .inl (cZ, 41, .inl (bF P)))]) t9.heap) (ow [(o, .inr (7, [.int th, .int (nI nd), .int (nI ar), .ref fF, .ref fG, .ref fT, .ref fN, .ref fW, .int be, .ref fO, .ref fB, .int bz, .ref fS, .ref fD, .int sz])), (fF, .inl (cI, 41, .inl (nF F))), (fG, .inl (cI, 41, .inl (nF G))), (fT, .inl (cZ, 41, .inl (bF P)))])) 0 0 (ow [(o, .inr (7, [.int th, .int (nI nd), .int (nI ar), .ref fF, .ref fG, .ref fT, .ref fN, .ref fW, .int be, .ref fO, .ref fB, .int bz, .ref fS, .ref fD, .int sz])), (fF, .inl (cI, 41, .inl (nF F))), (fG, .inl (cI, 41, .inl (nF G))), (fT, .inl (cZ, 41, .inl (bF P)))]) := by
  refine Met.ofW (cc := prog_9_method_35_code) (maxL := 3) (ret := (some .int)) (by decide) rfl ?_
  intro p e s m args below meth c s₁ BB9 hml hv
  obtain ⟨rfl, hP, hK, hD0⟩ := hv
  have hx := BB9.exec
  have hb := BB9.bytes
  have hr := BB9.returns
  have hts : ∀ w ∈ TT, w.before _ s = true := fun w h => atoms_spec (ws := (Cond.code ⟨"CutPointsModel", "side", "(II)I"⟩ prog_9_method_35_code 3 (some .int) :: TT)) BB9.pre w (List.mem_cons_of_mem _ h)
  have hown : s.vm.findClass "CutPointsModel" = some m.cls := findClass_of_methodNamed BB9.named
  have hlocks := BB9.notSynchronized
  have hD := hD0.mine
  have hS : va_S (ow [(o, .inr (7, [.int th, .int (nI nd), .int (nI ar), .ref fF, .ref fG, .ref fT, .ref fN, .ref fW, .int be, .ref fO, .ref fB, .int bz, .ref fS, .ref fD, .int sz])), (fF, .inl (cI, 41, .inl (nF F))), (fG, .inl (cI, 41, .inl (nF G))), (fT, .inl (cZ, 41, .inl (bF P)))]) s.heap s.heap [] := va_S.rf
  have hl := lv_entry ([.ref o, .int (nI a), .int (nI b)]) (n := 3) (Nat.le_of_ble_eq_true rfl)
  rw [lg_entry_eq]
  generalize (lg_sl ([.ref o, .int (nI a), .int (nI b)]) ++ List.replicate (3 - (lg_sl ([.ref o, .int (nI a), .int (nI b)])).length) Slot.unset).toArray = ls at hl ⊢
  have hl : lv_has ls 3 [(0, .ref o), (1, .int (nI a)), (2, .int (nI b))] := hl
  refine lv_aload_n hx hb d_MO_side_0 rfl (lv_at hl 0 rfl) ?_
  refine lv_iconst (v := (nI 0)) hx hb d_MO_side_1 (by decide) ?_
  refine va_put (D := (dC, dI)) (ci := 7) (v := .int (nI 0)) (ty := .int) (C := R_MO) (T := F_MO) (N := 15) hx hb hts in_MO t_MO t_MO_ok n_MO hown hK.1 hP hD hS 0 rfl rfl 0 (by decide) (hts _ wfl_MO_38) (fun _ h9 => h9) rfl (by decide +kernel) rfl rfl (Nat.le_of_ble_eq_true rfl) d_MO_side_2 (fun H locs hP hD hS => ?_)
  have hP : va_P (dC, dI) cls [(o, .inr (7, [.int (nI 0), .int (nI nd), .int (nI ar), .ref fF, .ref fG, .ref fT, .ref fN, .ref fW, .int be, .ref fO, .ref fB, .int bz, .ref fS, .ref fD, .int sz])), (fF, .inl (cI, 41, .inl (nF F))), (fG, .inl (cI, 41, .inl (nF G))), (fT, .inl (cZ, 41, .inl (bF P)))] H := hP
  have hD : va_D (ow [(o, .inr (7, [.int th, .int (nI nd), .int (nI ar), .ref fF, .ref fG, .ref fT, .ref fN, .ref fW, .int be, .ref fO, .ref fB, .int bz, .ref fS, .ref fD, .int sz])), (fF, .inl (cI, 41, .inl (nF F))), (fG, .inl (cI, 41, .inl (nF G))), (fT, .inl (cZ, 41, .inl (bF P)))]) [(o, .inr (7, [.int (nI 0), .int (nI nd), .int (nI ar), .ref fF, .ref fG, .ref fT, .ref fN, .ref fW, .int be, .ref fO, .ref fB, .int bz, .ref fS, .ref fD, .int sz])), (fF, .inl (cI, 41, .inl (nF F))), (fG, .inl (cI, 41, .inl (nF G))), (fT, .inl (cZ, 41, .inl (bF P)))] := hD
  refine lv_aload_n hx hb d_MO_side_5 rfl (lv_at hl 0 rfl) ?_
  refine lv_iload_n hx hb d_MO_side_6 rfl (lv_at hl 1 rfl) ?_
  refine vp_callSi (va_Run.run (k_V (n := 1) (C := R_MO) (rest := []) ⟨hx, hb, hml, hown, hts⟩ (c_MO_isNode l dC dI cI cJ cZ o fF fG fT fN fW fO fB fS fD (nI 0) be bz sz nd ar (nI a) (by first | assumption | omega)) wml_MO_52 wim_MO_isNode wsel_MO_isNode wini_MO wcode_MO_isNode (by decide +kernel) ⟨Nat.le_of_ble_eq_true rfl, Nat.le_of_ble_eq_true rfl⟩ (preV_R (q := (R_MO, F_MO, 15)) (ci := 7) (q0 := 0) (hP.sub (ws' := [(o, .inr (7, [.int (nI 0), .int (nI nd), .int (nI ar), .ref fF, .ref fG, .ref fT, .ref fN, .ref fW, .int be, .ref fO, .ref fB, .int bz, .ref fS, .ref fD, .int sz]))]) [0] rfl) hK rfl rfl) rfl hl.1 rfl (Nat.le_of_ble_eq_true rfl) d_MO_side_7 ⟨Nat.zero_le _, Nat.zero_le _⟩)) (fun r_1 hr_2 => ?_)
  refine xe_i (y := (bI (vd (nI a) nd))) hr_2 ?_
  refine xe_i (y := (bI true)) (by rw [vd_tt (by omega) ha]) ?_
  refine lv_if_eq (tgt := 21) hx hb d_MO_side_10 (by decide) (fun c9 => absurd c9 (by decide : ¬ ((bI true) : Int32) = 0)) (fun _ => ?_)
  refine lv_aload_n hx hb d_MO_side_13 rfl (lv_at hl 0 rfl) ?_
  refine lv_iload_n hx hb d_MO_side_14 rfl (lv_at hl 2 rfl) ?_
  refine vp_callSi (va_Run.run (k_V (n := 1) (C := R_MO) (rest := []) ⟨hx, hb, hml, hown, hts⟩ (c_MO_isNode l dC dI cI cJ cZ o fF fG fT fN fW fO fB fS fD (nI 0) be bz sz nd ar (nI b) (by first | assumption | omega)) wml_MO_52 wim_MO_isNode wsel_MO_isNode wini_MO wcode_MO_isNode (by decide +kernel) ⟨Nat.le_of_ble_eq_true rfl, Nat.le_of_ble_eq_true rfl⟩ (preV_R (q := (R_MO, F_MO, 15)) (ci := 7) (q0 := 0) (hP.sub (ws' := [(o, .inr (7, [.int (nI 0), .int (nI nd), .int (nI ar), .ref fF, .ref fG, .ref fT, .ref fN, .ref fW, .int be, .ref fO, .ref fB, .int bz, .ref fS, .ref fD, .int sz]))]) [0] rfl) hK rfl rfl) rfl hl.1 rfl (Nat.le_of_ble_eq_true rfl) d_MO_side_15 ⟨Nat.zero_le _, Nat.zero_le _⟩)) (fun r_4 hr_5 => ?_)
  refine xe_i (y := (bI (vd (nI b) nd))) hr_5 ?_
  refine xe_i (y := (bI true)) (by rw [vd_tt (by omega) hb_]) ?_
  refine lv_if_ne (tgt := 23) hx hb d_MO_side_18 (by decide) (fun _ => ?_) (fun c9 => absurd c9 (by decide : ¬ ((bI true) : Int32) = 0))
  refine lv_iload_n hx hb d_MO_side_23 rfl (lv_at hl 1 rfl) ?_
  refine lv_iload_n hx hb d_MO_side_24 rfl (lv_at hl 2 rfl) ?_
  refine x_cmp_ne (a := a) (b := b) (tgt := 31) hx hb (by omega) (by omega) d_MO_side_25 (by decide) (fun c_7 => ?_) (fun c_7 => ?_)
  · skip
    refine lv_aload_n hx hb d_MO_side_31 rfl (lv_at hl 0 rfl) ?_
    refine lv_iload_n hx hb d_MO_side_32 rfl (lv_at hl 1 rfl) ?_
    refine lv_iload_n hx hb d_MO_side_33 rfl (lv_at hl 2 rfl) ?_
    refine x_ci (k_V (n := 2) (C := R_MO) (rest := []) ⟨hx, hb, hml, hown, hts⟩ (c_MO_leastOut l dC dI cI cJ cZ o fF fG fT fN fW fO fB fS fD (nI 0) be bz sz nd ar F G P hF hG (by first | assumption | omega) (by first | assumption | omega) a b (by first | assumption | omega) (by first | assumption | omega)) wml_MO_119 wim_MO_leastOut wsel_MO_leastOut wini_MO wcode_MO_leastOut (by decide +kernel) ⟨Nat.le_of_ble_eq_true rfl, Nat.le_of_ble_eq_true rfl⟩ (preV_M (q := (R_MO, F_MO, 15)) (ci := 7) (q0 := 0) (hP.sub (ws' := [(o, .inr (7, [.int (nI 0), .int (nI nd), .int (nI ar), .ref fF, .ref fG, .ref fT, .ref fN, .ref fW, .int be, .ref fO, .ref fB, .int bz, .ref fS, .ref fD, .int sz])), (fF, .inl (cI, 41, .inl (nF F))), (fG, .inl (cI, 41, .inl (nF G))), (fT, .inl (cZ, 41, .inl (bF P)))]) [0, 1, 2, 3] rfl) hK (hD.sub (ws' := [(o, .inr (7, [.int (nI 0), .int (nI nd), .int (nI ar), .ref fF, .ref fG, .ref fT, .ref fN, .ref fW, .int be, .ref fO, .ref fB, .int bz, .ref fS, .ref fD, .int sz])), (fF, .inl (cI, 41, .inl (nF F))), (fG, .inl (cI, 41, .inl (nF G))), (fT, .inl (cZ, 41, .inl (bF P)))]) [0, 1, 2, 3] (by decide) rfl) rfl rfl) rfl hl.1 rfl (Nat.le_of_ble_eq_true rfl) d_MO_side_34 ⟨Nat.zero_le _, Nat.zero_le _⟩) hP hD hS [0, 1, 2, 3] rfl (fun _ => rfl) (fun r_8 u_8 H locs hu_8 hP hS => ?_)
    obtain ⟨bs9_8, rfl⟩ : ∃ z, z = u_8 := ⟨_, rfl⟩
    have hP : va_P (dC, dI) cls [(o, .inr (7, [.int (nI 0), .int (nI nd), .int (nI ar), .ref fF, .ref fG, .ref fT, .ref fN, .ref fW, .int (nI bs9_8), .ref fO, .ref fB, .int bz, .ref fS, .ref fD, .int sz])), (fF, .inl (cI, 41, .inl (nF F))), (fG, .inl (cI, 41, .inl (nF G))), (fT, .inl (cZ, 41, .inl (bF P)))] H := hP
    have hD := hD.addr (ws' := [(o, .inr (7, [.int (nI 0), .int (nI nd), .int (nI ar), .ref fF, .ref fG, .ref fT, .ref fN, .ref fW, .int (nI bs9_8), .ref fO, .ref fB, .int bz, .ref fS, .ref fD, .int sz])), (fF, .inl (cI, 41, .inl (nF F))), (fG, .inl (cI, 41, .inl (nF G))), (fT, .inl (cZ, 41, .inl (bF P)))]) rfl
    obtain ⟨kx_9, ek_9, hk_9⟩ := hu_8
    refine xe_i (y := (nI kx_9)) ek_9 ?_
    refine lv_pop hx hb d_MO_side_37 rfl ?_
    refine lv_aload_n hx hb d_MO_side_38 rfl (lv_at hl 0 rfl) ?_
    refine va_get (D := (dC, dI)) (ci := 7) (v := .int (nI bs9_8)) (C := R_MO) (T := F_MO) (N := 15) hx hb hts in_MO hown hK.1 hP 0 rfl rfl 8 (by decide) (hts _ wfl_MO_116) (fun _ h9 => h9) rfl d_MO_side_39 ?_
    exact W.iret (v := (nI bs9_8)) hx hb hr (fun t9 ht9 _ => ⟨⟨_, (bs9_8), rfl, ⟨rfl, _, hk_9⟩, by show va_P (dC, dI) cls _ t9.heap; rw [ht9]; exact hP⟩, hS.F ht9⟩) hS.2.2 d_MO_side_42
  · skip
    exact absurd c_7 hab

theorem d_MO_worn_0 : decode prog_9_method_50_code 0 = .ok (.aload_n 0, 1) := by decide +kernel
theorem d_MO_worn_1 : decode prog_9_method_50_code 1 = .ok (.iconst 0, 1) := by decide +kernel
theorem d_MO_worn_2 : decode prog_9_method_50_code 2 = .ok (.putfield 38, 3) := by decide +kernel
theorem d_MO_worn_5 : decode prog_9_method_50_code 5 = .ok (.aload_n 0, 1) := by decide +kernel
theorem d_MO_worn_6 : decode prog_9_method_50_code 6 = .ok (.invokevirtual 110, 3) := by decide +kernel
theorem d_MO_worn_9 : decode prog_9_method_50_code 9 = .ok (.ireturn, 1) := by decide +kernel
set_option maxHeartbeats 4000000 in
set_option maxRecDepth 100000 in
theorem c_MO_worn (l : Launch) (dC : Nat → ClassId) (dI : Nat → Nat → Nat) (cI cJ cZ : ClassId) (o fF fG fT fN fW fO fB fS fD : Nat) (th be bz sz : Int32) (nd ar : Nat) (F G : Nat → Nat) (P : Nat → Bool) (hF : ∀ k, F k < 14) (hG : ∀ k, G k < 14) (hnd : nd ≤ 14) (har : ar ≤ 40) (hM : ∀ e, e < ar → F e < nd ∧ G e < nd) (hL : ∀ e, e < ar → F e ≠ G e) (N0 : Nat → Int32) : Met l ⟨"CutPointsModel", "worn", "()I"⟩ (Cond.code ⟨"CutPointsModel", "worn", "()I"⟩ prog_9_method_50_code 1 (some .int) :: TT) (rmk 3 73) (PM dC dI cI cJ cZ [.ref o] [(o, .inr (7, [.int th, .int (nI nd), .int (nI ar), .ref fF, .ref fG, .ref fT, .ref fN, .ref fW, .int be, .ref fO, .ref fB, .int bz, .ref fS, .ref fD, .int sz])), (fF, .inl (cI, 41, .inl (nF F))), (fG, .inl (cI, 41, .inl (nF G))), (fT, .inl (cZ, 41, .inl (bF P))), (fN, .inl (cI, 14, .inl N0))]) (va_Qi (S := Nat → Int32) (fun r u9 => ∃ N, NR (lkT ar 0 P (-1) (-1) (nI 0) F G) F G N ∧ WR (wS (sb nd - nI 1) N) r) (fun u9 t9 => va_P (dC, dI) cls ([(o, .inr (7, [.int (nI 0), .int (nI nd), .int (nI ar), .ref fF, .ref fG, .ref fT, .ref fN, .ref fW, .int be, .ref fO, .ref fB, .int bz, .ref fS, .ref fD, .int sz])), (fF, .inl (cI, 41, .inl (nF F))), (fG, .inl (cI, 41, .inl (nF G))), (fT, .inl (cZ, 41, .inl (bF P))), (fN, .inl (cI, 14, .inl u9))]) t9.heap) (ow [(o, .inr (7, [.int th, .int (nI nd), .int (nI ar), .ref fF, .ref fG, .ref fT, .ref fN, .ref fW, .int be, .ref fO, .ref fB, .int bz, .ref fS, .ref fD, .int sz])), (fF, .inl (cI, 41, .inl (nF F))), (fG, .inl (cI, 41, .inl (nF G))), (fT, .inl (cZ, 41, .inl (bF P))), (fN, .inl (cI, 14, .inl N0))])) 0 0 (ow [(o, .inr (7, [.int th, .int (nI nd), .int (nI ar), .ref fF, .ref fG, .ref fT, .ref fN, .ref fW, .int be, .ref fO, .ref fB, .int bz, .ref fS, .ref fD, .int sz])), (fF, .inl (cI, 41, .inl (nF F))), (fG, .inl (cI, 41, .inl (nF G))), (fT, .inl (cZ, 41, .inl (bF P))), (fN, .inl (cI, 14, .inl N0))]) := by
  refine Met.ofW (cc := prog_9_method_50_code) (maxL := 1) (ret := (some .int)) (by decide) rfl ?_
  intro p e s m args below meth c s₁ BB9 hml hv
  obtain ⟨rfl, hP, hK, hD0⟩ := hv
  have hx := BB9.exec
  have hb := BB9.bytes
  have hr := BB9.returns
  have hts : ∀ w ∈ TT, w.before _ s = true := fun w h => atoms_spec (ws := (Cond.code ⟨"CutPointsModel", "worn", "()I"⟩ prog_9_method_50_code 1 (some .int) :: TT)) BB9.pre w (List.mem_cons_of_mem _ h)
  have hown : s.vm.findClass "CutPointsModel" = some m.cls := findClass_of_methodNamed BB9.named
  have hlocks := BB9.notSynchronized
  have hD := hD0.mine
  have hS : va_S (ow [(o, .inr (7, [.int th, .int (nI nd), .int (nI ar), .ref fF, .ref fG, .ref fT, .ref fN, .ref fW, .int be, .ref fO, .ref fB, .int bz, .ref fS, .ref fD, .int sz])), (fF, .inl (cI, 41, .inl (nF F))), (fG, .inl (cI, 41, .inl (nF G))), (fT, .inl (cZ, 41, .inl (bF P))), (fN, .inl (cI, 14, .inl N0))]) s.heap s.heap [] := va_S.rf
  have hl := lv_entry ([.ref o]) (n := 1) (Nat.le_of_ble_eq_true rfl)
  rw [lg_entry_eq]
  generalize (lg_sl ([.ref o]) ++ List.replicate (1 - (lg_sl ([.ref o])).length) Slot.unset).toArray = ls at hl ⊢
  have hl : lv_has ls 1 [(0, .ref o)] := hl
  refine lv_aload_n hx hb d_MO_worn_0 rfl (lv_at hl 0 rfl) ?_
  refine lv_iconst (v := (nI 0)) hx hb d_MO_worn_1 (by decide) ?_
  refine va_put (D := (dC, dI)) (ci := 7) (v := .int (nI 0)) (ty := .int) (C := R_MO) (T := F_MO) (N := 15) hx hb hts in_MO t_MO t_MO_ok n_MO hown hK.1 hP hD hS 0 rfl rfl 0 (by decide) (hts _ wfl_MO_38) (fun _ h9 => h9) rfl (by decide +kernel) rfl rfl (Nat.le_of_ble_eq_true rfl) d_MO_worn_2 (fun H locs hP hD hS => ?_)
  have hP : va_P (dC, dI) cls [(o, .inr (7, [.int (nI 0), .int (nI nd), .int (nI ar), .ref fF, .ref fG, .ref fT, .ref fN, .ref fW, .int be, .ref fO, .ref fB, .int bz, .ref fS, .ref fD, .int sz])), (fF, .inl (cI, 41, .inl (nF F))), (fG, .inl (cI, 41, .inl (nF G))), (fT, .inl (cZ, 41, .inl (bF P))), (fN, .inl (cI, 14, .inl N0))] H := hP
  have hD : va_D (ow [(o, .inr (7, [.int th, .int (nI nd), .int (nI ar), .ref fF, .ref fG, .ref fT, .ref fN, .ref fW, .int be, .ref fO, .ref fB, .int bz, .ref fS, .ref fD, .int sz])), (fF, .inl (cI, 41, .inl (nF F))), (fG, .inl (cI, 41, .inl (nF G))), (fT, .inl (cZ, 41, .inl (bF P))), (fN, .inl (cI, 14, .inl N0))]) [(o, .inr (7, [.int (nI 0), .int (nI nd), .int (nI ar), .ref fF, .ref fG, .ref fT, .ref fN, .ref fW, .int be, .ref fO, .ref fB, .int bz, .ref fS, .ref fD, .int sz])), (fF, .inl (cI, 41, .inl (nF F))), (fG, .inl (cI, 41, .inl (nF G))), (fT, .inl (cZ, 41, .inl (bF P))), (fN, .inl (cI, 14, .inl N0))] := hD
  refine lv_aload_n hx hb d_MO_worn_5 rfl (lv_at hl 0 rfl) ?_
  refine x_ci (k_V (n := 0) (C := R_MO) (rest := []) ⟨hx, hb, hml, hown, hts⟩ (c_MO_wornSet l dC dI cI cJ cZ o fF fG fT fN fW fO fB fS fD (nI 0) be bz sz nd ar F G P hF hG (by first | assumption | omega) (by first | assumption | omega) hM hL N0) wml_MO_110 wim_MO_wornSet wsel_MO_wornSet wini_MO wcode_MO_wornSet (by decide +kernel) ⟨Nat.le_of_ble_eq_true rfl, Nat.le_of_ble_eq_true rfl⟩ (preV_M (q := (R_MO, F_MO, 15)) (ci := 7) (q0 := 0) (hP.sub (ws' := [(o, .inr (7, [.int (nI 0), .int (nI nd), .int (nI ar), .ref fF, .ref fG, .ref fT, .ref fN, .ref fW, .int be, .ref fO, .ref fB, .int bz, .ref fS, .ref fD, .int sz])), (fF, .inl (cI, 41, .inl (nF F))), (fG, .inl (cI, 41, .inl (nF G))), (fT, .inl (cZ, 41, .inl (bF P))), (fN, .inl (cI, 14, .inl N0))]) [0, 1, 2, 3, 4] rfl) hK (hD.sub (ws' := [(o, .inr (7, [.int (nI 0), .int (nI nd), .int (nI ar), .ref fF, .ref fG, .ref fT, .ref fN, .ref fW, .int be, .ref fO, .ref fB, .int bz, .ref fS, .ref fD, .int sz])), (fF, .inl (cI, 41, .inl (nF F))), (fG, .inl (cI, 41, .inl (nF G))), (fT, .inl (cZ, 41, .inl (bF P))), (fN, .inl (cI, 14, .inl N0))]) [0, 1, 2, 3, 4] (by decide) rfl) rfl rfl) rfl hl.1 rfl (Nat.le_of_ble_eq_true rfl) d_MO_worn_6 ⟨Nat.zero_le _, Nat.zero_le _⟩) hP hD hS [0, 1, 2, 3, 4] rfl (fun _ => rfl) (fun r_1 u_1 H locs hu_1 hP hS => ?_)
  obtain ⟨N9_1, rfl⟩ : ∃ z, z = u_1 := ⟨_, rfl⟩
  have hP : va_P (dC, dI) cls [(o, .inr (7, [.int (nI 0), .int (nI nd), .int (nI ar), .ref fF, .ref fG, .ref fT, .ref fN, .ref fW, .int be, .ref fO, .ref fB, .int bz, .ref fS, .ref fD, .int sz])), (fF, .inl (cI, 41, .inl (nF F))), (fG, .inl (cI, 41, .inl (nF G))), (fT, .inl (cZ, 41, .inl (bF P))), (fN, .inl (cI, 14, .inl N9_1))] H := hP
  have hD := hD.addr (ws' := [(o, .inr (7, [.int (nI 0), .int (nI nd), .int (nI ar), .ref fF, .ref fG, .ref fT, .ref fN, .ref fW, .int be, .ref fO, .ref fB, .int bz, .ref fS, .ref fD, .int sz])), (fF, .inl (cI, 41, .inl (nF F))), (fG, .inl (cI, 41, .inl (nF G))), (fT, .inl (cZ, 41, .inl (bF P))), (fN, .inl (cI, 14, .inl N9_1))]) rfl
  exact W.iret (v := r_1) hx hb hr (fun t9 ht9 _ => ⟨⟨_, (N9_1), rfl, hu_1, by show va_P (dC, dI) cls _ t9.heap; rw [ht9]; exact hP⟩, hS.F ht9⟩) hS.2.2 d_MO_worn_9

theorem d_MO_count_0 : decode prog_9_method_27_code 0 = .ok (.aload_n 0, 1) := by decide +kernel
theorem d_MO_count_1 : decode prog_9_method_27_code 1 = .ok (.iconst 0, 1) := by decide +kernel
theorem d_MO_count_2 : decode prog_9_method_27_code 2 = .ok (.putfield 38, 3) := by decide +kernel
theorem d_MO_count_5 : decode prog_9_method_27_code 5 = .ok (.iconst 0, 1) := by decide +kernel
theorem d_MO_count_6 : decode prog_9_method_27_code 6 = .ok (.istore_n 2, 1) := by decide +kernel
theorem d_MO_count_7 : decode prog_9_method_27_code 7 = .ok (.iload_n 1, 1) := by decide +kernel
theorem d_MO_count_8 : decode prog_9_method_27_code 8 = .ok (.tableswitch 246 0 8 #[52, 57, 92, 105, 148, 183, 227, 232, 238], 52) := by decide +kernel
theorem d_MO_count_60 : decode prog_9_method_27_code 60 = .ok (.aload_n 0, 1) := by decide +kernel
theorem d_MO_count_61 : decode prog_9_method_27_code 61 = .ok (.getfield 42, 3) := by decide +kernel
theorem d_MO_count_64 : decode prog_9_method_27_code 64 = .ok (.ireturn, 1) := by decide +kernel
theorem d_MO_count_65 : decode prog_9_method_27_code 65 = .ok (.iconst 0, 1) := by decide +kernel
theorem d_MO_count_66 : decode prog_9_method_27_code 66 = .ok (.istore_n 3, 1) := by decide +kernel
theorem d_MO_count_67 : decode prog_9_method_27_code 67 = .ok (.iload_n 3, 1) := by decide +kernel
theorem d_MO_count_68 : decode prog_9_method_27_code 68 = .ok (.aload_n 0, 1) := by decide +kernel
theorem d_MO_count_69 : decode prog_9_method_27_code 69 = .ok (.getfield 45, 3) := by decide +kernel
theorem d_MO_count_72 : decode prog_9_method_27_code 72 = .ok (.if_icmp .ge 26, 3) := by decide +kernel
theorem d_MO_count_75 : decode prog_9_method_27_code 75 = .ok (.iload_n 2, 1) := by decide +kernel
theorem d_MO_count_76 : decode prog_9_method_27_code 76 = .ok (.aload_n 0, 1) := by decide +kernel
theorem d_MO_count_77 : decode prog_9_method_27_code 77 = .ok (.getfield 16, 3) := by decide +kernel
theorem d_MO_count_80 : decode prog_9_method_27_code 80 = .ok (.iload_n 3, 1) := by decide +kernel
theorem d_MO_count_81 : decode prog_9_method_27_code 81 = .ok (.baload, 1) := by decide +kernel
theorem d_MO_count_82 : decode prog_9_method_27_code 82 = .ok (.ifCond .eq 7, 3) := by decide +kernel
theorem d_MO_count_85 : decode prog_9_method_27_code 85 = .ok (.iconst 1, 1) := by decide +kernel
theorem d_MO_count_86 : decode prog_9_method_27_code 86 = .ok (.goto 4, 3) := by decide +kernel
theorem d_MO_count_89 : decode prog_9_method_27_code 89 = .ok (.iconst 0, 1) := by decide +kernel
theorem d_MO_count_90 : decode prog_9_method_27_code 90 = .ok (.iadd, 1) := by decide +kernel
theorem d_MO_count_91 : decode prog_9_method_27_code 91 = .ok (.istore_n 2, 1) := by decide +kernel
theorem d_MO_count_92 : decode prog_9_method_27_code 92 = .ok (.iinc 3 1, 3) := by decide +kernel
theorem d_MO_count_95 : decode prog_9_method_27_code 95 = .ok (.goto (-28), 3) := by decide +kernel
theorem d_MO_count_98 : decode prog_9_method_27_code 98 = .ok (.iload_n 2, 1) := by decide +kernel
theorem d_MO_count_99 : decode prog_9_method_27_code 99 = .ok (.ireturn, 1) := by decide +kernel
theorem d_MO_count_100 : decode prog_9_method_27_code 100 = .ok (.aload_n 0, 1) := by decide +kernel
theorem d_MO_count_101 : decode prog_9_method_27_code 101 = .ok (.invokevirtual 67, 3) := by decide +kernel
theorem d_MO_count_104 : decode prog_9_method_27_code 104 = .ok (.aload_n 0, 1) := by decide +kernel
theorem d_MO_count_105 : decode prog_9_method_27_code 105 = .ok (.aload_n 0, 1) := by decide +kernel
theorem d_MO_count_106 : decode prog_9_method_27_code 106 = .ok (.invokevirtual 88, 3) := by decide +kernel
theorem d_MO_count_109 : decode prog_9_method_27_code 109 = .ok (.invokevirtual 73, 3) := by decide +kernel
theorem d_MO_count_112 : decode prog_9_method_27_code 112 = .ok (.ireturn, 1) := by decide +kernel
theorem d_MO_count_113 : decode prog_9_method_27_code 113 = .ok (.iconst 0, 1) := by decide +kernel
theorem d_MO_count_114 : decode prog_9_method_27_code 114 = .ok (.istore_n 3, 1) := by decide +kernel
theorem d_MO_count_115 : decode prog_9_method_27_code 115 = .ok (.iload_n 3, 1) := by decide +kernel
theorem d_MO_count_116 : decode prog_9_method_27_code 116 = .ok (.aload_n 0, 1) := by decide +kernel
theorem d_MO_count_117 : decode prog_9_method_27_code 117 = .ok (.getfield 45, 3) := by decide +kernel
theorem d_MO_count_120 : decode prog_9_method_27_code 120 = .ok (.if_icmp .ge 34, 3) := by decide +kernel
theorem d_MO_count_123 : decode prog_9_method_27_code 123 = .ok (.iload_n 2, 1) := by decide +kernel
theorem d_MO_count_124 : decode prog_9_method_27_code 124 = .ok (.aload_n 0, 1) := by decide +kernel
theorem d_MO_count_125 : decode prog_9_method_27_code 125 = .ok (.getfield 16, 3) := by decide +kernel
theorem d_MO_count_128 : decode prog_9_method_27_code 128 = .ok (.iload_n 3, 1) := by decide +kernel
theorem d_MO_count_129 : decode prog_9_method_27_code 129 = .ok (.baload, 1) := by decide +kernel
theorem d_MO_count_130 : decode prog_9_method_27_code 130 = .ok (.ifCond .eq 15, 3) := by decide +kernel
theorem d_MO_count_133 : decode prog_9_method_27_code 133 = .ok (.aload_n 0, 1) := by decide +kernel
theorem d_MO_count_134 : decode prog_9_method_27_code 134 = .ok (.iload_n 3, 1) := by decide +kernel
theorem d_MO_count_135 : decode prog_9_method_27_code 135 = .ok (.invokevirtual 95, 3) := by decide +kernel
theorem d_MO_count_138 : decode prog_9_method_27_code 138 = .ok (.ifCond .eq 7, 3) := by decide +kernel
theorem d_MO_count_141 : decode prog_9_method_27_code 141 = .ok (.iconst 1, 1) := by decide +kernel
theorem d_MO_count_142 : decode prog_9_method_27_code 142 = .ok (.goto 4, 3) := by decide +kernel
theorem d_MO_count_145 : decode prog_9_method_27_code 145 = .ok (.iconst 0, 1) := by decide +kernel
theorem d_MO_count_146 : decode prog_9_method_27_code 146 = .ok (.iadd, 1) := by decide +kernel
theorem d_MO_count_147 : decode prog_9_method_27_code 147 = .ok (.istore_n 2, 1) := by decide +kernel
theorem d_MO_count_148 : decode prog_9_method_27_code 148 = .ok (.iinc 3 1, 3) := by decide +kernel
theorem d_MO_count_151 : decode prog_9_method_27_code 151 = .ok (.goto (-36), 3) := by decide +kernel
theorem d_MO_count_154 : decode prog_9_method_27_code 154 = .ok (.iload_n 2, 1) := by decide +kernel
theorem d_MO_count_155 : decode prog_9_method_27_code 155 = .ok (.ireturn, 1) := by decide +kernel
theorem d_MO_count_156 : decode prog_9_method_27_code 156 = .ok (.iconst 0, 1) := by decide +kernel
theorem d_MO_count_157 : decode prog_9_method_27_code 157 = .ok (.istore_n 3, 1) := by decide +kernel
theorem d_MO_count_158 : decode prog_9_method_27_code 158 = .ok (.iload_n 3, 1) := by decide +kernel
theorem d_MO_count_159 : decode prog_9_method_27_code 159 = .ok (.aload_n 0, 1) := by decide +kernel
theorem d_MO_count_160 : decode prog_9_method_27_code 160 = .ok (.getfield 42, 3) := by decide +kernel
theorem d_MO_count_163 : decode prog_9_method_27_code 163 = .ok (.if_icmp .ge 26, 3) := by decide +kernel
theorem d_MO_count_166 : decode prog_9_method_27_code 166 = .ok (.iload_n 2, 1) := by decide +kernel
theorem d_MO_count_167 : decode prog_9_method_27_code 167 = .ok (.aload_n 0, 1) := by decide +kernel
theorem d_MO_count_168 : decode prog_9_method_27_code 168 = .ok (.iload_n 3, 1) := by decide +kernel
theorem d_MO_count_169 : decode prog_9_method_27_code 169 = .ok (.invokevirtual 98, 3) := by decide +kernel
theorem d_MO_count_172 : decode prog_9_method_27_code 172 = .ok (.iconst 1, 1) := by decide +kernel
theorem d_MO_count_173 : decode prog_9_method_27_code 173 = .ok (.if_icmp .le 7, 3) := by decide +kernel
theorem d_MO_count_176 : decode prog_9_method_27_code 176 = .ok (.iconst 1, 1) := by decide +kernel
theorem d_MO_count_177 : decode prog_9_method_27_code 177 = .ok (.goto 4, 3) := by decide +kernel
theorem d_MO_count_180 : decode prog_9_method_27_code 180 = .ok (.iconst 0, 1) := by decide +kernel
theorem d_MO_count_181 : decode prog_9_method_27_code 181 = .ok (.iadd, 1) := by decide +kernel
theorem d_MO_count_182 : decode prog_9_method_27_code 182 = .ok (.istore_n 2, 1) := by decide +kernel
theorem d_MO_count_183 : decode prog_9_method_27_code 183 = .ok (.iinc 3 1, 3) := by decide +kernel
theorem d_MO_count_186 : decode prog_9_method_27_code 186 = .ok (.goto (-28), 3) := by decide +kernel
theorem d_MO_count_189 : decode prog_9_method_27_code 189 = .ok (.iload_n 2, 1) := by decide +kernel
theorem d_MO_count_190 : decode prog_9_method_27_code 190 = .ok (.ireturn, 1) := by decide +kernel
theorem d_MO_count_191 : decode prog_9_method_27_code 191 = .ok (.iconst 0, 1) := by decide +kernel
theorem d_MO_count_192 : decode prog_9_method_27_code 192 = .ok (.istore_n 3, 1) := by decide +kernel
theorem d_MO_count_193 : decode prog_9_method_27_code 193 = .ok (.iload_n 3, 1) := by decide +kernel
theorem d_MO_count_194 : decode prog_9_method_27_code 194 = .ok (.aload_n 0, 1) := by decide +kernel
theorem d_MO_count_195 : decode prog_9_method_27_code 195 = .ok (.getfield 45, 3) := by decide +kernel
theorem d_MO_count_198 : decode prog_9_method_27_code 198 = .ok (.if_icmp .ge 35, 3) := by decide +kernel
theorem d_MO_count_201 : decode prog_9_method_27_code 201 = .ok (.iload_n 2, 1) := by decide +kernel
theorem d_MO_count_202 : decode prog_9_method_27_code 202 = .ok (.aload_n 0, 1) := by decide +kernel
theorem d_MO_count_203 : decode prog_9_method_27_code 203 = .ok (.getfield 16, 3) := by decide +kernel
theorem d_MO_count_206 : decode prog_9_method_27_code 206 = .ok (.iload_n 3, 1) := by decide +kernel
theorem d_MO_count_207 : decode prog_9_method_27_code 207 = .ok (.baload, 1) := by decide +kernel
theorem d_MO_count_208 : decode prog_9_method_27_code 208 = .ok (.ifCond .eq 16, 3) := by decide +kernel
theorem d_MO_count_211 : decode prog_9_method_27_code 211 = .ok (.aload_n 0, 1) := by decide +kernel
theorem d_MO_count_212 : decode prog_9_method_27_code 212 = .ok (.iload_n 3, 1) := by decide +kernel
theorem d_MO_count_213 : decode prog_9_method_27_code 213 = .ok (.invokevirtual 101, 3) := by decide +kernel
theorem d_MO_count_216 : decode prog_9_method_27_code 216 = .ok (.iload_n 3, 1) := by decide +kernel
theorem d_MO_count_217 : decode prog_9_method_27_code 217 = .ok (.if_icmp .ne 7, 3) := by decide +kernel
theorem d_MO_count_220 : decode prog_9_method_27_code 220 = .ok (.iconst 1, 1) := by decide +kernel
theorem d_MO_count_221 : decode prog_9_method_27_code 221 = .ok (.goto 4, 3) := by decide +kernel
theorem d_MO_count_224 : decode prog_9_method_27_code 224 = .ok (.iconst 0, 1) := by decide +kernel
theorem d_MO_count_225 : decode prog_9_method_27_code 225 = .ok (.iadd, 1) := by decide +kernel
theorem d_MO_count_226 : decode prog_9_method_27_code 226 = .ok (.istore_n 2, 1) := by decide +kernel
theorem d_MO_count_227 : decode prog_9_method_27_code 227 = .ok (.iinc 3 1, 3) := by decide +kernel
theorem d_MO_count_230 : decode prog_9_method_27_code 230 = .ok (.goto (-37), 3) := by decide +kernel
theorem d_MO_count_233 : decode prog_9_method_27_code 233 = .ok (.iload_n 2, 1) := by decide +kernel
theorem d_MO_count_234 : decode prog_9_method_27_code 234 = .ok (.ireturn, 1) := by decide +kernel
theorem d_MO_count_235 : decode prog_9_method_27_code 235 = .ok (.aload_n 0, 1) := by decide +kernel
theorem d_MO_count_236 : decode prog_9_method_27_code 236 = .ok (.invokevirtual 104, 3) := by decide +kernel
theorem d_MO_count_239 : decode prog_9_method_27_code 239 = .ok (.ireturn, 1) := by decide +kernel
theorem d_MO_count_240 : decode prog_9_method_27_code 240 = .ok (.aload_n 0, 1) := by decide +kernel
theorem d_MO_count_241 : decode prog_9_method_27_code 241 = .ok (.iconst 0, 1) := by decide +kernel
theorem d_MO_count_242 : decode prog_9_method_27_code 242 = .ok (.invokevirtual 107, 3) := by decide +kernel
theorem d_MO_count_245 : decode prog_9_method_27_code 245 = .ok (.ireturn, 1) := by decide +kernel
theorem d_MO_count_246 : decode prog_9_method_27_code 246 = .ok (.aload_n 0, 1) := by decide +kernel
theorem d_MO_count_247 : decode prog_9_method_27_code 247 = .ok (.invokevirtual 110, 3) := by decide +kernel
theorem d_MO_count_250 : decode prog_9_method_27_code 250 = .ok (.invokestatic 92, 3) := by decide +kernel
theorem d_MO_count_253 : decode prog_9_method_27_code 253 = .ok (.ireturn, 1) := by decide +kernel
theorem d_MO_count_254 : decode prog_9_method_27_code 254 = .ok (.bipush (-2), 2) := by decide +kernel
theorem d_MO_count_256 : decode prog_9_method_27_code 256 = .ok (.ireturn, 1) := by decide +kernel
set_option maxHeartbeats 4000000 in
set_option maxRecDepth 100000 in
theorem c_MO_count_0 (l : Launch) (dC : Nat → ClassId) (dI : Nat → Nat → Nat) (cI cJ cZ : ClassId) (o fF fG fT fN fW fO fB fS fD : Nat) (th be bz sz : Int32) (nd ar : Nat) : Met l ⟨"CutPointsModel", "count", "(I)I"⟩ (Cond.code ⟨"CutPointsModel", "count", "(I)I"⟩ prog_9_method_27_code 4 (some .int) :: TT) (rmk 0 0) (PM dC dI cI cJ cZ [.ref o, .int (nI 0)] [(o, .inr (7, [.int th, .int (nI nd), .int (nI ar), .ref fF, .ref fG, .ref fT, .ref fN, .ref fW, .int be, .ref fO, .ref fB, .int bz, .ref fS, .ref fD, .int sz]))]) (va_Qi (S := Unit) (fun r u9 => r = nI nd) (fun u9 t9 => va_P (dC, dI) cls ([(o, .inr (7, [.int (nI 0), .int (nI nd), .int (nI ar), .ref fF, .ref fG, .ref fT, .ref fN, .ref fW, .int be, .ref fO, .ref fB, .int bz, .ref fS, .ref fD, .int sz]))]) t9.heap) (ow [(o, .inr (7, [.int th, .int (nI nd), .int (nI ar), .ref fF, .ref fG, .ref fT, .ref fN, .ref fW, .int be, .ref fO, .ref fB, .int bz, .ref fS, .ref fD, .int sz]))])) 0 0 (ow [(o, .inr (7, [.int th, .int (nI nd), .int (nI ar), .ref fF, .ref fG, .ref fT, .ref fN, .ref fW, .int be, .ref fO, .ref fB, .int bz, .ref fS, .ref fD, .int sz]))]) := by
  refine Met.ofW (cc := prog_9_method_27_code) (maxL := 4) (ret := (some .int)) (by decide) rfl ?_
  intro p e s m args below meth c s₁ BB9 hml hv
  obtain ⟨rfl, hP, hK, hD0⟩ := hv
  have hx := BB9.exec
  have hb := BB9.bytes
  have hr := BB9.returns
  have hts : ∀ w ∈ TT, w.before _ s = true := fun w h => atoms_spec (ws := (Cond.code ⟨"CutPointsModel", "count", "(I)I"⟩ prog_9_method_27_code 4 (some .int) :: TT)) BB9.pre w (List.mem_cons_of_mem _ h)
  have hown : s.vm.findClass "CutPointsModel" = some m.cls := findClass_of_methodNamed BB9.named
  have hlocks := BB9.notSynchronized
  have hD := hD0.mine
  have hS : va_S (ow [(o, .inr (7, [.int th, .int (nI nd), .int (nI ar), .ref fF, .ref fG, .ref fT, .ref fN, .ref fW, .int be, .ref fO, .ref fB, .int bz, .ref fS, .ref fD, .int sz]))]) s.heap s.heap [] := va_S.rf
  have hl := lv_entry ([.ref o, .int (nI 0)]) (n := 4) (Nat.le_of_ble_eq_true rfl)
  rw [lg_entry_eq]
  generalize (lg_sl ([.ref o, .int (nI 0)]) ++ List.replicate (4 - (lg_sl ([.ref o, .int (nI 0)])).length) Slot.unset).toArray = ls at hl ⊢
  have hl : lv_has ls 4 [(0, .ref o), (1, .int (nI 0))] := hl
  refine lv_aload_n hx hb d_MO_count_0 rfl (lv_at hl 0 rfl) ?_
  refine lv_iconst (v := (nI 0)) hx hb d_MO_count_1 (by decide) ?_
  refine va_put (D := (dC, dI)) (ci := 7) (v := .int (nI 0)) (ty := .int) (C := R_MO) (T := F_MO) (N := 15) hx hb hts in_MO t_MO t_MO_ok n_MO hown hK.1 hP hD hS 0 rfl rfl 0 (by decide) (hts _ wfl_MO_38) (fun _ h9 => h9) rfl (by decide +kernel) rfl rfl (Nat.le_of_ble_eq_true rfl) d_MO_count_2 (fun H locs hP hD hS => ?_)
  have hP : va_P (dC, dI) cls [(o, .inr (7, [.int (nI 0), .int (nI nd), .int (nI ar), .ref fF, .ref fG, .ref fT, .ref fN, .ref fW, .int be, .ref fO, .ref fB, .int bz, .ref fS, .ref fD, .int sz]))] H := hP
  have hD : va_D (ow [(o, .inr (7, [.int th, .int (nI nd), .int (nI ar), .ref fF, .ref fG, .ref fT, .ref fN, .ref fW, .int be, .ref fO, .ref fB, .int bz, .ref fS, .ref fD, .int sz]))]) [(o, .inr (7, [.int (nI 0), .int (nI nd), .int (nI ar), .ref fF, .ref fG, .ref fT, .ref fN, .ref fW, .int be, .ref fO, .ref fB, .int bz, .ref fS, .ref fD, .int sz]))] := hD
  refine lv_iconst (v := (nI 0)) hx hb d_MO_count_5 (by decide) ?_
  refine lv_istore_n (lv' := [(2, .int (nI 0)), (0, .ref o), (1, .int (nI 0))]) hx hb d_MO_count_6 rfl hl (by decide) rfl (fun ls hl => ?_)
  refine lv_iload_n hx hb d_MO_count_7 rfl (lv_at hl 2 rfl) ?_
  refine lv_tableIn (off := 52) (tgt := 60) hx hb d_MO_count_8 (by decide) (by decide) (by decide) (by decide) ?_
  refine lv_aload_n hx hb d_MO_count_60 rfl (lv_at hl 1 rfl) ?_
  refine va_get (D := (dC, dI)) (ci := 7) (v := .int (nI nd)) (C := R_MO) (T := F_MO) (N := 15) hx hb hts in_MO hown hK.1 hP 0 rfl rfl 1 (by decide) (hts _ wfl_MO_42) (fun _ h9 => h9) rfl d_MO_count_61 ?_
  exact W.iret (v := (nI nd)) hx hb hr (fun t9 ht9 _ => ⟨⟨_, (), rfl, rfl, by show va_P (dC, dI) cls _ t9.heap; rw [ht9]; exact hP⟩, hS.F ht9⟩) hS.2.2 d_MO_count_64

set_option maxHeartbeats 4000000 in
set_option maxRecDepth 100000 in
theorem c_MO_count_1 (l : Launch) (dC : Nat → ClassId) (dI : Nat → Nat → Nat) (cI cJ cZ : ClassId) (o fF fG fT fN fW fO fB fS fD : Nat) (th be bz sz : Int32) (nd ar : Nat) (P : Nat → Bool) (har : ar ≤ 40) : Met l ⟨"CutPointsModel", "count", "(I)I"⟩ (Cond.code ⟨"CutPointsModel", "count", "(I)I"⟩ prog_9_method_27_code 4 (some .int) :: TT) (rmk 0 0) (PM dC dI cI cJ cZ [.ref o, .int (nI 1)] [(o, .inr (7, [.int th, .int (nI nd), .int (nI ar), .ref fF, .ref fG, .ref fT, .ref fN, .ref fW, .int be, .ref fO, .ref fB, .int bz, .ref fS, .ref fD, .int sz])), (fT, .inl (cZ, 41, .inl (bF P)))]) (va_Qi (S := Unit) (fun r u9 => r = nI (cn P ar)) (fun u9 t9 => va_P (dC, dI) cls ([(o, .inr (7, [.int (nI 0), .int (nI nd), .int (nI ar), .ref fF, .ref fG, .ref fT, .ref fN, .ref fW, .int be, .ref fO, .ref fB, .int bz, .ref fS, .ref fD, .int sz])), (fT, .inl (cZ, 41, .inl (bF P)))]) t9.heap) (ow [(o, .inr (7, [.int th, .int (nI nd), .int (nI ar), .ref fF, .ref fG, .ref fT, .ref fN, .ref fW, .int be, .ref fO, .ref fB, .int bz, .ref fS, .ref fD, .int sz])), (fT, .inl (cZ, 41, .inl (bF P)))])) 0 0 (ow [(o, .inr (7, [.int th, .int (nI nd), .int (nI ar), .ref fF, .ref fG, .ref fT, .ref fN, .ref fW, .int be, .ref fO, .ref fB, .int bz, .ref fS, .ref fD, .int sz])), (fT, .inl (cZ, 41, .inl (bF P)))]) := by
  refine Met.ofW (cc := prog_9_method_27_code) (maxL := 4) (ret := (some .int)) (by decide) rfl ?_
  intro p e s m args below meth c s₁ BB9 hml hv
  obtain ⟨rfl, hP, hK, hD0⟩ := hv
  have hx := BB9.exec
  have hb := BB9.bytes
  have hr := BB9.returns
  have hts : ∀ w ∈ TT, w.before _ s = true := fun w h => atoms_spec (ws := (Cond.code ⟨"CutPointsModel", "count", "(I)I"⟩ prog_9_method_27_code 4 (some .int) :: TT)) BB9.pre w (List.mem_cons_of_mem _ h)
  have hown : s.vm.findClass "CutPointsModel" = some m.cls := findClass_of_methodNamed BB9.named
  have hlocks := BB9.notSynchronized
  have hD := hD0.mine
  have hS : va_S (ow [(o, .inr (7, [.int th, .int (nI nd), .int (nI ar), .ref fF, .ref fG, .ref fT, .ref fN, .ref fW, .int be, .ref fO, .ref fB, .int bz, .ref fS, .ref fD, .int sz])), (fT, .inl (cZ, 41, .inl (bF P)))]) s.heap s.heap [] := va_S.rf
  have hl := lv_entry ([.ref o, .int (nI 1)]) (n := 4) (Nat.le_of_ble_eq_true rfl)
  rw [lg_entry_eq]
  generalize (lg_sl ([.ref o, .int (nI 1)]) ++ List.replicate (4 - (lg_sl ([.ref o, .int (nI 1)])).length) Slot.unset).toArray = ls at hl ⊢
  have hl : lv_has ls 4 [(0, .ref o), (1, .int (nI 1))] := hl
  refine lv_aload_n hx hb d_MO_count_0 rfl (lv_at hl 0 rfl) ?_
  refine lv_iconst (v := (nI 0)) hx hb d_MO_count_1 (by decide) ?_
  refine va_put (D := (dC, dI)) (ci := 7) (v := .int (nI 0)) (ty := .int) (C := R_MO) (T := F_MO) (N := 15) hx hb hts in_MO t_MO t_MO_ok n_MO hown hK.1 hP hD hS 0 rfl rfl 0 (by decide) (hts _ wfl_MO_38) (fun _ h9 => h9) rfl (by decide +kernel) rfl rfl (Nat.le_of_ble_eq_true rfl) d_MO_count_2 (fun H locs hP hD hS => ?_)
  have hP : va_P (dC, dI) cls [(o, .inr (7, [.int (nI 0), .int (nI nd), .int (nI ar), .ref fF, .ref fG, .ref fT, .ref fN, .ref fW, .int be, .ref fO, .ref fB, .int bz, .ref fS, .ref fD, .int sz])), (fT, .inl (cZ, 41, .inl (bF P)))] H := hP
  have hD : va_D (ow [(o, .inr (7, [.int th, .int (nI nd), .int (nI ar), .ref fF, .ref fG, .ref fT, .ref fN, .ref fW, .int be, .ref fO, .ref fB, .int bz, .ref fS, .ref fD, .int sz])), (fT, .inl (cZ, 41, .inl (bF P)))]) [(o, .inr (7, [.int (nI 0), .int (nI nd), .int (nI ar), .ref fF, .ref fG, .ref fT, .ref fN, .ref fW, .int be, .ref fO, .ref fB, .int bz, .ref fS, .ref fD, .int sz])), (fT, .inl (cZ, 41, .inl (bF P)))] := hD
  refine lv_iconst (v := (nI 0)) hx hb d_MO_count_5 (by decide) ?_
  refine lv_istore_n (lv' := [(2, .int (nI 0)), (0, .ref o), (1, .int (nI 1))]) hx hb d_MO_count_6 rfl hl (by decide) rfl (fun ls hl => ?_)
  refine lv_iload_n hx hb d_MO_count_7 rfl (lv_at hl 2 rfl) ?_
  refine lv_tableIn (off := 57) (tgt := 65) hx hb d_MO_count_8 (by decide) (by decide) (by decide) (by decide) ?_
  refine lv_iconst (v := (nI 0)) hx hb d_MO_count_65 (by decide) ?_
  refine lv_istore_n (lv' := [(3, .int (nI 0)), (2, .int (nI 0)), (0, .ref o), (1, .int (nI 1))]) hx hb d_MO_count_66 rfl hl (by decide) rfl (fun ls hl => ?_)
  have L67_1 : ∀ (n : Nat) (q : Nat) (i : Nat) (hn : ar - i < n) (hi : i ≤ ar) (hq : q = cn P i) (H : Heap) (locs : List Loc) (hP : va_P (dC, dI) cls [(o, .inr (7, [.int (nI 0), .int (nI nd), .int (nI ar), .ref fF, .ref fG, .ref fT, .ref fN, .ref fW, .int be, .ref fO, .ref fB, .int bz, .ref fS, .ref fD, .int sz])), (fT, .inl (cZ, 41, .inl (bF P)))] H) (hD : va_D (ow [(o, .inr (7, [.int th, .int (nI nd), .int (nI ar), .ref fF, .ref fG, .ref fT, .ref fN, .ref fW, .int be, .ref fO, .ref fB, .int bz, .ref fS, .ref fD, .int sz])), (fT, .inl (cZ, 41, .inl (bF P)))]) [(o, .inr (7, [.int (nI 0), .int (nI nd), .int (nI ar), .ref fF, .ref fG, .ref fT, .ref fN, .ref fW, .int be, .ref fO, .ref fB, .int bz, .ref fS, .ref fD, .int sz])), (fT, .inl (cZ, 41, .inl (bF P)))]) (hS : va_S (ow [(o, .inr (7, [.int th, .int (nI nd), .int (nI ar), .ref fF, .ref fG, .ref fT, .ref fN, .ref fW, .int be, .ref fO, .ref fB, .int bz, .ref fS, .ref fD, .int sz])), (fT, .inl (cZ, 41, .inl (bF P)))]) s.heap H locs) (ls : Array Slot) (hl : lv_has ls 4 [(0, .ref o), (1, .int (nI 1)), (2, .int (nI q)), (3, .int (nI i))]), W p l e (headSpec (Cond.code ⟨"CutPointsModel", "count", "(I)I"⟩ prog_9_method_27_code 4 (some .int) :: TT) (rmk 0 0)).room s m ([.ref o, .int (nI 1)] : List Value).toArray below meth c H locs 0 0 (MQ below (va_Qi (S := Unit) (fun r u9 => r = nI (cn P ar)) (fun u9 t9 => va_P (dC, dI) cls ([(o, .inr (7, [.int (nI 0), .int (nI nd), .int (nI ar), .ref fF, .ref fG, .ref fT, .ref fN, .ref fW, .int be, .ref fO, .ref fB, .int bz, .ref fS, .ref fD, .int sz])), (fT, .inl (cZ, 41, .inl (bF P)))]) t9.heap) (ow [(o, .inr (7, [.int th, .int (nI nd), .int (nI ar), .ref fF, .ref fG, .ref fT, .ref fN, .ref fW, .int be, .ref fO, .ref fB, .int bz, .ref fS, .ref fD, .int sz])), (fT, .inl (cZ, 41, .inl (bF P)))])) ([.ref o, .int (nI 1)] : List Value).toArray s 0 0 (ow [(o, .inr (7, [.int th, .int (nI nd), .int (nI ar), .ref fF, .ref fG, .ref fT, .ref fN, .ref fW, .int be, .ref fO, .ref fB, .int bz, .ref fS, .ref fD, .int sz])), (fT, .inl (cZ, 41, .inl (bF P)))])) (F0 m 67 ls []) := by
    intro n_67
    induction n_67 with
    | zero =>
      intro q i hn_67
      exact absurd hn_67 (Nat.not_lt_zero _)
    | succ n_67 ih_67 =>
      intro q i hn_67 hi hq H locs hP hD hS ls hl
      refine lv_iload_n hx hb d_MO_count_67 rfl (lv_at hl 3 rfl) ?_
      refine lv_aload_n hx hb d_MO_count_68 rfl (lv_at hl 0 rfl) ?_
      refine va_get (D := (dC, dI)) (ci := 7) (v := .int (nI ar)) (C := R_MO) (T := F_MO) (N := 15) hx hb hts in_MO hown hK.1 hP 0 rfl rfl 2 (by decide) (hts _ wfl_MO_45) (fun _ h9 => h9) rfl d_MO_count_69 ?_
      refine x_cmp_ge (a := i) (b := ar) (tgt := 98) hx hb (by omega) (by omega) d_MO_count_72 (by decide) (fun c_2 => ?_) (fun c_2 => ?_)
      · skip
        refine lv_iload_n hx hb d_MO_count_98 rfl (lv_at hl 2 rfl) ?_
        exact W.iret (v := (nI q)) hx hb hr (fun t9 ht9 _ => ⟨⟨_, (), rfl, (by have e9 : i = ar := (by omega); subst e9; rw [hq]), by show va_P (dC, dI) cls _ t9.heap; rw [ht9]; exact hP⟩, hS.F ht9⟩) hS.2.2 d_MO_count_99
      · skip
        refine lv_iload_n hx hb d_MO_count_75 rfl (lv_at hl 2 rfl) ?_
        refine lv_aload_n hx hb d_MO_count_76 rfl (lv_at hl 0 rfl) ?_
        refine va_get (D := (dC, dI)) (ci := 7) (v := .ref fT) (C := R_MO) (T := F_MO) (N := 15) hx hb hts in_MO hown hK.1 hP 0 rfl rfl 5 (by decide) (hts _ wfl_MO_16) (fun _ h9 => h9) rfl d_MO_count_77 ?_
        refine lv_iload_n hx hb d_MO_count_80 rfl (lv_at hl 3 rfl) ?_
        refine x_zald (n := 41) (f := (bF P)) (j := i) hx hb hK.1 hP 1 2 rfl rfl (by omega) (by omega) d_MO_count_81 ?_
        refine xe_i (y := (bI (P i))) rfl ?_
        refine x_if_eq (tgt := 89) hx hb d_MO_count_82 (by decide) (fun c_3 => ?_) (fun c_3 => ?_)
        · skip
          refine lv_iconst (v := (nI 0)) hx hb d_MO_count_89 (by decide) ?_
          refine lv_iadd hx hb d_MO_count_90 ?_
          refine xe_i (nI_add _ _) ?_
          refine lv_istore_n (lv' := [(2, .int (nI (q + 0))), (0, .ref o), (1, .int (nI 1)), (3, .int (nI i))]) hx hb d_MO_count_91 rfl hl (by decide) rfl (fun ls hl => ?_)
          refine lv_iinc (v := (nI (i + 1))) (lv' := [(3, .int (nI (i + 1))), (2, .int (nI (q + 0))), (0, .ref o), (1, .int (nI 1))]) hx hb d_MO_count_92 hl (k := 3) rfl (nI_1 _) (by decide) rfl (fun ls hl => ?_)
          refine lv_goto (tgt := 67) hx hb d_MO_count_95 (by decide) ?_
          exact ih_67 (q + 0) (i + 1) (by omega) (by first | assumption | omega) (show q + 0 = _ from cn_f hq c_3) _ _ hP hD hS ls (lv_sub hl [2, 3, 1, 0] rfl)
        · skip
          refine lv_iconst (v := (nI 1)) hx hb d_MO_count_85 (by decide) ?_
          refine lv_goto (tgt := 90) hx hb d_MO_count_86 (by decide) ?_
          refine lv_iadd hx hb d_MO_count_90 ?_
          refine xe_i (nI_add _ _) ?_
          refine lv_istore_n (lv' := [(2, .int (nI (q + 1))), (0, .ref o), (1, .int (nI 1)), (3, .int (nI i))]) hx hb d_MO_count_91 rfl hl (by decide) rfl (fun ls hl => ?_)
          refine lv_iinc (v := (nI (i + 1))) (lv' := [(3, .int (nI (i + 1))), (2, .int (nI (q + 1))), (0, .ref o), (1, .int (nI 1))]) hx hb d_MO_count_92 hl (k := 3) rfl (nI_1 _) (by decide) rfl (fun ls hl => ?_)
          refine lv_goto (tgt := 67) hx hb d_MO_count_95 (by decide) ?_
          exact ih_67 (q + 1) (i + 1) (by omega) (by first | assumption | omega) (cn_t hq c_3) _ _ hP hD hS ls (lv_sub hl [2, 3, 1, 0] rfl)
  exact L67_1 ((ar - 0) + 1) 0 0 (Nat.lt_succ_self _) (by first | assumption | omega) rfl _ _ hP hD hS ls (lv_sub hl [2, 3, 1, 0] rfl)

set_option maxHeartbeats 4000000 in
set_option maxRecDepth 100000 in
theorem c_MO_count_2 (l : Launch) (dC : Nat → ClassId) (dI : Nat → Nat → Nat) (cI cJ cZ : ClassId) (o fF fG fT fN fW fO fB fS fD : Nat) (th be bz sz : Int32) (nd ar : Nat) (F G : Nat → Nat) (P : Nat → Bool) (hF : ∀ k, F k < 14) (hG : ∀ k, G k < 14) (hnd : nd ≤ 14) (har : ar ≤ 40) (hM : ∀ e, e < ar → F e < nd ∧ G e < nd) (N0 : Nat → Int32) : Met l ⟨"CutPointsModel", "count", "(I)I"⟩ (Cond.code ⟨"CutPointsModel", "count", "(I)I"⟩ prog_9_method_27_code 4 (some .int) :: TT) (rmk 2 48) (PM dC dI cI cJ cZ [.ref o, .int (nI 2)] [(o, .inr (7, [.int th, .int (nI nd), .int (nI ar), .ref fF, .ref fG, .ref fT, .ref fN, .ref fW, .int be, .ref fO, .ref fB, .int bz, .ref fS, .ref fD, .int sz])), (fF, .inl (cI, 41, .inl (nF F))), (fG, .inl (cI, 41, .inl (nF G))), (fT, .inl (cZ, 41, .inl (bF P))), (fN, .inl (cI, 14, .inl N0))]) (va_Qi (S := Nat → Int32) (fun r u9 => r = nI (cn (ldB (lkT ar 0 P (-1) (-1) (nI 0) F G) F G (sb nd - nI 1)) 16)) (fun u9 t9 => va_P (dC, dI) cls ([(o, .inr (7, [.int (nI 0), .int (nI nd), .int (nI ar), .ref fF, .ref fG, .ref fT, .ref fN, .ref fW, .int be, .ref fO, .ref fB, .int bz, .ref fS, .ref fD, .int sz])), (fF, .inl (cI, 41, .inl (nF F))), (fG, .inl (cI, 41, .inl (nF G))), (fT, .inl (cZ, 41, .inl (bF P))), (fN, .inl (cI, 14, .inl u9))]) t9.heap) (ow [(o, .inr (7, [.int th, .int (nI nd), .int (nI ar), .ref fF, .ref fG, .ref fT, .ref fN, .ref fW, .int be, .ref fO, .ref fB, .int bz, .ref fS, .ref fD, .int sz])), (fF, .inl (cI, 41, .inl (nF F))), (fG, .inl (cI, 41, .inl (nF G))), (fT, .inl (cZ, 41, .inl (bF P))), (fN, .inl (cI, 14, .inl N0))])) 0 0 (ow [(o, .inr (7, [.int th, .int (nI nd), .int (nI ar), .ref fF, .ref fG, .ref fT, .ref fN, .ref fW, .int be, .ref fO, .ref fB, .int bz, .ref fS, .ref fD, .int sz])), (fF, .inl (cI, 41, .inl (nF F))), (fG, .inl (cI, 41, .inl (nF G))), (fT, .inl (cZ, 41, .inl (bF P))), (fN, .inl (cI, 14, .inl N0))]) := by
  refine Met.ofW (cc := prog_9_method_27_code) (maxL := 4) (ret := (some .int)) (by decide) rfl ?_
  intro p e s m args below meth c s₁ BB9 hml hv
  obtain ⟨rfl, hP, hK, hD0⟩ := hv
  have hx := BB9.exec
  have hb := BB9.bytes
  have hr := BB9.returns
  have hts : ∀ w ∈ TT, w.before _ s = true := fun w h => atoms_spec (ws := (Cond.code ⟨"CutPointsModel", "count", "(I)I"⟩ prog_9_method_27_code 4 (some .int) :: TT)) BB9.pre w (List.mem_cons_of_mem _ h)
  have hown : s.vm.findClass "CutPointsModel" = some m.cls := findClass_of_methodNamed BB9.named
  have hlocks := BB9.notSynchronized
  have hD := hD0.mine
  have hS : va_S (ow [(o, .inr (7, [.int th, .int (nI nd), .int (nI ar), .ref fF, .ref fG, .ref fT, .ref fN, .ref fW, .int be, .ref fO, .ref fB, .int bz, .ref fS, .ref fD, .int sz])), (fF, .inl (cI, 41, .inl (nF F))), (fG, .inl (cI, 41, .inl (nF G))), (fT, .inl (cZ, 41, .inl (bF P))), (fN, .inl (cI, 14, .inl N0))]) s.heap s.heap [] := va_S.rf
  have hl := lv_entry ([.ref o, .int (nI 2)]) (n := 4) (Nat.le_of_ble_eq_true rfl)
  rw [lg_entry_eq]
  generalize (lg_sl ([.ref o, .int (nI 2)]) ++ List.replicate (4 - (lg_sl ([.ref o, .int (nI 2)])).length) Slot.unset).toArray = ls at hl ⊢
  have hl : lv_has ls 4 [(0, .ref o), (1, .int (nI 2))] := hl
  refine lv_aload_n hx hb d_MO_count_0 rfl (lv_at hl 0 rfl) ?_
  refine lv_iconst (v := (nI 0)) hx hb d_MO_count_1 (by decide) ?_
  refine va_put (D := (dC, dI)) (ci := 7) (v := .int (nI 0)) (ty := .int) (C := R_MO) (T := F_MO) (N := 15) hx hb hts in_MO t_MO t_MO_ok n_MO hown hK.1 hP hD hS 0 rfl rfl 0 (by decide) (hts _ wfl_MO_38) (fun _ h9 => h9) rfl (by decide +kernel) rfl rfl (Nat.le_of_ble_eq_true rfl) d_MO_count_2 (fun H locs hP hD hS => ?_)
  have hP : va_P (dC, dI) cls [(o, .inr (7, [.int (nI 0), .int (nI nd), .int (nI ar), .ref fF, .ref fG, .ref fT, .ref fN, .ref fW, .int be, .ref fO, .ref fB, .int bz, .ref fS, .ref fD, .int sz])), (fF, .inl (cI, 41, .inl (nF F))), (fG, .inl (cI, 41, .inl (nF G))), (fT, .inl (cZ, 41, .inl (bF P))), (fN, .inl (cI, 14, .inl N0))] H := hP
  have hD : va_D (ow [(o, .inr (7, [.int th, .int (nI nd), .int (nI ar), .ref fF, .ref fG, .ref fT, .ref fN, .ref fW, .int be, .ref fO, .ref fB, .int bz, .ref fS, .ref fD, .int sz])), (fF, .inl (cI, 41, .inl (nF F))), (fG, .inl (cI, 41, .inl (nF G))), (fT, .inl (cZ, 41, .inl (bF P))), (fN, .inl (cI, 14, .inl N0))]) [(o, .inr (7, [.int (nI 0), .int (nI nd), .int (nI ar), .ref fF, .ref fG, .ref fT, .ref fN, .ref fW, .int be, .ref fO, .ref fB, .int bz, .ref fS, .ref fD, .int sz])), (fF, .inl (cI, 41, .inl (nF F))), (fG, .inl (cI, 41, .inl (nF G))), (fT, .inl (cZ, 41, .inl (bF P))), (fN, .inl (cI, 14, .inl N0))] := hD
  refine lv_iconst (v := (nI 0)) hx hb d_MO_count_5 (by decide) ?_
  refine lv_istore_n (lv' := [(2, .int (nI 0)), (0, .ref o), (1, .int (nI 2))]) hx hb d_MO_count_6 rfl hl (by decide) rfl (fun ls hl => ?_)
  refine lv_iload_n hx hb d_MO_count_7 rfl (lv_at hl 2 rfl) ?_
  refine lv_tableIn (off := 92) (tgt := 100) hx hb d_MO_count_8 (by decide) (by decide) (by decide) (by decide) ?_
  refine lv_aload_n hx hb d_MO_count_100 rfl (lv_at hl 1 rfl) ?_
  refine x_cv (k_V (n := 0) (C := R_MO) (rest := []) ⟨hx, hb, hml, hown, hts⟩ (c_MO_lookAll l dC dI cI cJ cZ o fF fG fT fN fW fO fB fS fD (nI 0) be bz sz nd ar F G P hF hG (by first | assumption | omega) (by first | assumption | omega) hM N0) wml_MO_67 wim_MO_lookAll wsel_MO_lookAll wini_MO wcode_MO_lookAll (by decide +kernel) ⟨Nat.le_of_ble_eq_true rfl, Nat.le_of_ble_eq_true rfl⟩ (preV_M (q := (R_MO, F_MO, 15)) (ci := 7) (q0 := 0) (hP.sub (ws' := [(o, .inr (7, [.int (nI 0), .int (nI nd), .int (nI ar), .ref fF, .ref fG, .ref fT, .ref fN, .ref fW, .int be, .ref fO, .ref fB, .int bz, .ref fS, .ref fD, .int sz])), (fF, .inl (cI, 41, .inl (nF F))), (fG, .inl (cI, 41, .inl (nF G))), (fT, .inl (cZ, 41, .inl (bF P))), (fN, .inl (cI, 14, .inl N0))]) [0, 1, 2, 3, 4] rfl) hK (hD.sub (ws' := [(o, .inr (7, [.int (nI 0), .int (nI nd), .int (nI ar), .ref fF, .ref fG, .ref fT, .ref fN, .ref fW, .int be, .ref fO, .ref fB, .int bz, .ref fS, .ref fD, .int sz])), (fF, .inl (cI, 41, .inl (nF F))), (fG, .inl (cI, 41, .inl (nF G))), (fT, .inl (cZ, 41, .inl (bF P))), (fN, .inl (cI, 14, .inl N0))]) [0, 1, 2, 3, 4] (by decide) rfl) rfl rfl) rfl hl.1 rfl (Nat.le_of_ble_eq_true rfl) d_MO_count_101 ⟨Nat.zero_le _, Nat.zero_le _⟩) hP hD hS [0, 1, 2, 3, 4] rfl (fun _ => rfl) (fun u_1 H locs hu_1 hP hS => ?_)
  obtain ⟨N9_1, rfl⟩ : ∃ z, z = u_1 := ⟨_, rfl⟩
  have hP : va_P (dC, dI) cls [(o, .inr (7, [.int (nI 0), .int (nI nd), .int (nI ar), .ref fF, .ref fG, .ref fT, .ref fN, .ref fW, .int be, .ref fO, .ref fB, .int bz, .ref fS, .ref fD, .int sz])), (fF, .inl (cI, 41, .inl (nF F))), (fG, .inl (cI, 41, .inl (nF G))), (fT, .inl (cZ, 41, .inl (bF P))), (fN, .inl (cI, 14, .inl N9_1))] H := hP
  have hD := hD.addr (ws' := [(o, .inr (7, [.int (nI 0), .int (nI nd), .int (nI ar), .ref fF, .ref fG, .ref fT, .ref fN, .ref fW, .int be, .ref fO, .ref fB, .int bz, .ref fS, .ref fD, .int sz])), (fF, .inl (cI, 41, .inl (nF F))), (fG, .inl (cI, 41, .inl (nF G))), (fT, .inl (cZ, 41, .inl (bF P))), (fN, .inl (cI, 14, .inl N9_1))]) rfl
  refine lv_aload_n hx hb d_MO_count_104 rfl (lv_at hl 1 rfl) ?_
  refine lv_aload_n hx hb d_MO_count_105 rfl (lv_at hl 1 rfl) ?_
  refine vp_callSi (va_Run.run (k_V (n := 0) (C := R_MO) (rest := [.ref o]) ⟨hx, hb, hml, hown, hts⟩ (c_MO_everyNode l dC dI cI cJ cZ o fF fG fT fN fW fO fB fS fD (nI 0) be bz sz nd ar) wml_MO_88 wim_MO_everyNode wsel_MO_everyNode wini_MO wcode_MO_everyNode (by decide +kernel) ⟨Nat.le_of_ble_eq_true rfl, Nat.le_of_ble_eq_true rfl⟩ (preV_R (q := (R_MO, F_MO, 15)) (ci := 7) (q0 := 0) (hP.sub (ws' := [(o, .inr (7, [.int (nI 0), .int (nI nd), .int (nI ar), .ref fF, .ref fG, .ref fT, .ref fN, .ref fW, .int be, .ref fO, .ref fB, .int bz, .ref fS, .ref fD, .int sz]))]) [0] rfl) hK rfl rfl) rfl hl.1 rfl (Nat.le_of_ble_eq_true rfl) d_MO_count_106 ⟨Nat.zero_le _, Nat.zero_le _⟩)) (fun r_2 hr_3 => ?_)
  refine xe_i (y := (sb nd - nI 1)) hr_3 ?_
  refine vp_callSi (va_Run.run (k_V (n := 1) (C := R_MO) (rest := []) ⟨hx, hb, hml, hown, hts⟩ (c_MO_partsOf l dC dI cI cJ cZ o fF fG fT fN fW fO fB fS fD (nI 0) be bz sz nd ar (lkT ar 0 P (-1) (-1) (nI 0) F G) F G N9_1 hu_1 (tEn_lk (mo := 0) hM) (sb nd - nI 1) (by first | assumption | omega) (fun y hy => by rw [b_all' (by omega)] at hy; have := of_decide_eq_true hy; omega)) wml_MO_73 wim_MO_partsOf wsel_MO_partsOf wini_MO wcode_MO_partsOf (by decide +kernel) ⟨Nat.le_of_ble_eq_true rfl, Nat.le_of_ble_eq_true rfl⟩ (preV_R (q := (R_MO, F_MO, 15)) (ci := 7) (q0 := 0) (hP.sub (ws' := [(o, .inr (7, [.int (nI 0), .int (nI nd), .int (nI ar), .ref fF, .ref fG, .ref fT, .ref fN, .ref fW, .int be, .ref fO, .ref fB, .int bz, .ref fS, .ref fD, .int sz])), (fN, .inl (cI, 14, .inl N9_1))]) [0, 4] rfl) hK rfl rfl) rfl hl.1 rfl (Nat.le_of_ble_eq_true rfl) d_MO_count_109 ⟨Nat.zero_le _, Nat.zero_le _⟩)) (fun r_4 hr_5 => ?_)
  refine xe_i (y := (nI (cn (ldB (lkT ar 0 P (-1) (-1) (nI 0) F G) F G (sb nd - nI 1)) 16))) hr_5 ?_
  exact W.iret (v := (nI (cn (ldB (lkT ar 0 P (-1) (-1) (nI 0) F G) F G (sb nd - nI 1)) 16))) hx hb hr (fun t9 ht9 _ => ⟨⟨_, (N9_1), rfl, rfl, by show va_P (dC, dI) cls _ t9.heap; rw [ht9]; exact hP⟩, hS.F ht9⟩) hS.2.2 d_MO_count_112

set_option maxHeartbeats 4000000 in
set_option maxRecDepth 100000 in
theorem c_MO_count_3 (l : Launch) (dC : Nat → ClassId) (dI : Nat → Nat → Nat) (cI cJ cZ : ClassId) (o fF fG fT fN fW fO fB fS fD : Nat) (th be bz sz : Int32) (nd ar : Nat) (F G : Nat → Nat) (P : Nat → Bool) (hF : ∀ k, F k < 14) (hG : ∀ k, G k < 14) (hnd : nd ≤ 14) (har : ar ≤ 40) (hM : ∀ e, e < ar → F e < nd ∧ G e < nd) (N0 : Nat → Int32) : Met l ⟨"CutPointsModel", "count", "(I)I"⟩ (Cond.code ⟨"CutPointsModel", "count", "(I)I"⟩ prog_9_method_27_code 4 (some .int) :: TT) (rmk 2 48) (PM dC dI cI cJ cZ [.ref o, .int (nI 3)] [(o, .inr (7, [.int th, .int (nI nd), .int (nI ar), .ref fF, .ref fG, .ref fT, .ref fN, .ref fW, .int be, .ref fO, .ref fB, .int bz, .ref fS, .ref fD, .int sz])), (fF, .inl (cI, 41, .inl (nF F))), (fG, .inl (cI, 41, .inl (nF G))), (fT, .inl (cZ, 41, .inl (bF P))), (fN, .inl (cI, 14, .inl N0))]) (va_Qi (S := Nat → Int32) (fun r u9 => r = nI (cn (fun e => P e && !dc (Rc (ad (lkT ar 0 P (nI e) (-1) (nI 0) F G) F G) (F e) (G e))) ar)) (fun u9 t9 => va_P (dC, dI) cls ([(o, .inr (7, [.int (nI 0), .int (nI nd), .int (nI ar), .ref fF, .ref fG, .ref fT, .ref fN, .ref fW, .int be, .ref fO, .ref fB, .int bz, .ref fS, .ref fD, .int sz])), (fF, .inl (cI, 41, .inl (nF F))), (fG, .inl (cI, 41, .inl (nF G))), (fT, .inl (cZ, 41, .inl (bF P))), (fN, .inl (cI, 14, .inl u9))]) t9.heap) (ow [(o, .inr (7, [.int th, .int (nI nd), .int (nI ar), .ref fF, .ref fG, .ref fT, .ref fN, .ref fW, .int be, .ref fO, .ref fB, .int bz, .ref fS, .ref fD, .int sz])), (fF, .inl (cI, 41, .inl (nF F))), (fG, .inl (cI, 41, .inl (nF G))), (fT, .inl (cZ, 41, .inl (bF P))), (fN, .inl (cI, 14, .inl N0))])) 0 0 (ow [(o, .inr (7, [.int th, .int (nI nd), .int (nI ar), .ref fF, .ref fG, .ref fT, .ref fN, .ref fW, .int be, .ref fO, .ref fB, .int bz, .ref fS, .ref fD, .int sz])), (fF, .inl (cI, 41, .inl (nF F))), (fG, .inl (cI, 41, .inl (nF G))), (fT, .inl (cZ, 41, .inl (bF P))), (fN, .inl (cI, 14, .inl N0))]) := by
  refine Met.ofW (cc := prog_9_method_27_code) (maxL := 4) (ret := (some .int)) (by decide) rfl ?_
  intro p e s m args below meth c s₁ BB9 hml hv
  obtain ⟨rfl, hP, hK, hD0⟩ := hv
  have hx := BB9.exec
  have hb := BB9.bytes
  have hr := BB9.returns
  have hts : ∀ w ∈ TT, w.before _ s = true := fun w h => atoms_spec (ws := (Cond.code ⟨"CutPointsModel", "count", "(I)I"⟩ prog_9_method_27_code 4 (some .int) :: TT)) BB9.pre w (List.mem_cons_of_mem _ h)
  have hown : s.vm.findClass "CutPointsModel" = some m.cls := findClass_of_methodNamed BB9.named
  have hlocks := BB9.notSynchronized
  have hD := hD0.mine
  have hS : va_S (ow [(o, .inr (7, [.int th, .int (nI nd), .int (nI ar), .ref fF, .ref fG, .ref fT, .ref fN, .ref fW, .int be, .ref fO, .ref fB, .int bz, .ref fS, .ref fD, .int sz])), (fF, .inl (cI, 41, .inl (nF F))), (fG, .inl (cI, 41, .inl (nF G))), (fT, .inl (cZ, 41, .inl (bF P))), (fN, .inl (cI, 14, .inl N0))]) s.heap s.heap [] := va_S.rf
  have hl := lv_entry ([.ref o, .int (nI 3)]) (n := 4) (Nat.le_of_ble_eq_true rfl)
  rw [lg_entry_eq]
  generalize (lg_sl ([.ref o, .int (nI 3)]) ++ List.replicate (4 - (lg_sl ([.ref o, .int (nI 3)])).length) Slot.unset).toArray = ls at hl ⊢
  have hl : lv_has ls 4 [(0, .ref o), (1, .int (nI 3))] := hl
  refine lv_aload_n hx hb d_MO_count_0 rfl (lv_at hl 0 rfl) ?_
  refine lv_iconst (v := (nI 0)) hx hb d_MO_count_1 (by decide) ?_
  refine va_put (D := (dC, dI)) (ci := 7) (v := .int (nI 0)) (ty := .int) (C := R_MO) (T := F_MO) (N := 15) hx hb hts in_MO t_MO t_MO_ok n_MO hown hK.1 hP hD hS 0 rfl rfl 0 (by decide) (hts _ wfl_MO_38) (fun _ h9 => h9) rfl (by decide +kernel) rfl rfl (Nat.le_of_ble_eq_true rfl) d_MO_count_2 (fun H locs hP hD hS => ?_)
  have hP : va_P (dC, dI) cls [(o, .inr (7, [.int (nI 0), .int (nI nd), .int (nI ar), .ref fF, .ref fG, .ref fT, .ref fN, .ref fW, .int be, .ref fO, .ref fB, .int bz, .ref fS, .ref fD, .int sz])), (fF, .inl (cI, 41, .inl (nF F))), (fG, .inl (cI, 41, .inl (nF G))), (fT, .inl (cZ, 41, .inl (bF P))), (fN, .inl (cI, 14, .inl N0))] H := hP
  have hD : va_D (ow [(o, .inr (7, [.int th, .int (nI nd), .int (nI ar), .ref fF, .ref fG, .ref fT, .ref fN, .ref fW, .int be, .ref fO, .ref fB, .int bz, .ref fS, .ref fD, .int sz])), (fF, .inl (cI, 41, .inl (nF F))), (fG, .inl (cI, 41, .inl (nF G))), (fT, .inl (cZ, 41, .inl (bF P))), (fN, .inl (cI, 14, .inl N0))]) [(o, .inr (7, [.int (nI 0), .int (nI nd), .int (nI ar), .ref fF, .ref fG, .ref fT, .ref fN, .ref fW, .int be, .ref fO, .ref fB, .int bz, .ref fS, .ref fD, .int sz])), (fF, .inl (cI, 41, .inl (nF F))), (fG, .inl (cI, 41, .inl (nF G))), (fT, .inl (cZ, 41, .inl (bF P))), (fN, .inl (cI, 14, .inl N0))] := hD
  refine lv_iconst (v := (nI 0)) hx hb d_MO_count_5 (by decide) ?_
  refine lv_istore_n (lv' := [(2, .int (nI 0)), (0, .ref o), (1, .int (nI 3))]) hx hb d_MO_count_6 rfl hl (by decide) rfl (fun ls hl => ?_)
  refine lv_iload_n hx hb d_MO_count_7 rfl (lv_at hl 2 rfl) ?_
  refine lv_tableIn (off := 105) (tgt := 113) hx hb d_MO_count_8 (by decide) (by decide) (by decide) (by decide) ?_
  refine lv_iconst (v := (nI 0)) hx hb d_MO_count_113 (by decide) ?_
  refine lv_istore_n (lv' := [(3, .int (nI 0)), (2, .int (nI 0)), (0, .ref o), (1, .int (nI 3))]) hx hb d_MO_count_114 rfl hl (by decide) rfl (fun ls hl => ?_)
  have L115_1 : ∀ (n : Nat) (N2 : Nat → Int32) (q : Nat) (i : Nat) (hn : ar - i < n) (hi : i ≤ ar) (hq : q = cn (fun e => P e && !dc (Rc (ad (lkT ar 0 P (nI e) (-1) (nI 0) F G) F G) (F e) (G e))) i) (H : Heap) (locs : List Loc) (hP : va_P (dC, dI) cls [(o, .inr (7, [.int (nI 0), .int (nI nd), .int (nI ar), .ref fF, .ref fG, .ref fT, .ref fN, .ref fW, .int be, .ref fO, .ref fB, .int bz, .ref fS, .ref fD, .int sz])), (fF, .inl (cI, 41, .inl (nF F))), (fG, .inl (cI, 41, .inl (nF G))), (fT, .inl (cZ, 41, .inl (bF P))), (fN, .inl (cI, 14, .inl N2))] H) (hD : va_D (ow [(o, .inr (7, [.int th, .int (nI nd), .int (nI ar), .ref fF, .ref fG, .ref fT, .ref fN, .ref fW, .int be, .ref fO, .ref fB, .int bz, .ref fS, .ref fD, .int sz])), (fF, .inl (cI, 41, .inl (nF F))), (fG, .inl (cI, 41, .inl (nF G))), (fT, .inl (cZ, 41, .inl (bF P))), (fN, .inl (cI, 14, .inl N0))]) [(o, .inr (7, [.int (nI 0), .int (nI nd), .int (nI ar), .ref fF, .ref fG, .ref fT, .ref fN, .ref fW, .int be, .ref fO, .ref fB, .int bz, .ref fS, .ref fD, .int sz])), (fF, .inl (cI, 41, .inl (nF F))), (fG, .inl (cI, 41, .inl (nF G))), (fT, .inl (cZ, 41, .inl (bF P))), (fN, .inl (cI, 14, .inl N2))]) (hS : va_S (ow [(o, .inr (7, [.int th, .int (nI nd), .int (nI ar), .ref fF, .ref fG, .ref fT, .ref fN, .ref fW, .int be, .ref fO, .ref fB, .int bz, .ref fS, .ref fD, .int sz])), (fF, .inl (cI, 41, .inl (nF F))), (fG, .inl (cI, 41, .inl (nF G))), (fT, .inl (cZ, 41, .inl (bF P))), (fN, .inl (cI, 14, .inl N0))]) s.heap H locs) (ls : Array Slot) (hl : lv_has ls 4 [(0, .ref o), (1, .int (nI 3)), (2, .int (nI q)), (3, .int (nI i))]), W p l e (headSpec (Cond.code ⟨"CutPointsModel", "count", "(I)I"⟩ prog_9_method_27_code 4 (some .int) :: TT) (rmk 2 48)).room s m ([.ref o, .int (nI 3)] : List Value).toArray below meth c H locs 0 0 (MQ below (va_Qi (S := Nat → Int32) (fun r u9 => r = nI (cn (fun e => P e && !dc (Rc (ad (lkT ar 0 P (nI e) (-1) (nI 0) F G) F G) (F e) (G e))) ar)) (fun u9 t9 => va_P (dC, dI) cls ([(o, .inr (7, [.int (nI 0), .int (nI nd), .int (nI ar), .ref fF, .ref fG, .ref fT, .ref fN, .ref fW, .int be, .ref fO, .ref fB, .int bz, .ref fS, .ref fD, .int sz])), (fF, .inl (cI, 41, .inl (nF F))), (fG, .inl (cI, 41, .inl (nF G))), (fT, .inl (cZ, 41, .inl (bF P))), (fN, .inl (cI, 14, .inl u9))]) t9.heap) (ow [(o, .inr (7, [.int th, .int (nI nd), .int (nI ar), .ref fF, .ref fG, .ref fT, .ref fN, .ref fW, .int be, .ref fO, .ref fB, .int bz, .ref fS, .ref fD, .int sz])), (fF, .inl (cI, 41, .inl (nF F))), (fG, .inl (cI, 41, .inl (nF G))), (fT, .inl (cZ, 41, .inl (bF P))), (fN, .inl (cI, 14, .inl N0))])) ([.ref o, .int (nI 3)] : List Value).toArray s 0 0 (ow [(o, .inr (7, [.int th, .int (nI nd), .int (nI ar), .ref fF, .ref fG, .ref fT, .ref fN, .ref fW, .int be, .ref fO, .ref fB, .int bz, .ref fS, .ref fD, .int sz])), (fF, .inl (cI, 41, .inl (nF F))), (fG, .inl (cI, 41, .inl (nF G))), (fT, .inl (cZ, 41, .inl (bF P))), (fN, .inl (cI, 14, .inl N0))])) (F0 m 115 ls []) := by
    intro n_115
    induction n_115 with
    | zero =>
      intro N2 q i hn_115
      exact absurd hn_115 (Nat.not_lt_zero _)
    | succ n_115 ih_115 =>
      intro N2 q i hn_115 hi hq H locs hP hD hS ls hl
      refine lv_iload_n hx hb d_MO_count_115 rfl (lv_at hl 3 rfl) ?_
      refine lv_aload_n hx hb d_MO_count_116 rfl (lv_at hl 0 rfl) ?_
      refine va_get (D := (dC, dI)) (ci := 7) (v := .int (nI ar)) (C := R_MO) (T := F_MO) (N := 15) hx hb hts in_MO hown hK.1 hP 0 rfl rfl 2 (by decide) (hts _ wfl_MO_45) (fun _ h9 => h9) rfl d_MO_count_117 ?_
      refine x_cmp_ge (a := i) (b := ar) (tgt := 154) hx hb (by omega) (by omega) d_MO_count_120 (by decide) (fun c_2 => ?_) (fun c_2 => ?_)
      · skip
        refine lv_iload_n hx hb d_MO_count_154 rfl (lv_at hl 2 rfl) ?_
        exact W.iret (v := (nI q)) hx hb hr (fun t9 ht9 _ => ⟨⟨_, (N2), rfl, (by have e9 : i = ar := (by omega); subst e9; rw [hq]), by show va_P (dC, dI) cls _ t9.heap; rw [ht9]; exact hP⟩, hS.F ht9⟩) hS.2.2 d_MO_count_155
      · skip
        refine lv_iload_n hx hb d_MO_count_123 rfl (lv_at hl 2 rfl) ?_
        refine lv_aload_n hx hb d_MO_count_124 rfl (lv_at hl 0 rfl) ?_
        refine va_get (D := (dC, dI)) (ci := 7) (v := .ref fT) (C := R_MO) (T := F_MO) (N := 15) hx hb hts in_MO hown hK.1 hP 0 rfl rfl 5 (by decide) (hts _ wfl_MO_16) (fun _ h9 => h9) rfl d_MO_count_125 ?_
        refine lv_iload_n hx hb d_MO_count_128 rfl (lv_at hl 3 rfl) ?_
        refine x_zald (n := 41) (f := (bF P)) (j := i) hx hb hK.1 hP 3 2 rfl rfl (by omega) (by omega) d_MO_count_129 ?_
        refine xe_i (y := (bI (P i))) rfl ?_
        refine x_if_eq (tgt := 145) hx hb d_MO_count_130 (by decide) (fun c_3 => ?_) (fun c_3 => ?_)
        · skip
          refine lv_iconst (v := (nI 0)) hx hb d_MO_count_145 (by decide) ?_
          refine lv_iadd hx hb d_MO_count_146 ?_
          refine xe_i (nI_add _ _) ?_
          refine lv_istore_n (lv' := [(2, .int (nI (q + 0))), (0, .ref o), (1, .int (nI 3)), (3, .int (nI i))]) hx hb d_MO_count_147 rfl hl (by decide) rfl (fun ls hl => ?_)
          refine lv_iinc (v := (nI (i + 1))) (lv' := [(3, .int (nI (i + 1))), (2, .int (nI (q + 0))), (0, .ref o), (1, .int (nI 3))]) hx hb d_MO_count_148 hl (k := 3) rfl (nI_1 _) (by decide) rfl (fun ls hl => ?_)
          refine lv_goto (tgt := 115) hx hb d_MO_count_151 (by decide) ?_
          exact ih_115 N2 (q + 0) (i + 1) (by omega) (by first | assumption | omega) (show q + 0 = _ from cn_f hq (by rw [c_3]; rfl)) _ _ hP hD hS ls (lv_sub hl [2, 3, 1, 0] rfl)
        · skip
          refine lv_aload_n hx hb d_MO_count_133 rfl (lv_at hl 0 rfl) ?_
          refine lv_iload_n hx hb d_MO_count_134 rfl (lv_at hl 3 rfl) ?_
          refine x_ci (k_V (n := 1) (C := R_MO) (rest := [.int (nI q)]) ⟨hx, hb, hml, hown, hts⟩ (c_MO_isBridge l dC dI cI cJ cZ o fF fG fT fN fW fO fB fS fD (nI 0) be bz sz nd ar F G P hF hG (by first | assumption | omega) (by first | assumption | omega) hM N2 i (by first | assumption | omega)) wml_MO_95 wim_MO_isBridge wsel_MO_isBridge wini_MO wcode_MO_isBridge (by decide +kernel) ⟨Nat.le_of_ble_eq_true rfl, Nat.le_of_ble_eq_true rfl⟩ (preV_M (q := (R_MO, F_MO, 15)) (ci := 7) (q0 := 0) (hP.sub (ws' := [(o, .inr (7, [.int (nI 0), .int (nI nd), .int (nI ar), .ref fF, .ref fG, .ref fT, .ref fN, .ref fW, .int be, .ref fO, .ref fB, .int bz, .ref fS, .ref fD, .int sz])), (fF, .inl (cI, 41, .inl (nF F))), (fG, .inl (cI, 41, .inl (nF G))), (fT, .inl (cZ, 41, .inl (bF P))), (fN, .inl (cI, 14, .inl N2))]) [0, 1, 2, 3, 4] rfl) hK (hD.sub (ws' := [(o, .inr (7, [.int (nI 0), .int (nI nd), .int (nI ar), .ref fF, .ref fG, .ref fT, .ref fN, .ref fW, .int be, .ref fO, .ref fB, .int bz, .ref fS, .ref fD, .int sz])), (fF, .inl (cI, 41, .inl (nF F))), (fG, .inl (cI, 41, .inl (nF G))), (fT, .inl (cZ, 41, .inl (bF P))), (fN, .inl (cI, 14, .inl N2))]) [0, 1, 2, 3, 4] (by decide) rfl) rfl rfl) rfl hl.1 rfl (Nat.le_of_ble_eq_true rfl) d_MO_count_135 ⟨Nat.zero_le _, Nat.zero_le _⟩) hP hD hS [0, 1, 2, 3, 4] rfl (fun _ => rfl) (fun r_4 u_4 H locs hu_4 hP hS => ?_)
          obtain ⟨N9_4, rfl⟩ : ∃ z, z = u_4 := ⟨_, rfl⟩
          have hP : va_P (dC, dI) cls [(o, .inr (7, [.int (nI 0), .int (nI nd), .int (nI ar), .ref fF, .ref fG, .ref fT, .ref fN, .ref fW, .int be, .ref fO, .ref fB, .int bz, .ref fS, .ref fD, .int sz])), (fF, .inl (cI, 41, .inl (nF F))), (fG, .inl (cI, 41, .inl (nF G))), (fT, .inl (cZ, 41, .inl (bF P))), (fN, .inl (cI, 14, .inl N9_4))] H := hP
          have hD := hD.addr (ws' := [(o, .inr (7, [.int (nI 0), .int (nI nd), .int (nI ar), .ref fF, .ref fG, .ref fT, .ref fN, .ref fW, .int be, .ref fO, .ref fB, .int bz, .ref fS, .ref fD, .int sz])), (fF, .inl (cI, 41, .inl (nF F))), (fG, .inl (cI, 41, .inl (nF G))), (fT, .inl (cZ, 41, .inl (bF P))), (fN, .inl (cI, 14, .inl N9_4))]) rfl
          refine xe_i (y := (bI (!dc (Rc (ad (lkT ar 0 P (nI i) (-1) (nI 0) F G) F G) (F i) (G i))))) hu_4 ?_
          refine x_if_eq (tgt := 145) hx hb d_MO_count_138 (by decide) (fun c_5 => ?_) (fun c_5 => ?_)
          · skip
            refine lv_iconst (v := (nI 0)) hx hb d_MO_count_145 (by decide) ?_
            refine lv_iadd hx hb d_MO_count_146 ?_
            refine xe_i (nI_add _ _) ?_
            refine lv_istore_n (lv' := [(2, .int (nI (q + 0))), (0, .ref o), (1, .int (nI 3)), (3, .int (nI i))]) hx hb d_MO_count_147 rfl hl (by decide) rfl (fun ls hl => ?_)
            refine lv_iinc (v := (nI (i + 1))) (lv' := [(3, .int (nI (i + 1))), (2, .int (nI (q + 0))), (0, .ref o), (1, .int (nI 3))]) hx hb d_MO_count_148 hl (k := 3) rfl (nI_1 _) (by decide) rfl (fun ls hl => ?_)
            refine lv_goto (tgt := 115) hx hb d_MO_count_151 (by decide) ?_
            exact ih_115 N9_4 (q + 0) (i + 1) (by omega) (by first | assumption | omega) (show q + 0 = _ from cn_f hq (by rw [c_3, c_5]; rfl)) _ _ hP hD hS ls (lv_sub hl [2, 3, 1, 0] rfl)
          · skip
            refine lv_iconst (v := (nI 1)) hx hb d_MO_count_141 (by decide) ?_
            refine lv_goto (tgt := 146) hx hb d_MO_count_142 (by decide) ?_
            refine lv_iadd hx hb d_MO_count_146 ?_
            refine xe_i (nI_add _ _) ?_
            refine lv_istore_n (lv' := [(2, .int (nI (q + 1))), (0, .ref o), (1, .int (nI 3)), (3, .int (nI i))]) hx hb d_MO_count_147 rfl hl (by decide) rfl (fun ls hl => ?_)
            refine lv_iinc (v := (nI (i + 1))) (lv' := [(3, .int (nI (i + 1))), (2, .int (nI (q + 1))), (0, .ref o), (1, .int (nI 3))]) hx hb d_MO_count_148 hl (k := 3) rfl (nI_1 _) (by decide) rfl (fun ls hl => ?_)
            refine lv_goto (tgt := 115) hx hb d_MO_count_151 (by decide) ?_
            exact ih_115 N9_4 (q + 1) (i + 1) (by omega) (by first | assumption | omega) (cn_t hq (by rw [c_3, c_5]; rfl)) _ _ hP hD hS ls (lv_sub hl [2, 3, 1, 0] rfl)
  exact L115_1 ((ar - 0) + 1) N0 0 0 (Nat.lt_succ_self _) (by first | assumption | omega) rfl _ _ hP hD hS ls (lv_sub hl [2, 3, 1, 0] rfl)

/-- the pieces that the loss of a node leaves, by the reference -/
def flM (ar nd : Nat) (P : Nat → Bool) (F G : Nat → Nat) (x kk : Nat) : Prop := ∃ pt, RcT (lkT ar 0 P (-1) (-1) (nI 0) F G) F G (sb x) pt ∧ kk = cn (ldB (lkT ar 0 P (-1) (-1) (sb x) F G) F G (pt &&& (sb x ^^^ (-1)))) 16
theorem RcT_u {T : Nat → Bool} {F G : Nat → Nat} {st x y : Int32} (h : RcT T F G st x) (k : RcT T F G st y) : x = y := b_ext (fun z _ => by
  have := (h z).trans (k z).symm
  cases hx : bt x z <;> cases hz : bt y z <;> simp_all)
theorem flM_u {ar nd : Nat} {P : Nat → Bool} {F G : Nat → Nat} {x k k2 : Nat} (h : flM ar nd P F G x k) (h2 : flM ar nd P F G x k2) : k = k2 := by
  obtain ⟨p, h3, h4⟩ := h
  obtain ⟨p2, h5, h6⟩ := h2
  rw [h4, h6, RcT_u h3 h5]
noncomputable def cfB (ar nd : Nat) (P : Nat → Bool) (F G : Nat → Nat) (x : Nat) : Bool := dc (∃ k, flM ar nd P F G x k ∧ 1 < k)

set_option maxHeartbeats 4000000 in
set_option maxRecDepth 100000 in
theorem c_MO_count_4 (l : Launch) (dC : Nat → ClassId) (dI : Nat → Nat → Nat) (cI cJ cZ : ClassId) (o fF fG fT fN fW fO fB fS fD : Nat) (th be bz sz : Int32) (nd ar : Nat) (F G : Nat → Nat) (P : Nat → Bool) (hF : ∀ k, F k < 14) (hG : ∀ k, G k < 14) (hnd : nd ≤ 14) (har : ar ≤ 40) (hM : ∀ e, e < ar → F e < nd ∧ G e < nd) (N0 : Nat → Int32) : Met l ⟨"CutPointsModel", "count", "(I)I"⟩ (Cond.code ⟨"CutPointsModel", "count", "(I)I"⟩ prog_9_method_27_code 4 (some .int) :: TT) (rmk 4 90) (PM dC dI cI cJ cZ [.ref o, .int (nI 4)] [(o, .inr (7, [.int th, .int (nI nd), .int (nI ar), .ref fF, .ref fG, .ref fT, .ref fN, .ref fW, .int be, .ref fO, .ref fB, .int bz, .ref fS, .ref fD, .int sz])), (fF, .inl (cI, 41, .inl (nF F))), (fG, .inl (cI, 41, .inl (nF G))), (fT, .inl (cZ, 41, .inl (bF P))), (fN, .inl (cI, 14, .inl N0))]) (va_Qi (S := Nat → Int32) (fun r u9 => r = nI (cn (cfB ar nd P F G) nd)) (fun u9 t9 => va_P (dC, dI) cls ([(o, .inr (7, [.int (nI 0), .int (nI nd), .int (nI ar), .ref fF, .ref fG, .ref fT, .ref fN, .ref fW, .int be, .ref fO, .ref fB, .int bz, .ref fS, .ref fD, .int sz])), (fF, .inl (cI, 41, .inl (nF F))), (fG, .inl (cI, 41, .inl (nF G))), (fT, .inl (cZ, 41, .inl (bF P))), (fN, .inl (cI, 14, .inl u9))]) t9.heap) (ow [(o, .inr (7, [.int th, .int (nI nd), .int (nI ar), .ref fF, .ref fG, .ref fT, .ref fN, .ref fW, .int be, .ref fO, .ref fB, .int bz, .ref fS, .ref fD, .int sz])), (fF, .inl (cI, 41, .inl (nF F))), (fG, .inl (cI, 41, .inl (nF G))), (fT, .inl (cZ, 41, .inl (bF P))), (fN, .inl (cI, 14, .inl N0))])) 0 0 (ow [(o, .inr (7, [.int th, .int (nI nd), .int (nI ar), .ref fF, .ref fG, .ref fT, .ref fN, .ref fW, .int be, .ref fO, .ref fB, .int bz, .ref fS, .ref fD, .int sz])), (fF, .inl (cI, 41, .inl (nF F))), (fG, .inl (cI, 41, .inl (nF G))), (fT, .inl (cZ, 41, .inl (bF P))), (fN, .inl (cI, 14, .inl N0))]) := by
  refine Met.ofW (cc := prog_9_method_27_code) (maxL := 4) (ret := (some .int)) (by decide) rfl ?_
  intro p e s m args below meth c s₁ BB9 hml hv
  obtain ⟨rfl, hP, hK, hD0⟩ := hv
  have hx := BB9.exec
  have hb := BB9.bytes
  have hr := BB9.returns
  have hts : ∀ w ∈ TT, w.before _ s = true := fun w h => atoms_spec (ws := (Cond.code ⟨"CutPointsModel", "count", "(I)I"⟩ prog_9_method_27_code 4 (some .int) :: TT)) BB9.pre w (List.mem_cons_of_mem _ h)
  have hown : s.vm.findClass "CutPointsModel" = some m.cls := findClass_of_methodNamed BB9.named
  have hlocks := BB9.notSynchronized
  have hD := hD0.mine
  have hS : va_S (ow [(o, .inr (7, [.int th, .int (nI nd), .int (nI ar), .ref fF, .ref fG, .ref fT, .ref fN, .ref fW, .int be, .ref fO, .ref fB, .int bz, .ref fS, .ref fD, .int sz])), (fF, .inl (cI, 41, .inl (nF F))), (fG, .inl (cI, 41, .inl (nF G))), (fT, .inl (cZ, 41, .inl (bF P))), (fN, .inl (cI, 14, .inl N0))]) s.heap s.heap [] := va_S.rf
  have hl := lv_entry ([.ref o, .int (nI 4)]) (n := 4) (Nat.le_of_ble_eq_true rfl)
  rw [lg_entry_eq]
  generalize (lg_sl ([.ref o, .int (nI 4)]) ++ List.replicate (4 - (lg_sl ([.ref o, .int (nI 4)])).length) Slot.unset).toArray = ls at hl ⊢
  have hl : lv_has ls 4 [(0, .ref o), (1, .int (nI 4))] := hl
  refine lv_aload_n hx hb d_MO_count_0 rfl (lv_at hl 0 rfl) ?_
  refine lv_iconst (v := (nI 0)) hx hb d_MO_count_1 (by decide) ?_
  refine va_put (D := (dC, dI)) (ci := 7) (v := .int (nI 0)) (ty := .int) (C := R_MO) (T := F_MO) (N := 15) hx hb hts in_MO t_MO t_MO_ok n_MO hown hK.1 hP hD hS 0 rfl rfl 0 (by decide) (hts _ wfl_MO_38) (fun _ h9 => h9) rfl (by decide +kernel) rfl rfl (Nat.le_of_ble_eq_true rfl) d_MO_count_2 (fun H locs hP hD hS => ?_)
  have hP : va_P (dC, dI) cls [(o, .inr (7, [.int (nI 0), .int (nI nd), .int (nI ar), .ref fF, .ref fG, .ref fT, .ref fN, .ref fW, .int be, .ref fO, .ref fB, .int bz, .ref fS, .ref fD, .int sz])), (fF, .inl (cI, 41, .inl (nF F))), (fG, .inl (cI, 41, .inl (nF G))), (fT, .inl (cZ, 41, .inl (bF P))), (fN, .inl (cI, 14, .inl N0))] H := hP
  have hD : va_D (ow [(o, .inr (7, [.int th, .int (nI nd), .int (nI ar), .ref fF, .ref fG, .ref fT, .ref fN, .ref fW, .int be, .ref fO, .ref fB, .int bz, .ref fS, .ref fD, .int sz])), (fF, .inl (cI, 41, .inl (nF F))), (fG, .inl (cI, 41, .inl (nF G))), (fT, .inl (cZ, 41, .inl (bF P))), (fN, .inl (cI, 14, .inl N0))]) [(o, .inr (7, [.int (nI 0), .int (nI nd), .int (nI ar), .ref fF, .ref fG, .ref fT, .ref fN, .ref fW, .int be, .ref fO, .ref fB, .int bz, .ref fS, .ref fD, .int sz])), (fF, .inl (cI, 41, .inl (nF F))), (fG, .inl (cI, 41, .inl (nF G))), (fT, .inl (cZ, 41, .inl (bF P))), (fN, .inl (cI, 14, .inl N0))] := hD
  refine lv_iconst (v := (nI 0)) hx hb d_MO_count_5 (by decide) ?_
  refine lv_istore_n (lv' := [(2, .int (nI 0)), (0, .ref o), (1, .int (nI 4))]) hx hb d_MO_count_6 rfl hl (by decide) rfl (fun ls hl => ?_)
  refine lv_iload_n hx hb d_MO_count_7 rfl (lv_at hl 2 rfl) ?_
  refine lv_tableIn (off := 148) (tgt := 156) hx hb d_MO_count_8 (by decide) (by decide) (by decide) (by decide) ?_
  refine lv_iconst (v := (nI 0)) hx hb d_MO_count_156 (by decide) ?_
  refine lv_istore_n (lv' := [(3, .int (nI 0)), (2, .int (nI 0)), (0, .ref o), (1, .int (nI 4))]) hx hb d_MO_count_157 rfl hl (by decide) rfl (fun ls hl => ?_)
  have L158_1 : ∀ (n : Nat) (N2 : Nat → Int32) (q : Nat) (i : Nat) (hn : nd - i < n) (hi : i ≤ nd) (hq : q = cn (cfB ar nd P F G) i) (H : Heap) (locs : List Loc) (hP : va_P (dC, dI) cls [(o, .inr (7, [.int (nI 0), .int (nI nd), .int (nI ar), .ref fF, .ref fG, .ref fT, .ref fN, .ref fW, .int be, .ref fO, .ref fB, .int bz, .ref fS, .ref fD, .int sz])), (fF, .inl (cI, 41, .inl (nF F))), (fG, .inl (cI, 41, .inl (nF G))), (fT, .inl (cZ, 41, .inl (bF P))), (fN, .inl (cI, 14, .inl N2))] H) (hD : va_D (ow [(o, .inr (7, [.int th, .int (nI nd), .int (nI ar), .ref fF, .ref fG, .ref fT, .ref fN, .ref fW, .int be, .ref fO, .ref fB, .int bz, .ref fS, .ref fD, .int sz])), (fF, .inl (cI, 41, .inl (nF F))), (fG, .inl (cI, 41, .inl (nF G))), (fT, .inl (cZ, 41, .inl (bF P))), (fN, .inl (cI, 14, .inl N0))]) [(o, .inr (7, [.int (nI 0), .int (nI nd), .int (nI ar), .ref fF, .ref fG, .ref fT, .ref fN, .ref fW, .int be, .ref fO, .ref fB, .int bz, .ref fS, .ref fD, .int sz])), (fF, .inl (cI, 41, .inl (nF F))), (fG, .inl (cI, 41, .inl (nF G))), (fT, .inl (cZ, 41, .inl (bF P))), (fN, .inl (cI, 14, .inl N2))]) (hS : va_S (ow [(o, .inr (7, [.int th, .int (nI nd), .int (nI ar), .ref fF, .ref fG, .ref fT, .ref fN, .ref fW, .int be, .ref fO, .ref fB, .int bz, .ref fS, .ref fD, .int sz])), (fF, .inl (cI, 41, .inl (nF F))), (fG, .inl (cI, 41, .inl (nF G))), (fT, .inl (cZ, 41, .inl (bF P))), (fN, .inl (cI, 14, .inl N0))]) s.heap H locs) (ls : Array Slot) (hl : lv_has ls 4 [(0, .ref o), (1, .int (nI 4)), (2, .int (nI q)), (3, .int (nI i))]), W p l e (headSpec (Cond.code ⟨"CutPointsModel", "count", "(I)I"⟩ prog_9_method_27_code 4 (some .int) :: TT) (rmk 4 90)).room s m ([.ref o, .int (nI 4)] : List Value).toArray below meth c H locs 0 0 (MQ below (va_Qi (S := Nat → Int32) (fun r u9 => r = nI (cn (cfB ar nd P F G) nd)) (fun u9 t9 => va_P (dC, dI) cls ([(o, .inr (7, [.int (nI 0), .int (nI nd), .int (nI ar), .ref fF, .ref fG, .ref fT, .ref fN, .ref fW, .int be, .ref fO, .ref fB, .int bz, .ref fS, .ref fD, .int sz])), (fF, .inl (cI, 41, .inl (nF F))), (fG, .inl (cI, 41, .inl (nF G))), (fT, .inl (cZ, 41, .inl (bF P))), (fN, .inl (cI, 14, .inl u9))]) t9.heap) (ow [(o, .inr (7, [.int th, .int (nI nd), .int (nI ar), .ref fF, .ref fG, .ref fT, .ref fN, .ref fW, .int be, .ref fO, .ref fB, .int bz, .ref fS, .ref fD, .int sz])), (fF, .inl (cI, 41, .inl (nF F))), (fG, .inl (cI, 41, .inl (nF G))), (fT, .inl (cZ, 41, .inl (bF P))), (fN, .inl (cI, 14, .inl N0))])) ([.ref o, .int (nI 4)] : List Value).toArray s 0 0 (ow [(o, .inr (7, [.int th, .int (nI nd), .int (nI ar), .ref fF, .ref fG, .ref fT, .ref fN, .ref fW, .int be, .ref fO, .ref fB, .int bz, .ref fS, .ref fD, .int sz])), (fF, .inl (cI, 41, .inl (nF F))), (fG, .inl (cI, 41, .inl (nF G))), (fT, .inl (cZ, 41, .inl (bF P))), (fN, .inl (cI, 14, .inl N0))])) (F0 m 158 ls []) := by
    intro n_158
    induction n_158 with
    | zero =>
      intro N2 q i hn_158
      exact absurd hn_158 (Nat.not_lt_zero _)
    | succ n_158 ih_158 =>
      intro N2 q i hn_158 hi hq H locs hP hD hS ls hl
      refine lv_iload_n hx hb d_MO_count_158 rfl (lv_at hl 3 rfl) ?_
      refine lv_aload_n hx hb d_MO_count_159 rfl (lv_at hl 0 rfl) ?_
      refine va_get (D := (dC, dI)) (ci := 7) (v := .int (nI nd)) (C := R_MO) (T := F_MO) (N := 15) hx hb hts in_MO hown hK.1 hP 0 rfl rfl 1 (by decide) (hts _ wfl_MO_42) (fun _ h9 => h9) rfl d_MO_count_160 ?_
      refine x_cmp_ge (a := i) (b := nd) (tgt := 189) hx hb (by omega) (by omega) d_MO_count_163 (by decide) (fun c_2 => ?_) (fun c_2 => ?_)
      · skip
        refine lv_iload_n hx hb d_MO_count_189 rfl (lv_at hl 2 rfl) ?_
        exact W.iret (v := (nI q)) hx hb hr (fun t9 ht9 _ => ⟨⟨_, (N2), rfl, (by have e9 : i = nd := (by omega); subst e9; rw [hq]), by show va_P (dC, dI) cls _ t9.heap; rw [ht9]; exact hP⟩, hS.F ht9⟩) hS.2.2 d_MO_count_190
      · skip
        refine lv_iload_n hx hb d_MO_count_166 rfl (lv_at hl 2 rfl) ?_
        refine lv_aload_n hx hb d_MO_count_167 rfl (lv_at hl 0 rfl) ?_
        refine lv_iload_n hx hb d_MO_count_168 rfl (lv_at hl 3 rfl) ?_
        refine x_ci (k_V (n := 1) (C := R_MO) (rest := [.int (nI q)]) ⟨hx, hb, hml, hown, hts⟩ (c_MO_fallsOf l dC dI cI cJ cZ o fF fG fT fN fW fO fB fS fD (nI 0) be bz sz nd ar F G P hF hG (by first | assumption | omega) (by first | assumption | omega) hM N2 i (by first | assumption | omega)) wml_MO_98 wim_MO_fallsOf wsel_MO_fallsOf wini_MO wcode_MO_fallsOf (by decide +kernel) ⟨Nat.le_of_ble_eq_true rfl, Nat.le_of_ble_eq_true rfl⟩ (preV_M (q := (R_MO, F_MO, 15)) (ci := 7) (q0 := 0) (hP.sub (ws' := [(o, .inr (7, [.int (nI 0), .int (nI nd), .int (nI ar), .ref fF, .ref fG, .ref fT, .ref fN, .ref fW, .int be, .ref fO, .ref fB, .int bz, .ref fS, .ref fD, .int sz])), (fF, .inl (cI, 41, .inl (nF F))), (fG, .inl (cI, 41, .inl (nF G))), (fT, .inl (cZ, 41, .inl (bF P))), (fN, .inl (cI, 14, .inl N2))]) [0, 1, 2, 3, 4] rfl) hK (hD.sub (ws' := [(o, .inr (7, [.int (nI 0), .int (nI nd), .int (nI ar), .ref fF, .ref fG, .ref fT, .ref fN, .ref fW, .int be, .ref fO, .ref fB, .int bz, .ref fS, .ref fD, .int sz])), (fF, .inl (cI, 41, .inl (nF F))), (fG, .inl (cI, 41, .inl (nF G))), (fT, .inl (cZ, 41, .inl (bF P))), (fN, .inl (cI, 14, .inl N2))]) [0, 1, 2, 3, 4] (by decide) rfl) rfl rfl) rfl hl.1 rfl (Nat.le_of_ble_eq_true rfl) d_MO_count_169 ⟨Nat.zero_le _, Nat.zero_le _⟩) hP hD hS [0, 1, 2, 3, 4] rfl (fun _ => rfl) (fun r_3 u_3 H locs hu_3 hP hS => ?_)
        obtain ⟨N9_3, rfl⟩ : ∃ z, z = u_3 := ⟨_, rfl⟩
        have hP : va_P (dC, dI) cls [(o, .inr (7, [.int (nI 0), .int (nI nd), .int (nI ar), .ref fF, .ref fG, .ref fT, .ref fN, .ref fW, .int be, .ref fO, .ref fB, .int bz, .ref fS, .ref fD, .int sz])), (fF, .inl (cI, 41, .inl (nF F))), (fG, .inl (cI, 41, .inl (nF G))), (fT, .inl (cZ, 41, .inl (bF P))), (fN, .inl (cI, 14, .inl N9_3))] H := hP
        have hD := hD.addr (ws' := [(o, .inr (7, [.int (nI 0), .int (nI nd), .int (nI ar), .ref fF, .ref fG, .ref fT, .ref fN, .ref fW, .int be, .ref fO, .ref fB, .int bz, .ref fS, .ref fD, .int sz])), (fF, .inl (cI, 41, .inl (nF F))), (fG, .inl (cI, 41, .inl (nF G))), (fT, .inl (cZ, 41, .inl (bF P))), (fN, .inl (cI, 14, .inl N9_3))]) rfl
        obtain ⟨kx_4, ek_4, hk_4⟩ := hu_3
        refine xe_i (y := (nI kx_4)) ek_4 ?_
        refine lv_iconst (v := (nI 1)) hx hb d_MO_count_172 (by decide) ?_
        refine x_cmp_le (a := kx_4) (b := 1) (tgt := 180) hx hb (by obtain ⟨_, _, z9⟩ := hk_4; rw [z9]; exact Nat.lt_of_le_of_lt (cn_le _ _) (by decide)) (by omega) d_MO_count_173 (by decide) (fun c_5 => ?_) (fun c_5 => ?_)
        · skip
          refine lv_iconst (v := (nI 0)) hx hb d_MO_count_180 (by decide) ?_
          refine lv_iadd hx hb d_MO_count_181 ?_
          refine xe_i (nI_add _ _) ?_
          refine lv_istore_n (lv' := [(2, .int (nI (q + 0))), (0, .ref o), (1, .int (nI 4)), (3, .int (nI i))]) hx hb d_MO_count_182 rfl hl (by decide) rfl (fun ls hl => ?_)
          refine lv_iinc (v := (nI (i + 1))) (lv' := [(3, .int (nI (i + 1))), (2, .int (nI (q + 0))), (0, .ref o), (1, .int (nI 4))]) hx hb d_MO_count_183 hl (k := 3) rfl (nI_1 _) (by decide) rfl (fun ls hl => ?_)
          refine lv_goto (tgt := 158) hx hb d_MO_count_186 (by decide) ?_
          exact ih_158 N9_3 (q + 0) (i + 1) (by omega) (by first | assumption | omega) (show q + 0 = _ from cn_f hq (dc_f.mpr (fun ⟨z8, z9, z10⟩ => by have := flM_u z9 hk_4; omega))) _ _ hP hD hS ls (lv_sub hl [2, 3, 1, 0] rfl)
        · skip
          refine lv_iconst (v := (nI 1)) hx hb d_MO_count_176 (by decide) ?_
          refine lv_goto (tgt := 181) hx hb d_MO_count_177 (by decide) ?_
          refine lv_iadd hx hb d_MO_count_181 ?_
          refine xe_i (nI_add _ _) ?_
          refine lv_istore_n (lv' := [(2, .int (nI (q + 1))), (0, .ref o), (1, .int (nI 4)), (3, .int (nI i))]) hx hb d_MO_count_182 rfl hl (by decide) rfl (fun ls hl => ?_)
          refine lv_iinc (v := (nI (i + 1))) (lv' := [(3, .int (nI (i + 1))), (2, .int (nI (q + 1))), (0, .ref o), (1, .int (nI 4))]) hx hb d_MO_count_183 hl (k := 3) rfl (nI_1 _) (by decide) rfl (fun ls hl => ?_)
          refine lv_goto (tgt := 158) hx hb d_MO_count_186 (by decide) ?_
          exact ih_158 N9_3 (q + 1) (i + 1) (by omega) (by first | assumption | omega) (cn_t hq (dc_t.mpr ⟨_, hk_4, by omega⟩)) _ _ hP hD hS ls (lv_sub hl [2, 3, 1, 0] rfl)
  exact L158_1 ((nd - 0) + 1) N0 0 0 (Nat.lt_succ_self _) (by first | assumption | omega) rfl _ _ hP hD hS ls (lv_sub hl [2, 3, 1, 0] rfl)

set_option maxHeartbeats 4000000 in
set_option maxRecDepth 100000 in
theorem c_MO_count_5 (l : Launch) (dC : Nat → ClassId) (dI : Nat → Nat → Nat) (cI cJ cZ : ClassId) (o fF fG fT fN fW fO fB fS fD : Nat) (th be bz sz : Int32) (nd ar : Nat) (F G : Nat → Nat) (P : Nat → Bool) (hF : ∀ k, F k < 14) (hG : ∀ k, G k < 14) (hnd : nd ≤ 14) (har : ar ≤ 40) (hM : ∀ e, e < ar → F e < nd ∧ G e < nd) (N0 : Nat → Int32) : Met l ⟨"CutPointsModel", "count", "(I)I"⟩ (Cond.code ⟨"CutPointsModel", "count", "(I)I"⟩ prog_9_method_27_code 4 (some .int) :: TT) (rmk 3 74) (PM dC dI cI cJ cZ [.ref o, .int (nI 5)] [(o, .inr (7, [.int th, .int (nI nd), .int (nI ar), .ref fF, .ref fG, .ref fT, .ref fN, .ref fW, .int be, .ref fO, .ref fB, .int bz, .ref fS, .ref fD, .int sz])), (fF, .inl (cI, 41, .inl (nF F))), (fG, .inl (cI, 41, .inl (nF G))), (fT, .inl (cZ, 41, .inl (bF P))), (fN, .inl (cI, 14, .inl N0))]) (va_Qi (S := Nat → Int32) (fun r u9 => r = nI (cn (fun e => P e && dc (∀ f, f < e → ¬ (P f = true ∧ abR ar nd P F G e f))) ar)) (fun u9 t9 => va_P (dC, dI) cls ([(o, .inr (7, [.int (nI 0), .int (nI nd), .int (nI ar), .ref fF, .ref fG, .ref fT, .ref fN, .ref fW, .int be, .ref fO, .ref fB, .int bz, .ref fS, .ref fD, .int sz])), (fF, .inl (cI, 41, .inl (nF F))), (fG, .inl (cI, 41, .inl (nF G))), (fT, .inl (cZ, 41, .inl (bF P))), (fN, .inl (cI, 14, .inl u9))]) t9.heap) (ow [(o, .inr (7, [.int th, .int (nI nd), .int (nI ar), .ref fF, .ref fG, .ref fT, .ref fN, .ref fW, .int be, .ref fO, .ref fB, .int bz, .ref fS, .ref fD, .int sz])), (fF, .inl (cI, 41, .inl (nF F))), (fG, .inl (cI, 41, .inl (nF G))), (fT, .inl (cZ, 41, .inl (bF P))), (fN, .inl (cI, 14, .inl N0))])) 0 0 (ow [(o, .inr (7, [.int th, .int (nI nd), .int (nI ar), .ref fF, .ref fG, .ref fT, .ref fN, .ref fW, .int be, .ref fO, .ref fB, .int bz, .ref fS, .ref fD, .int sz])), (fF, .inl (cI, 41, .inl (nF F))), (fG, .inl (cI, 41, .inl (nF G))), (fT, .inl (cZ, 41, .inl (bF P))), (fN, .inl (cI, 14, .inl N0))]) := by
  refine Met.ofW (cc := prog_9_method_27_code) (maxL := 4) (ret := (some .int)) (by decide) rfl ?_
  intro p e s m args below meth c s₁ BB9 hml hv
  obtain ⟨rfl, hP, hK, hD0⟩ := hv
  have hx := BB9.exec
  have hb := BB9.bytes
  have hr := BB9.returns
  have hts : ∀ w ∈ TT, w.before _ s = true := fun w h => atoms_spec (ws := (Cond.code ⟨"CutPointsModel", "count", "(I)I"⟩ prog_9_method_27_code 4 (some .int) :: TT)) BB9.pre w (List.mem_cons_of_mem _ h)
  have hown : s.vm.findClass "CutPointsModel" = some m.cls := findClass_of_methodNamed BB9.named
  have hlocks := BB9.notSynchronized
  have hD := hD0.mine
  have hS : va_S (ow [(o, .inr (7, [.int th, .int (nI nd), .int (nI ar), .ref fF, .ref fG, .ref fT, .ref fN, .ref fW, .int be, .ref fO, .ref fB, .int bz, .ref fS, .ref fD, .int sz])), (fF, .inl (cI, 41, .inl (nF F))), (fG, .inl (cI, 41, .inl (nF G))), (fT, .inl (cZ, 41, .inl (bF P))), (fN, .inl (cI, 14, .inl N0))]) s.heap s.heap [] := va_S.rf
  have hl := lv_entry ([.ref o, .int (nI 5)]) (n := 4) (Nat.le_of_ble_eq_true rfl)
  rw [lg_entry_eq]
  generalize (lg_sl ([.ref o, .int (nI 5)]) ++ List.replicate (4 - (lg_sl ([.ref o, .int (nI 5)])).length) Slot.unset).toArray = ls at hl ⊢
  have hl : lv_has ls 4 [(0, .ref o), (1, .int (nI 5))] := hl
  refine lv_aload_n hx hb d_MO_count_0 rfl (lv_at hl 0 rfl) ?_
  refine lv_iconst (v := (nI 0)) hx hb d_MO_count_1 (by decide) ?_
  refine va_put (D := (dC, dI)) (ci := 7) (v := .int (nI 0)) (ty := .int) (C := R_MO) (T := F_MO) (N := 15) hx hb hts in_MO t_MO t_MO_ok n_MO hown hK.1 hP hD hS 0 rfl rfl 0 (by decide) (hts _ wfl_MO_38) (fun _ h9 => h9) rfl (by decide +kernel) rfl rfl (Nat.le_of_ble_eq_true rfl) d_MO_count_2 (fun H locs hP hD hS => ?_)
  have hP : va_P (dC, dI) cls [(o, .inr (7, [.int (nI 0), .int (nI nd), .int (nI ar), .ref fF, .ref fG, .ref fT, .ref fN, .ref fW, .int be, .ref fO, .ref fB, .int bz, .ref fS, .ref fD, .int sz])), (fF, .inl (cI, 41, .inl (nF F))), (fG, .inl (cI, 41, .inl (nF G))), (fT, .inl (cZ, 41, .inl (bF P))), (fN, .inl (cI, 14, .inl N0))] H := hP
  have hD : va_D (ow [(o, .inr (7, [.int th, .int (nI nd), .int (nI ar), .ref fF, .ref fG, .ref fT, .ref fN, .ref fW, .int be, .ref fO, .ref fB, .int bz, .ref fS, .ref fD, .int sz])), (fF, .inl (cI, 41, .inl (nF F))), (fG, .inl (cI, 41, .inl (nF G))), (fT, .inl (cZ, 41, .inl (bF P))), (fN, .inl (cI, 14, .inl N0))]) [(o, .inr (7, [.int (nI 0), .int (nI nd), .int (nI ar), .ref fF, .ref fG, .ref fT, .ref fN, .ref fW, .int be, .ref fO, .ref fB, .int bz, .ref fS, .ref fD, .int sz])), (fF, .inl (cI, 41, .inl (nF F))), (fG, .inl (cI, 41, .inl (nF G))), (fT, .inl (cZ, 41, .inl (bF P))), (fN, .inl (cI, 14, .inl N0))] := hD
  refine lv_iconst (v := (nI 0)) hx hb d_MO_count_5 (by decide) ?_
  refine lv_istore_n (lv' := [(2, .int (nI 0)), (0, .ref o), (1, .int (nI 5))]) hx hb d_MO_count_6 rfl hl (by decide) rfl (fun ls hl => ?_)
  refine lv_iload_n hx hb d_MO_count_7 rfl (lv_at hl 2 rfl) ?_
  refine lv_tableIn (off := 183) (tgt := 191) hx hb d_MO_count_8 (by decide) (by decide) (by decide) (by decide) ?_
  refine lv_iconst (v := (nI 0)) hx hb d_MO_count_191 (by decide) ?_
  refine lv_istore_n (lv' := [(3, .int (nI 0)), (2, .int (nI 0)), (0, .ref o), (1, .int (nI 5))]) hx hb d_MO_count_192 rfl hl (by decide) rfl (fun ls hl => ?_)
  have L193_1 : ∀ (n : Nat) (N2 : Nat → Int32) (q : Nat) (i : Nat) (hn : ar - i < n) (hi : i ≤ ar) (hq : q = cn (fun e => P e && dc (∀ f, f < e → ¬ (P f = true ∧ abR ar nd P F G e f))) i) (H : Heap) (locs : List Loc) (hP : va_P (dC, dI) cls [(o, .inr (7, [.int (nI 0), .int (nI nd), .int (nI ar), .ref fF, .ref fG, .ref fT, .ref fN, .ref fW, .int be, .ref fO, .ref fB, .int bz, .ref fS, .ref fD, .int sz])), (fF, .inl (cI, 41, .inl (nF F))), (fG, .inl (cI, 41, .inl (nF G))), (fT, .inl (cZ, 41, .inl (bF P))), (fN, .inl (cI, 14, .inl N2))] H) (hD : va_D (ow [(o, .inr (7, [.int th, .int (nI nd), .int (nI ar), .ref fF, .ref fG, .ref fT, .ref fN, .ref fW, .int be, .ref fO, .ref fB, .int bz, .ref fS, .ref fD, .int sz])), (fF, .inl (cI, 41, .inl (nF F))), (fG, .inl (cI, 41, .inl (nF G))), (fT, .inl (cZ, 41, .inl (bF P))), (fN, .inl (cI, 14, .inl N0))]) [(o, .inr (7, [.int (nI 0), .int (nI nd), .int (nI ar), .ref fF, .ref fG, .ref fT, .ref fN, .ref fW, .int be, .ref fO, .ref fB, .int bz, .ref fS, .ref fD, .int sz])), (fF, .inl (cI, 41, .inl (nF F))), (fG, .inl (cI, 41, .inl (nF G))), (fT, .inl (cZ, 41, .inl (bF P))), (fN, .inl (cI, 14, .inl N2))]) (hS : va_S (ow [(o, .inr (7, [.int th, .int (nI nd), .int (nI ar), .ref fF, .ref fG, .ref fT, .ref fN, .ref fW, .int be, .ref fO, .ref fB, .int bz, .ref fS, .ref fD, .int sz])), (fF, .inl (cI, 41, .inl (nF F))), (fG, .inl (cI, 41, .inl (nF G))), (fT, .inl (cZ, 41, .inl (bF P))), (fN, .inl (cI, 14, .inl N0))]) s.heap H locs) (ls : Array Slot) (hl : lv_has ls 4 [(0, .ref o), (1, .int (nI 5)), (2, .int (nI q)), (3, .int (nI i))]), W p l e (headSpec (Cond.code ⟨"CutPointsModel", "count", "(I)I"⟩ prog_9_method_27_code 4 (some .int) :: TT) (rmk 3 74)).room s m ([.ref o, .int (nI 5)] : List Value).toArray below meth c H locs 0 0 (MQ below (va_Qi (S := Nat → Int32) (fun r u9 => r = nI (cn (fun e => P e && dc (∀ f, f < e → ¬ (P f = true ∧ abR ar nd P F G e f))) ar)) (fun u9 t9 => va_P (dC, dI) cls ([(o, .inr (7, [.int (nI 0), .int (nI nd), .int (nI ar), .ref fF, .ref fG, .ref fT, .ref fN, .ref fW, .int be, .ref fO, .ref fB, .int bz, .ref fS, .ref fD, .int sz])), (fF, .inl (cI, 41, .inl (nF F))), (fG, .inl (cI, 41, .inl (nF G))), (fT, .inl (cZ, 41, .inl (bF P))), (fN, .inl (cI, 14, .inl u9))]) t9.heap) (ow [(o, .inr (7, [.int th, .int (nI nd), .int (nI ar), .ref fF, .ref fG, .ref fT, .ref fN, .ref fW, .int be, .ref fO, .ref fB, .int bz, .ref fS, .ref fD, .int sz])), (fF, .inl (cI, 41, .inl (nF F))), (fG, .inl (cI, 41, .inl (nF G))), (fT, .inl (cZ, 41, .inl (bF P))), (fN, .inl (cI, 14, .inl N0))])) ([.ref o, .int (nI 5)] : List Value).toArray s 0 0 (ow [(o, .inr (7, [.int th, .int (nI nd), .int (nI ar), .ref fF, .ref fG, .ref fT, .ref fN, .ref fW, .int be, .ref fO, .ref fB, .int bz, .ref fS, .ref fD, .int sz])), (fF, .inl (cI, 41, .inl (nF F))), (fG, .inl (cI, 41, .inl (nF G))), (fT, .inl (cZ, 41, .inl (bF P))), (fN, .inl (cI, 14, .inl N0))])) (F0 m 193 ls []) := by
    intro n_193
    induction n_193 with
    | zero =>
      intro N2 q i hn_193
      exact absurd hn_193 (Nat.not_lt_zero _)
    | succ n_193 ih_193 =>
      intro N2 q i hn_193 hi hq H locs hP hD hS ls hl
      refine lv_iload_n hx hb d_MO_count_193 rfl (lv_at hl 3 rfl) ?_
      refine lv_aload_n hx hb d_MO_count_194 rfl (lv_at hl 0 rfl) ?_
      refine va_get (D := (dC, dI)) (ci := 7) (v := .int (nI ar)) (C := R_MO) (T := F_MO) (N := 15) hx hb hts in_MO hown hK.1 hP 0 rfl rfl 2 (by decide) (hts _ wfl_MO_45) (fun _ h9 => h9) rfl d_MO_count_195 ?_
      refine x_cmp_ge (a := i) (b := ar) (tgt := 233) hx hb (by omega) (by omega) d_MO_count_198 (by decide) (fun c_2 => ?_) (fun c_2 => ?_)
      · skip
        refine lv_iload_n hx hb d_MO_count_233 rfl (lv_at hl 2 rfl) ?_
        exact W.iret (v := (nI q)) hx hb hr (fun t9 ht9 _ => ⟨⟨_, (N2), rfl, (by have e9 : i = ar := (by omega); subst e9; rw [hq]), by show va_P (dC, dI) cls _ t9.heap; rw [ht9]; exact hP⟩, hS.F ht9⟩) hS.2.2 d_MO_count_234
      · skip
        refine lv_iload_n hx hb d_MO_count_201 rfl (lv_at hl 2 rfl) ?_
        refine lv_aload_n hx hb d_MO_count_202 rfl (lv_at hl 0 rfl) ?_
        refine va_get (D := (dC, dI)) (ci := 7) (v := .ref fT) (C := R_MO) (T := F_MO) (N := 15) hx hb hts in_MO hown hK.1 hP 0 rfl rfl 5 (by decide) (hts _ wfl_MO_16) (fun _ h9 => h9) rfl d_MO_count_203 ?_
        refine lv_iload_n hx hb d_MO_count_206 rfl (lv_at hl 3 rfl) ?_
        refine x_zald (n := 41) (f := (bF P)) (j := i) hx hb hK.1 hP 3 2 rfl rfl (by omega) (by omega) d_MO_count_207 ?_
        refine xe_i (y := (bI (P i))) rfl ?_
        refine x_if_eq (tgt := 224) hx hb d_MO_count_208 (by decide) (fun c_3 => ?_) (fun c_3 => ?_)
        · skip
          refine lv_iconst (v := (nI 0)) hx hb d_MO_count_224 (by decide) ?_
          refine lv_iadd hx hb d_MO_count_225 ?_
          refine xe_i (nI_add _ _) ?_
          refine lv_istore_n (lv' := [(2, .int (nI (q + 0))), (0, .ref o), (1, .int (nI 5)), (3, .int (nI i))]) hx hb d_MO_count_226 rfl hl (by decide) rfl (fun ls hl => ?_)
          refine lv_iinc (v := (nI (i + 1))) (lv' := [(3, .int (nI (i + 1))), (2, .int (nI (q + 0))), (0, .ref o), (1, .int (nI 5))]) hx hb d_MO_count_227 hl (k := 3) rfl (nI_1 _) (by decide) rfl (fun ls hl => ?_)
          refine lv_goto (tgt := 193) hx hb d_MO_count_230 (by decide) ?_
          exact ih_193 N2 (q + 0) (i + 1) (by omega) (by first | assumption | omega) (show q + 0 = _ from cn_f hq (by rw [c_3]; rfl)) _ _ hP hD hS ls (lv_sub hl [2, 3, 1, 0] rfl)
        · skip
          refine lv_aload_n hx hb d_MO_count_211 rfl (lv_at hl 0 rfl) ?_
          refine lv_iload_n hx hb d_MO_count_212 rfl (lv_at hl 3 rfl) ?_
          refine x_ci (k_V (n := 1) (C := R_MO) (rest := [.int (nI q)]) ⟨hx, hb, hml, hown, hts⟩ (c_MO_blockOf l dC dI cI cJ cZ o fF fG fT fN fW fO fB fS fD (nI 0) be bz sz nd ar F G P hF hG (by first | assumption | omega) (by first | assumption | omega) hM N2 i (by first | assumption | omega) c_3) wml_MO_101 wim_MO_blockOf wsel_MO_blockOf wini_MO wcode_MO_blockOf (by decide +kernel) ⟨Nat.le_of_ble_eq_true rfl, Nat.le_of_ble_eq_true rfl⟩ (preV_M (q := (R_MO, F_MO, 15)) (ci := 7) (q0 := 0) (hP.sub (ws' := [(o, .inr (7, [.int (nI 0), .int (nI nd), .int (nI ar), .ref fF, .ref fG, .ref fT, .ref fN, .ref fW, .int be, .ref fO, .ref fB, .int bz, .ref fS, .ref fD, .int sz])), (fF, .inl (cI, 41, .inl (nF F))), (fG, .inl (cI, 41, .inl (nF G))), (fT, .inl (cZ, 41, .inl (bF P))), (fN, .inl (cI, 14, .inl N2))]) [0, 1, 2, 3, 4] rfl) hK (hD.sub (ws' := [(o, .inr (7, [.int (nI 0), .int (nI nd), .int (nI ar), .ref fF, .ref fG, .ref fT, .ref fN, .ref fW, .int be, .ref fO, .ref fB, .int bz, .ref fS, .ref fD, .int sz])), (fF, .inl (cI, 41, .inl (nF F))), (fG, .inl (cI, 41, .inl (nF G))), (fT, .inl (cZ, 41, .inl (bF P))), (fN, .inl (cI, 14, .inl N2))]) [0, 1, 2, 3, 4] (by decide) rfl) rfl rfl) rfl hl.1 rfl (Nat.le_of_ble_eq_true rfl) d_MO_count_213 ⟨Nat.zero_le _, Nat.zero_le _⟩) hP hD hS [0, 1, 2, 3, 4] rfl (fun _ => rfl) (fun r_4 u_4 H locs hu_4 hP hS => ?_)
          obtain ⟨N9_4, rfl⟩ : ∃ z, z = u_4 := ⟨_, rfl⟩
          have hP : va_P (dC, dI) cls [(o, .inr (7, [.int (nI 0), .int (nI nd), .int (nI ar), .ref fF, .ref fG, .ref fT, .ref fN, .ref fW, .int be, .ref fO, .ref fB, .int bz, .ref fS, .ref fD, .int sz])), (fF, .inl (cI, 41, .inl (nF F))), (fG, .inl (cI, 41, .inl (nF G))), (fT, .inl (cZ, 41, .inl (bF P))), (fN, .inl (cI, 14, .inl N9_4))] H := hP
          have hD := hD.addr (ws' := [(o, .inr (7, [.int (nI 0), .int (nI nd), .int (nI ar), .ref fF, .ref fG, .ref fT, .ref fN, .ref fW, .int be, .ref fO, .ref fB, .int bz, .ref fS, .ref fD, .int sz])), (fF, .inl (cI, 41, .inl (nF F))), (fG, .inl (cI, 41, .inl (nF G))), (fT, .inl (cZ, 41, .inl (bF P))), (fN, .inl (cI, 14, .inl N9_4))]) rfl
          obtain ⟨kx_5, ek_5, hk_5⟩ := hu_4
          refine xe_i (y := (nI kx_5)) ek_5 ?_
          refine lv_iload_n hx hb d_MO_count_216 rfl (lv_at hl 3 rfl) ?_
          refine x_cmp_ne (a := kx_5) (b := i) (tgt := 224) hx hb (by have := hk_5.1; omega) (by omega) d_MO_count_217 (by decide) (fun c_6 => ?_) (fun c_6 => ?_)
          · skip
            refine lv_iconst (v := (nI 0)) hx hb d_MO_count_224 (by decide) ?_
            refine lv_iadd hx hb d_MO_count_225 ?_
            refine xe_i (nI_add _ _) ?_
            refine lv_istore_n (lv' := [(2, .int (nI (q + 0))), (0, .ref o), (1, .int (nI 5)), (3, .int (nI i))]) hx hb d_MO_count_226 rfl hl (by decide) rfl (fun ls hl => ?_)
            refine lv_iinc (v := (nI (i + 1))) (lv' := [(3, .int (nI (i + 1))), (2, .int (nI (q + 0))), (0, .ref o), (1, .int (nI 5))]) hx hb d_MO_count_227 hl (k := 3) rfl (nI_1 _) (by decide) rfl (fun ls hl => ?_)
            refine lv_goto (tgt := 193) hx hb d_MO_count_230 (by decide) ?_
            exact ih_193 N9_4 (q + 0) (i + 1) (by omega) (by first | assumption | omega) (show q + 0 = _ from cn_f hq (by rw [c_3, dc_f.mpr (fun z9 => z9 _ (Nat.lt_of_le_of_ne hk_5.1 c_6) hk_5.2.1)]; rfl)) _ _ hP hD hS ls (lv_sub hl [2, 3, 1, 0] rfl)
          · skip
            refine lv_iconst (v := (nI 1)) hx hb d_MO_count_220 (by decide) ?_
            refine lv_goto (tgt := 225) hx hb d_MO_count_221 (by decide) ?_
            refine lv_iadd hx hb d_MO_count_225 ?_
            refine xe_i (nI_add _ _) ?_
            refine lv_istore_n (lv' := [(2, .int (nI (q + 1))), (0, .ref o), (1, .int (nI 5)), (3, .int (nI i))]) hx hb d_MO_count_226 rfl hl (by decide) rfl (fun ls hl => ?_)
            refine lv_iinc (v := (nI (i + 1))) (lv' := [(3, .int (nI (i + 1))), (2, .int (nI (q + 1))), (0, .ref o), (1, .int (nI 5))]) hx hb d_MO_count_227 hl (k := 3) rfl (nI_1 _) (by decide) rfl (fun ls hl => ?_)
            refine lv_goto (tgt := 193) hx hb d_MO_count_230 (by decide) ?_
            exact ih_193 N9_4 (q + 1) (i + 1) (by omega) (by first | assumption | omega) (cn_t hq (by rw [c_3, dc_t.mpr (fun f hf => hk_5.2.2 f (by omega))]; rfl)) _ _ hP hD hS ls (lv_sub hl [2, 3, 1, 0] rfl)
  exact L193_1 ((ar - 0) + 1) N0 0 0 (Nat.lt_succ_self _) (by first | assumption | omega) rfl _ _ hP hD hS ls (lv_sub hl [2, 3, 1, 0] rfl)

set_option maxHeartbeats 4000000 in
set_option maxRecDepth 100000 in
theorem c_MO_count_6 (l : Launch) (dC : Nat → ClassId) (dI : Nat → Nat → Nat) (cI cJ cZ : ClassId) (o fF fG fT fN fW fO fB fS fD : Nat) (th be bz sz : Int32) (nd ar : Nat) (F G : Nat → Nat) (P : Nat → Bool) (hF : ∀ k, F k < 14) (hG : ∀ k, G k < 14) (hnd : nd ≤ 14) (har : ar ≤ 40) (hM : ∀ e, e < ar → F e < nd ∧ G e < nd) (N0 W0 : Nat → Int32) : Met l ⟨"CutPointsModel", "count", "(I)I"⟩ (Cond.code ⟨"CutPointsModel", "count", "(I)I"⟩ prog_9_method_27_code 4 (some .int) :: TT) (rmk 3 72) (PM dC dI cI cJ cZ [.ref o, .int (nI 6)] [(o, .inr (7, [.int th, .int (nI nd), .int (nI ar), .ref fF, .ref fG, .ref fT, .ref fN, .ref fW, .int be, .ref fO, .ref fB, .int bz, .ref fS, .ref fD, .int sz])), (fF, .inl (cI, 41, .inl (nF F))), (fG, .inl (cI, 41, .inl (nF G))), (fT, .inl (cZ, 41, .inl (bF P))), (fN, .inl (cI, 14, .inl N0)), (fW, .inl (cI, 14, .inl W0))]) (va_Qi (S := (Nat → Int32) × (Nat → Int32)) (fun r u9 => ∃ v, r = nI v ∧ ∃ W, twI ar 0 nd P F G W (ar + 0) ∧ v = cn (fun k => decide (lsn (bt (W k)) 16 = k)) nd) (fun u9 t9 => va_P (dC, dI) cls ([(o, .inr (7, [.int (nI 0), .int (nI nd), .int (nI ar), .ref fF, .ref fG, .ref fT, .ref fN, .ref fW, .int be, .ref fO, .ref fB, .int bz, .ref fS, .ref fD, .int sz])), (fF, .inl (cI, 41, .inl (nF F))), (fG, .inl (cI, 41, .inl (nF G))), (fT, .inl (cZ, 41, .inl (bF P))), (fN, .inl (cI, 14, .inl u9.1)), (fW, .inl (cI, 14, .inl u9.2))]) t9.heap) (ow [(o, .inr (7, [.int th, .int (nI nd), .int (nI ar), .ref fF, .ref fG, .ref fT, .ref fN, .ref fW, .int be, .ref fO, .ref fB, .int bz, .ref fS, .ref fD, .int sz])), (fF, .inl (cI, 41, .inl (nF F))), (fG, .inl (cI, 41, .inl (nF G))), (fT, .inl (cZ, 41, .inl (bF P))), (fN, .inl (cI, 14, .inl N0)), (fW, .inl (cI, 14, .inl W0))])) 0 0 (ow [(o, .inr (7, [.int th, .int (nI nd), .int (nI ar), .ref fF, .ref fG, .ref fT, .ref fN, .ref fW, .int be, .ref fO, .ref fB, .int bz, .ref fS, .ref fD, .int sz])), (fF, .inl (cI, 41, .inl (nF F))), (fG, .inl (cI, 41, .inl (nF G))), (fT, .inl (cZ, 41, .inl (bF P))), (fN, .inl (cI, 14, .inl N0)), (fW, .inl (cI, 14, .inl W0))]) := by
  refine Met.ofW (cc := prog_9_method_27_code) (maxL := 4) (ret := (some .int)) (by decide) rfl ?_
  intro p e s m args below meth c s₁ BB9 hml hv
  obtain ⟨rfl, hP, hK, hD0⟩ := hv
  have hx := BB9.exec
  have hb := BB9.bytes
  have hr := BB9.returns
  have hts : ∀ w ∈ TT, w.before _ s = true := fun w h => atoms_spec (ws := (Cond.code ⟨"CutPointsModel", "count", "(I)I"⟩ prog_9_method_27_code 4 (some .int) :: TT)) BB9.pre w (List.mem_cons_of_mem _ h)
  have hown : s.vm.findClass "CutPointsModel" = some m.cls := findClass_of_methodNamed BB9.named
  have hlocks := BB9.notSynchronized
  have hD := hD0.mine
  have hS : va_S (ow [(o, .inr (7, [.int th, .int (nI nd), .int (nI ar), .ref fF, .ref fG, .ref fT, .ref fN, .ref fW, .int be, .ref fO, .ref fB, .int bz, .ref fS, .ref fD, .int sz])), (fF, .inl (cI, 41, .inl (nF F))), (fG, .inl (cI, 41, .inl (nF G))), (fT, .inl (cZ, 41, .inl (bF P))), (fN, .inl (cI, 14, .inl N0)), (fW, .inl (cI, 14, .inl W0))]) s.heap s.heap [] := va_S.rf
  have hl := lv_entry ([.ref o, .int (nI 6)]) (n := 4) (Nat.le_of_ble_eq_true rfl)
  rw [lg_entry_eq]
  generalize (lg_sl ([.ref o, .int (nI 6)]) ++ List.replicate (4 - (lg_sl ([.ref o, .int (nI 6)])).length) Slot.unset).toArray = ls at hl ⊢
  have hl : lv_has ls 4 [(0, .ref o), (1, .int (nI 6))] := hl
  refine lv_aload_n hx hb d_MO_count_0 rfl (lv_at hl 0 rfl) ?_
  refine lv_iconst (v := (nI 0)) hx hb d_MO_count_1 (by decide) ?_
  refine va_put (D := (dC, dI)) (ci := 7) (v := .int (nI 0)) (ty := .int) (C := R_MO) (T := F_MO) (N := 15) hx hb hts in_MO t_MO t_MO_ok n_MO hown hK.1 hP hD hS 0 rfl rfl 0 (by decide) (hts _ wfl_MO_38) (fun _ h9 => h9) rfl (by decide +kernel) rfl rfl (Nat.le_of_ble_eq_true rfl) d_MO_count_2 (fun H locs hP hD hS => ?_)
  have hP : va_P (dC, dI) cls [(o, .inr (7, [.int (nI 0), .int (nI nd), .int (nI ar), .ref fF, .ref fG, .ref fT, .ref fN, .ref fW, .int be, .ref fO, .ref fB, .int bz, .ref fS, .ref fD, .int sz])), (fF, .inl (cI, 41, .inl (nF F))), (fG, .inl (cI, 41, .inl (nF G))), (fT, .inl (cZ, 41, .inl (bF P))), (fN, .inl (cI, 14, .inl N0)), (fW, .inl (cI, 14, .inl W0))] H := hP
  have hD : va_D (ow [(o, .inr (7, [.int th, .int (nI nd), .int (nI ar), .ref fF, .ref fG, .ref fT, .ref fN, .ref fW, .int be, .ref fO, .ref fB, .int bz, .ref fS, .ref fD, .int sz])), (fF, .inl (cI, 41, .inl (nF F))), (fG, .inl (cI, 41, .inl (nF G))), (fT, .inl (cZ, 41, .inl (bF P))), (fN, .inl (cI, 14, .inl N0)), (fW, .inl (cI, 14, .inl W0))]) [(o, .inr (7, [.int (nI 0), .int (nI nd), .int (nI ar), .ref fF, .ref fG, .ref fT, .ref fN, .ref fW, .int be, .ref fO, .ref fB, .int bz, .ref fS, .ref fD, .int sz])), (fF, .inl (cI, 41, .inl (nF F))), (fG, .inl (cI, 41, .inl (nF G))), (fT, .inl (cZ, 41, .inl (bF P))), (fN, .inl (cI, 14, .inl N0)), (fW, .inl (cI, 14, .inl W0))] := hD
  refine lv_iconst (v := (nI 0)) hx hb d_MO_count_5 (by decide) ?_
  refine lv_istore_n (lv' := [(2, .int (nI 0)), (0, .ref o), (1, .int (nI 6))]) hx hb d_MO_count_6 rfl hl (by decide) rfl (fun ls hl => ?_)
  refine lv_iload_n hx hb d_MO_count_7 rfl (lv_at hl 2 rfl) ?_
  refine lv_tableIn (off := 227) (tgt := 235) hx hb d_MO_count_8 (by decide) (by decide) (by decide) (by decide) ?_
  refine lv_aload_n hx hb d_MO_count_235 rfl (lv_at hl 1 rfl) ?_
  refine x_ci (k_V (n := 0) (C := R_MO) (rest := []) ⟨hx, hb, hml, hown, hts⟩ (c_MO_twinParts l dC dI cI cJ cZ o fF fG fT fN fW fO fB fS fD (nI 0) be bz sz nd ar F G P hF hG (by first | assumption | omega) (by first | assumption | omega) hM N0 W0) wml_MO_104 wim_MO_twinParts wsel_MO_twinParts wini_MO wcode_MO_twinParts (by decide +kernel) ⟨Nat.le_of_ble_eq_true rfl, Nat.le_of_ble_eq_true rfl⟩ (preV_M (q := (R_MO, F_MO, 15)) (ci := 7) (q0 := 0) (hP.sub (ws' := [(o, .inr (7, [.int (nI 0), .int (nI nd), .int (nI ar), .ref fF, .ref fG, .ref fT, .ref fN, .ref fW, .int be, .ref fO, .ref fB, .int bz, .ref fS, .ref fD, .int sz])), (fF, .inl (cI, 41, .inl (nF F))), (fG, .inl (cI, 41, .inl (nF G))), (fT, .inl (cZ, 41, .inl (bF P))), (fN, .inl (cI, 14, .inl N0)), (fW, .inl (cI, 14, .inl W0))]) [0, 1, 2, 3, 4, 5] rfl) hK (hD.sub (ws' := [(o, .inr (7, [.int (nI 0), .int (nI nd), .int (nI ar), .ref fF, .ref fG, .ref fT, .ref fN, .ref fW, .int be, .ref fO, .ref fB, .int bz, .ref fS, .ref fD, .int sz])), (fF, .inl (cI, 41, .inl (nF F))), (fG, .inl (cI, 41, .inl (nF G))), (fT, .inl (cZ, 41, .inl (bF P))), (fN, .inl (cI, 14, .inl N0)), (fW, .inl (cI, 14, .inl W0))]) [0, 1, 2, 3, 4, 5] (by decide) rfl) rfl rfl) rfl hl.1 rfl (Nat.le_of_ble_eq_true rfl) d_MO_count_236 ⟨Nat.zero_le _, Nat.zero_le _⟩) hP hD hS [0, 1, 2, 3, 4, 5] rfl (fun _ => rfl) (fun r_1 u_1 H locs hu_1 hP hS => ?_)
  obtain ⟨N9_1, W9_1⟩ := u_1
  have hP : va_P (dC, dI) cls [(o, .inr (7, [.int (nI 0), .int (nI nd), .int (nI ar), .ref fF, .ref fG, .ref fT, .ref fN, .ref fW, .int be, .ref fO, .ref fB, .int bz, .ref fS, .ref fD, .int sz])), (fF, .inl (cI, 41, .inl (nF F))), (fG, .inl (cI, 41, .inl (nF G))), (fT, .inl (cZ, 41, .inl (bF P))), (fN, .inl (cI, 14, .inl N9_1)), (fW, .inl (cI, 14, .inl W9_1))] H := hP
  have hD := hD.addr (ws' := [(o, .inr (7, [.int (nI 0), .int (nI nd), .int (nI ar), .ref fF, .ref fG, .ref fT, .ref fN, .ref fW, .int be, .ref fO, .ref fB, .int bz, .ref fS, .ref fD, .int sz])), (fF, .inl (cI, 41, .inl (nF F))), (fG, .inl (cI, 41, .inl (nF G))), (fT, .inl (cZ, 41, .inl (bF P))), (fN, .inl (cI, 14, .inl N9_1)), (fW, .inl (cI, 14, .inl W9_1))]) rfl
  obtain ⟨kx_2, ek_2, hk_2⟩ := hu_1
  refine xe_i (y := (nI kx_2)) ek_2 ?_
  exact W.iret (v := (nI kx_2)) hx hb hr (fun t9 ht9 _ => ⟨⟨_, (N9_1, W9_1), rfl, ⟨_, rfl, hk_2⟩, by show va_P (dC, dI) cls _ t9.heap; rw [ht9]; exact hP⟩, hS.F ht9⟩) hS.2.2 d_MO_count_239

set_option maxHeartbeats 4000000 in
set_option maxRecDepth 100000 in
theorem c_MO_count_7 (l : Launch) (dC : Nat → ClassId) (dI : Nat → Nat → Nat) (cI cJ cZ : ClassId) (o fF fG fT fN fW fO fB fS fD : Nat) (th be bz sz : Int32) (nd ar : Nat) (F G : Nat → Nat) (P : Nat → Bool) (hF : ∀ k, F k < 14) (hG : ∀ k, G k < 14) (hnd : nd ≤ 14) (har : ar ≤ 40) (hM : ∀ e, e < ar → F e < nd ∧ G e < nd) (N0 W0 : Nat → Int32) : Met l ⟨"CutPointsModel", "count", "(I)I"⟩ (Cond.code ⟨"CutPointsModel", "count", "(I)I"⟩ prog_9_method_27_code 4 (some .int) :: TT) (rmk 3 75) (PM dC dI cI cJ cZ [.ref o, .int (nI 7)] [(o, .inr (7, [.int th, .int (nI nd), .int (nI ar), .ref fF, .ref fG, .ref fT, .ref fN, .ref fW, .int be, .ref fO, .ref fB, .int bz, .ref fS, .ref fD, .int sz])), (fF, .inl (cI, 41, .inl (nF F))), (fG, .inl (cI, 41, .inl (nF G))), (fT, .inl (cZ, 41, .inl (bF P))), (fN, .inl (cI, 14, .inl N0)), (fW, .inl (cI, 14, .inl W0))]) (va_Qi (S := (Nat → Int32) × (Nat → Int32)) (fun r u9 => ∃ v, r = nI v ∧ ∃ W, twI ar 0 nd P F G W (ar + 0) ∧ v = ndM ar 0 nd P F G W) (fun u9 t9 => va_P (dC, dI) cls ([(o, .inr (7, [.int (nI 0), .int (nI nd), .int (nI ar), .ref fF, .ref fG, .ref fT, .ref fN, .ref fW, .int be, .ref fO, .ref fB, .int bz, .ref fS, .ref fD, .int sz])), (fF, .inl (cI, 41, .inl (nF F))), (fG, .inl (cI, 41, .inl (nF G))), (fT, .inl (cZ, 41, .inl (bF P))), (fN, .inl (cI, 14, .inl u9.1)), (fW, .inl (cI, 14, .inl u9.2))]) t9.heap) (ow [(o, .inr (7, [.int th, .int (nI nd), .int (nI ar), .ref fF, .ref fG, .ref fT, .ref fN, .ref fW, .int be, .ref fO, .ref fB, .int bz, .ref fS, .ref fD, .int sz])), (fF, .inl (cI, 41, .inl (nF F))), (fG, .inl (cI, 41, .inl (nF G))), (fT, .inl (cZ, 41, .inl (bF P))), (fN, .inl (cI, 14, .inl N0)), (fW, .inl (cI, 14, .inl W0))])) 0 0 (ow [(o, .inr (7, [.int th, .int (nI nd), .int (nI ar), .ref fF, .ref fG, .ref fT, .ref fN, .ref fW, .int be, .ref fO, .ref fB, .int bz, .ref fS, .ref fD, .int sz])), (fF, .inl (cI, 41, .inl (nF F))), (fG, .inl (cI, 41, .inl (nF G))), (fT, .inl (cZ, 41, .inl (bF P))), (fN, .inl (cI, 14, .inl N0)), (fW, .inl (cI, 14, .inl W0))]) := by
  refine Met.ofW (cc := prog_9_method_27_code) (maxL := 4) (ret := (some .int)) (by decide) rfl ?_
  intro p e s m args below meth c s₁ BB9 hml hv
  obtain ⟨rfl, hP, hK, hD0⟩ := hv
  have hx := BB9.exec
  have hb := BB9.bytes
  have hr := BB9.returns
  have hts : ∀ w ∈ TT, w.before _ s = true := fun w h => atoms_spec (ws := (Cond.code ⟨"CutPointsModel", "count", "(I)I"⟩ prog_9_method_27_code 4 (some .int) :: TT)) BB9.pre w (List.mem_cons_of_mem _ h)
  have hown : s.vm.findClass "CutPointsModel" = some m.cls := findClass_of_methodNamed BB9.named
  have hlocks := BB9.notSynchronized
  have hD := hD0.mine
  have hS : va_S (ow [(o, .inr (7, [.int th, .int (nI nd), .int (nI ar), .ref fF, .ref fG, .ref fT, .ref fN, .ref fW, .int be, .ref fO, .ref fB, .int bz, .ref fS, .ref fD, .int sz])), (fF, .inl (cI, 41, .inl (nF F))), (fG, .inl (cI, 41, .inl (nF G))), (fT, .inl (cZ, 41, .inl (bF P))), (fN, .inl (cI, 14, .inl N0)), (fW, .inl (cI, 14, .inl W0))]) s.heap s.heap [] := va_S.rf
  have hl := lv_entry ([.ref o, .int (nI 7)]) (n := 4) (Nat.le_of_ble_eq_true rfl)
  rw [lg_entry_eq]
  generalize (lg_sl ([.ref o, .int (nI 7)]) ++ List.replicate (4 - (lg_sl ([.ref o, .int (nI 7)])).length) Slot.unset).toArray = ls at hl ⊢
  have hl : lv_has ls 4 [(0, .ref o), (1, .int (nI 7))] := hl
  refine lv_aload_n hx hb d_MO_count_0 rfl (lv_at hl 0 rfl) ?_
  refine lv_iconst (v := (nI 0)) hx hb d_MO_count_1 (by decide) ?_
  refine va_put (D := (dC, dI)) (ci := 7) (v := .int (nI 0)) (ty := .int) (C := R_MO) (T := F_MO) (N := 15) hx hb hts in_MO t_MO t_MO_ok n_MO hown hK.1 hP hD hS 0 rfl rfl 0 (by decide) (hts _ wfl_MO_38) (fun _ h9 => h9) rfl (by decide +kernel) rfl rfl (Nat.le_of_ble_eq_true rfl) d_MO_count_2 (fun H locs hP hD hS => ?_)
  have hP : va_P (dC, dI) cls [(o, .inr (7, [.int (nI 0), .int (nI nd), .int (nI ar), .ref fF, .ref fG, .ref fT, .ref fN, .ref fW, .int be, .ref fO, .ref fB, .int bz, .ref fS, .ref fD, .int sz])), (fF, .inl (cI, 41, .inl (nF F))), (fG, .inl (cI, 41, .inl (nF G))), (fT, .inl (cZ, 41, .inl (bF P))), (fN, .inl (cI, 14, .inl N0)), (fW, .inl (cI, 14, .inl W0))] H := hP
  have hD : va_D (ow [(o, .inr (7, [.int th, .int (nI nd), .int (nI ar), .ref fF, .ref fG, .ref fT, .ref fN, .ref fW, .int be, .ref fO, .ref fB, .int bz, .ref fS, .ref fD, .int sz])), (fF, .inl (cI, 41, .inl (nF F))), (fG, .inl (cI, 41, .inl (nF G))), (fT, .inl (cZ, 41, .inl (bF P))), (fN, .inl (cI, 14, .inl N0)), (fW, .inl (cI, 14, .inl W0))]) [(o, .inr (7, [.int (nI 0), .int (nI nd), .int (nI ar), .ref fF, .ref fG, .ref fT, .ref fN, .ref fW, .int be, .ref fO, .ref fB, .int bz, .ref fS, .ref fD, .int sz])), (fF, .inl (cI, 41, .inl (nF F))), (fG, .inl (cI, 41, .inl (nF G))), (fT, .inl (cZ, 41, .inl (bF P))), (fN, .inl (cI, 14, .inl N0)), (fW, .inl (cI, 14, .inl W0))] := hD
  refine lv_iconst (v := (nI 0)) hx hb d_MO_count_5 (by decide) ?_
  refine lv_istore_n (lv' := [(2, .int (nI 0)), (0, .ref o), (1, .int (nI 7))]) hx hb d_MO_count_6 rfl hl (by decide) rfl (fun ls hl => ?_)
  refine lv_iload_n hx hb d_MO_count_7 rfl (lv_at hl 2 rfl) ?_
  refine lv_tableIn (off := 232) (tgt := 240) hx hb d_MO_count_8 (by decide) (by decide) (by decide) (by decide) ?_
  refine lv_aload_n hx hb d_MO_count_240 rfl (lv_at hl 1 rfl) ?_
  refine lv_iconst (v := (nI 0)) hx hb d_MO_count_241 (by decide) ?_
  refine x_ci (k_V (n := 1) (C := R_MO) (rest := []) ⟨hx, hb, hml, hown, hts⟩ (c_MO_neededWith l dC dI cI cJ cZ o fF fG fT fN fW fO fB fS fD (nI 0) be bz sz nd ar F G P hF hG (by first | assumption | omega) (by first | assumption | omega) 0 (by first | assumption | omega) hM N0 W0) wml_MO_107 wim_MO_neededWith wsel_MO_neededWith wini_MO wcode_MO_neededWith (by decide +kernel) ⟨Nat.le_of_ble_eq_true rfl, Nat.le_of_ble_eq_true rfl⟩ (preV_M (q := (R_MO, F_MO, 15)) (ci := 7) (q0 := 0) (hP.sub (ws' := [(o, .inr (7, [.int (nI 0), .int (nI nd), .int (nI ar), .ref fF, .ref fG, .ref fT, .ref fN, .ref fW, .int be, .ref fO, .ref fB, .int bz, .ref fS, .ref fD, .int sz])), (fF, .inl (cI, 41, .inl (nF F))), (fG, .inl (cI, 41, .inl (nF G))), (fT, .inl (cZ, 41, .inl (bF P))), (fN, .inl (cI, 14, .inl N0)), (fW, .inl (cI, 14, .inl W0))]) [0, 1, 2, 3, 4, 5] rfl) hK (hD.sub (ws' := [(o, .inr (7, [.int (nI 0), .int (nI nd), .int (nI ar), .ref fF, .ref fG, .ref fT, .ref fN, .ref fW, .int be, .ref fO, .ref fB, .int bz, .ref fS, .ref fD, .int sz])), (fF, .inl (cI, 41, .inl (nF F))), (fG, .inl (cI, 41, .inl (nF G))), (fT, .inl (cZ, 41, .inl (bF P))), (fN, .inl (cI, 14, .inl N0)), (fW, .inl (cI, 14, .inl W0))]) [0, 1, 2, 3, 4, 5] (by decide) rfl) rfl rfl) rfl hl.1 rfl (Nat.le_of_ble_eq_true rfl) d_MO_count_242 ⟨Nat.zero_le _, Nat.zero_le _⟩) hP hD hS [0, 1, 2, 3, 4, 5] rfl (fun _ => rfl) (fun r_1 u_1 H locs hu_1 hP hS => ?_)
  obtain ⟨N9_1, W9_1⟩ := u_1
  have hP : va_P (dC, dI) cls [(o, .inr (7, [.int (nI 0), .int (nI nd), .int (nI ar), .ref fF, .ref fG, .ref fT, .ref fN, .ref fW, .int be, .ref fO, .ref fB, .int bz, .ref fS, .ref fD, .int sz])), (fF, .inl (cI, 41, .inl (nF F))), (fG, .inl (cI, 41, .inl (nF G))), (fT, .inl (cZ, 41, .inl (bF P))), (fN, .inl (cI, 14, .inl N9_1)), (fW, .inl (cI, 14, .inl W9_1))] H := hP
  have hD := hD.addr (ws' := [(o, .inr (7, [.int (nI 0), .int (nI nd), .int (nI ar), .ref fF, .ref fG, .ref fT, .ref fN, .ref fW, .int be, .ref fO, .ref fB, .int bz, .ref fS, .ref fD, .int sz])), (fF, .inl (cI, 41, .inl (nF F))), (fG, .inl (cI, 41, .inl (nF G))), (fT, .inl (cZ, 41, .inl (bF P))), (fN, .inl (cI, 14, .inl N9_1)), (fW, .inl (cI, 14, .inl W9_1))]) rfl
  obtain ⟨kx_2, ek_2, hk_2⟩ := hu_1
  refine xe_i (y := (nI kx_2)) ek_2 ?_
  exact W.iret (v := (nI kx_2)) hx hb hr (fun t9 ht9 _ => ⟨⟨_, (N9_1, W9_1), rfl, ⟨_, rfl, hk_2⟩, by show va_P (dC, dI) cls _ t9.heap; rw [ht9]; exact hP⟩, hS.F ht9⟩) hS.2.2 d_MO_count_245

set_option maxHeartbeats 4000000 in
set_option maxRecDepth 100000 in
theorem c_MO_count_8 (l : Launch) (dC : Nat → ClassId) (dI : Nat → Nat → Nat) (cI cJ cZ : ClassId) (o fF fG fT fN fW fO fB fS fD : Nat) (th be bz sz : Int32) (nd ar : Nat) (F G : Nat → Nat) (P : Nat → Bool) (hF : ∀ k, F k < 14) (hG : ∀ k, G k < 14) (hnd : nd ≤ 14) (har : ar ≤ 40) (hM : ∀ e, e < ar → F e < nd ∧ G e < nd) (hL : ∀ e, e < ar → F e ≠ G e) (N0 : Nat → Int32) : Met l ⟨"CutPointsModel", "count", "(I)I"⟩ (Cond.code ⟨"CutPointsModel", "count", "(I)I"⟩ prog_9_method_27_code 4 (some .int) :: TT) (rmk 3 73) (PM dC dI cI cJ cZ [.ref o, .int (nI 8)] [(o, .inr (7, [.int th, .int (nI nd), .int (nI ar), .ref fF, .ref fG, .ref fT, .ref fN, .ref fW, .int be, .ref fO, .ref fB, .int bz, .ref fS, .ref fD, .int sz])), (fF, .inl (cI, 41, .inl (nF F))), (fG, .inl (cI, 41, .inl (nF G))), (fT, .inl (cZ, 41, .inl (bF P))), (fN, .inl (cI, 14, .inl N0))]) (va_Qi (S := Nat → Int32) (fun r u9 => ∃ v, r = nI v ∧ ∃ y, (∃ N, NR (lkT ar 0 P (-1) (-1) (nI 0) F G) F G N ∧ WR (wS (sb nd - nI 1) N) y) ∧ v = cn (bt y) 16) (fun u9 t9 => va_P (dC, dI) cls ([(o, .inr (7, [.int (nI 0), .int (nI nd), .int (nI ar), .ref fF, .ref fG, .ref fT, .ref fN, .ref fW, .int be, .ref fO, .ref fB, .int bz, .ref fS, .ref fD, .int sz])), (fF, .inl (cI, 41, .inl (nF F))), (fG, .inl (cI, 41, .inl (nF G))), (fT, .inl (cZ, 41, .inl (bF P))), (fN, .inl (cI, 14, .inl u9))]) t9.heap) (ow [(o, .inr (7, [.int th, .int (nI nd), .int (nI ar), .ref fF, .ref fG, .ref fT, .ref fN, .ref fW, .int be, .ref fO, .ref fB, .int bz, .ref fS, .ref fD, .int sz])), (fF, .inl (cI, 41, .inl (nF F))), (fG, .inl (cI, 41, .inl (nF G))), (fT, .inl (cZ, 41, .inl (bF P))), (fN, .inl (cI, 14, .inl N0))])) 0 0 (ow [(o, .inr (7, [.int th, .int (nI nd), .int (nI ar), .ref fF, .ref fG, .ref fT, .ref fN, .ref fW, .int be, .ref fO, .ref fB, .int bz, .ref fS, .ref fD, .int sz])), (fF, .inl (cI, 41, .inl (nF F))), (fG, .inl (cI, 41, .inl (nF G))), (fT, .inl (cZ, 41, .inl (bF P))), (fN, .inl (cI, 14, .inl N0))]) := by
  refine Met.ofW (cc := prog_9_method_27_code) (maxL := 4) (ret := (some .int)) (by decide) rfl ?_
  intro p e s m args below meth c s₁ BB9 hml hv
  obtain ⟨rfl, hP, hK, hD0⟩ := hv
  have hx := BB9.exec
  have hb := BB9.bytes
  have hr := BB9.returns
  have hts : ∀ w ∈ TT, w.before _ s = true := fun w h => atoms_spec (ws := (Cond.code ⟨"CutPointsModel", "count", "(I)I"⟩ prog_9_method_27_code 4 (some .int) :: TT)) BB9.pre w (List.mem_cons_of_mem _ h)
  have hown : s.vm.findClass "CutPointsModel" = some m.cls := findClass_of_methodNamed BB9.named
  have hlocks := BB9.notSynchronized
  have hD := hD0.mine
  have hS : va_S (ow [(o, .inr (7, [.int th, .int (nI nd), .int (nI ar), .ref fF, .ref fG, .ref fT, .ref fN, .ref fW, .int be, .ref fO, .ref fB, .int bz, .ref fS, .ref fD, .int sz])), (fF, .inl (cI, 41, .inl (nF F))), (fG, .inl (cI, 41, .inl (nF G))), (fT, .inl (cZ, 41, .inl (bF P))), (fN, .inl (cI, 14, .inl N0))]) s.heap s.heap [] := va_S.rf
  have hl := lv_entry ([.ref o, .int (nI 8)]) (n := 4) (Nat.le_of_ble_eq_true rfl)
  rw [lg_entry_eq]
  generalize (lg_sl ([.ref o, .int (nI 8)]) ++ List.replicate (4 - (lg_sl ([.ref o, .int (nI 8)])).length) Slot.unset).toArray = ls at hl ⊢
  have hl : lv_has ls 4 [(0, .ref o), (1, .int (nI 8))] := hl
  refine lv_aload_n hx hb d_MO_count_0 rfl (lv_at hl 0 rfl) ?_
  refine lv_iconst (v := (nI 0)) hx hb d_MO_count_1 (by decide) ?_
  refine va_put (D := (dC, dI)) (ci := 7) (v := .int (nI 0)) (ty := .int) (C := R_MO) (T := F_MO) (N := 15) hx hb hts in_MO t_MO t_MO_ok n_MO hown hK.1 hP hD hS 0 rfl rfl 0 (by decide) (hts _ wfl_MO_38) (fun _ h9 => h9) rfl (by decide +kernel) rfl rfl (Nat.le_of_ble_eq_true rfl) d_MO_count_2 (fun H locs hP hD hS => ?_)
  have hP : va_P (dC, dI) cls [(o, .inr (7, [.int (nI 0), .int (nI nd), .int (nI ar), .ref fF, .ref fG, .ref fT, .ref fN, .ref fW, .int be, .ref fO, .ref fB, .int bz, .ref fS, .ref fD, .int sz])), (fF, .inl (cI, 41, .inl (nF F))), (fG, .inl (cI, 41, .inl (nF G))), (fT, .inl (cZ, 41, .inl (bF P))), (fN, .inl (cI, 14, .inl N0))] H := hP
  have hD : va_D (ow [(o, .inr (7, [.int th, .int (nI nd), .int (nI ar), .ref fF, .ref fG, .ref fT, .ref fN, .ref fW, .int be, .ref fO, .ref fB, .int bz, .ref fS, .ref fD, .int sz])), (fF, .inl (cI, 41, .inl (nF F))), (fG, .inl (cI, 41, .inl (nF G))), (fT, .inl (cZ, 41, .inl (bF P))), (fN, .inl (cI, 14, .inl N0))]) [(o, .inr (7, [.int (nI 0), .int (nI nd), .int (nI ar), .ref fF, .ref fG, .ref fT, .ref fN, .ref fW, .int be, .ref fO, .ref fB, .int bz, .ref fS, .ref fD, .int sz])), (fF, .inl (cI, 41, .inl (nF F))), (fG, .inl (cI, 41, .inl (nF G))), (fT, .inl (cZ, 41, .inl (bF P))), (fN, .inl (cI, 14, .inl N0))] := hD
  refine lv_iconst (v := (nI 0)) hx hb d_MO_count_5 (by decide) ?_
  refine lv_istore_n (lv' := [(2, .int (nI 0)), (0, .ref o), (1, .int (nI 8))]) hx hb d_MO_count_6 rfl hl (by decide) rfl (fun ls hl => ?_)
  refine lv_iload_n hx hb d_MO_count_7 rfl (lv_at hl 2 rfl) ?_
  refine lv_tableIn (off := 238) (tgt := 246) hx hb d_MO_count_8 (by decide) (by decide) (by decide) (by decide) ?_
  refine lv_aload_n hx hb d_MO_count_246 rfl (lv_at hl 1 rfl) ?_
  refine x_ci (k_V (n := 0) (C := R_MO) (rest := []) ⟨hx, hb, hml, hown, hts⟩ (c_MO_wornSet l dC dI cI cJ cZ o fF fG fT fN fW fO fB fS fD (nI 0) be bz sz nd ar F G P hF hG (by first | assumption | omega) (by first | assumption | omega) hM hL N0) wml_MO_110 wim_MO_wornSet wsel_MO_wornSet wini_MO wcode_MO_wornSet (by decide +kernel) ⟨Nat.le_of_ble_eq_true rfl, Nat.le_of_ble_eq_true rfl⟩ (preV_M (q := (R_MO, F_MO, 15)) (ci := 7) (q0 := 0) (hP.sub (ws' := [(o, .inr (7, [.int (nI 0), .int (nI nd), .int (nI ar), .ref fF, .ref fG, .ref fT, .ref fN, .ref fW, .int be, .ref fO, .ref fB, .int bz, .ref fS, .ref fD, .int sz])), (fF, .inl (cI, 41, .inl (nF F))), (fG, .inl (cI, 41, .inl (nF G))), (fT, .inl (cZ, 41, .inl (bF P))), (fN, .inl (cI, 14, .inl N0))]) [0, 1, 2, 3, 4] rfl) hK (hD.sub (ws' := [(o, .inr (7, [.int (nI 0), .int (nI nd), .int (nI ar), .ref fF, .ref fG, .ref fT, .ref fN, .ref fW, .int be, .ref fO, .ref fB, .int bz, .ref fS, .ref fD, .int sz])), (fF, .inl (cI, 41, .inl (nF F))), (fG, .inl (cI, 41, .inl (nF G))), (fT, .inl (cZ, 41, .inl (bF P))), (fN, .inl (cI, 14, .inl N0))]) [0, 1, 2, 3, 4] (by decide) rfl) rfl rfl) rfl hl.1 rfl (Nat.le_of_ble_eq_true rfl) d_MO_count_247 ⟨Nat.zero_le _, Nat.zero_le _⟩) hP hD hS [0, 1, 2, 3, 4] rfl (fun _ => rfl) (fun r_1 u_1 H locs hu_1 hP hS => ?_)
  obtain ⟨N9_1, rfl⟩ : ∃ z, z = u_1 := ⟨_, rfl⟩
  have hP : va_P (dC, dI) cls [(o, .inr (7, [.int (nI 0), .int (nI nd), .int (nI ar), .ref fF, .ref fG, .ref fT, .ref fN, .ref fW, .int be, .ref fO, .ref fB, .int bz, .ref fS, .ref fD, .int sz])), (fF, .inl (cI, 41, .inl (nF F))), (fG, .inl (cI, 41, .inl (nF G))), (fT, .inl (cZ, 41, .inl (bF P))), (fN, .inl (cI, 14, .inl N9_1))] H := hP
  have hD := hD.addr (ws' := [(o, .inr (7, [.int (nI 0), .int (nI nd), .int (nI ar), .ref fF, .ref fG, .ref fT, .ref fN, .ref fW, .int be, .ref fO, .ref fB, .int bz, .ref fS, .ref fD, .int sz])), (fF, .inl (cI, 41, .inl (nF F))), (fG, .inl (cI, 41, .inl (nF G))), (fT, .inl (cZ, 41, .inl (bF P))), (fN, .inl (cI, 14, .inl N9_1))]) rfl
  refine vp_callSi (va_Run.run (k_S (n := 1) (rest := []) ⟨hx, hb, hml, hown, hts⟩ (c_MO_many l dC dI cI cJ cZ r_1) wml_MO_92 wst_MO_many wini_MO wcode_MO_many (by decide +kernel) ⟨Nat.le_of_ble_eq_true rfl, Nat.le_of_ble_eq_true rfl⟩ (pre_R (hP.sub (ws' := []) [] rfl) hK) rfl hl.1 rfl (Nat.le_of_ble_eq_true rfl) d_MO_count_250 ⟨Nat.zero_le _, Nat.zero_le _⟩)) (fun r_2 hr_3 => ?_)
  refine xe_i (y := (nI (cn (bt r_1) 16))) hr_3 ?_
  exact W.iret (v := (nI (cn (bt r_1) 16))) hx hb hr (fun t9 ht9 _ => ⟨⟨_, (N9_1), rfl, ⟨_, rfl, _, hu_1, rfl⟩, by show va_P (dC, dI) cls _ t9.heap; rw [ht9]; exact hP⟩, hS.F ht9⟩) hS.2.2 d_MO_count_253

set_option maxHeartbeats 4000000 in
set_option maxRecDepth 100000 in
theorem c_MO_count_x (l : Launch) (dC : Nat → ClassId) (dI : Nat → Nat → Nat) (cI cJ cZ : ClassId) (o fF fG fT fN fW fO fB fS fD : Nat) (th be bz sz : Int32) (nd ar : Nat) (x : Int32) (hout : x.toInt < 0 ∨ 8 < x.toInt) : Met l ⟨"CutPointsModel", "count", "(I)I"⟩ (Cond.code ⟨"CutPointsModel", "count", "(I)I"⟩ prog_9_method_27_code 4 (some .int) :: TT) (rmk 0 0) (PM dC dI cI cJ cZ [.ref o, .int x] [(o, .inr (7, [.int th, .int (nI nd), .int (nI ar), .ref fF, .ref fG, .ref fT, .ref fN, .ref fW, .int be, .ref fO, .ref fB, .int bz, .ref fS, .ref fD, .int sz]))]) (va_Qi (S := Unit) (fun r u9 => r = -2) (fun u9 t9 => va_P (dC, dI) cls ([(o, .inr (7, [.int (nI 0), .int (nI nd), .int (nI ar), .ref fF, .ref fG, .ref fT, .ref fN, .ref fW, .int be, .ref fO, .ref fB, .int bz, .ref fS, .ref fD, .int sz]))]) t9.heap) (ow [(o, .inr (7, [.int th, .int (nI nd), .int (nI ar), .ref fF, .ref fG, .ref fT, .ref fN, .ref fW, .int be, .ref fO, .ref fB, .int bz, .ref fS, .ref fD, .int sz]))])) 0 0 (ow [(o, .inr (7, [.int th, .int (nI nd), .int (nI ar), .ref fF, .ref fG, .ref fT, .ref fN, .ref fW, .int be, .ref fO, .ref fB, .int bz, .ref fS, .ref fD, .int sz]))]) := by
  refine Met.ofW (cc := prog_9_method_27_code) (maxL := 4) (ret := (some .int)) (by decide) rfl ?_
  intro p e s m args below meth c s₁ BB9 hml hv
  obtain ⟨rfl, hP, hK, hD0⟩ := hv
  have hx := BB9.exec
  have hb := BB9.bytes
  have hr := BB9.returns
  have hts : ∀ w ∈ TT, w.before _ s = true := fun w h => atoms_spec (ws := (Cond.code ⟨"CutPointsModel", "count", "(I)I"⟩ prog_9_method_27_code 4 (some .int) :: TT)) BB9.pre w (List.mem_cons_of_mem _ h)
  have hown : s.vm.findClass "CutPointsModel" = some m.cls := findClass_of_methodNamed BB9.named
  have hlocks := BB9.notSynchronized
  have hD := hD0.mine
  have hS : va_S (ow [(o, .inr (7, [.int th, .int (nI nd), .int (nI ar), .ref fF, .ref fG, .ref fT, .ref fN, .ref fW, .int be, .ref fO, .ref fB, .int bz, .ref fS, .ref fD, .int sz]))]) s.heap s.heap [] := va_S.rf
  have hl := lv_entry ([.ref o, .int x]) (n := 4) (Nat.le_of_ble_eq_true rfl)
  rw [lg_entry_eq]
  generalize (lg_sl ([.ref o, .int x]) ++ List.replicate (4 - (lg_sl ([.ref o, .int x])).length) Slot.unset).toArray = ls at hl ⊢
  have hl : lv_has ls 4 [(0, .ref o), (1, .int x)] := hl
  refine lv_aload_n hx hb d_MO_count_0 rfl (lv_at hl 0 rfl) ?_
  refine lv_iconst (v := (nI 0)) hx hb d_MO_count_1 (by decide) ?_
  refine va_put (D := (dC, dI)) (ci := 7) (v := .int (nI 0)) (ty := .int) (C := R_MO) (T := F_MO) (N := 15) hx hb hts in_MO t_MO t_MO_ok n_MO hown hK.1 hP hD hS 0 rfl rfl 0 (by decide) (hts _ wfl_MO_38) (fun _ h9 => h9) rfl (by decide +kernel) rfl rfl (Nat.le_of_ble_eq_true rfl) d_MO_count_2 (fun H locs hP hD hS => ?_)
  have hP : va_P (dC, dI) cls [(o, .inr (7, [.int (nI 0), .int (nI nd), .int (nI ar), .ref fF, .ref fG, .ref fT, .ref fN, .ref fW, .int be, .ref fO, .ref fB, .int bz, .ref fS, .ref fD, .int sz]))] H := hP
  have hD : va_D (ow [(o, .inr (7, [.int th, .int (nI nd), .int (nI ar), .ref fF, .ref fG, .ref fT, .ref fN, .ref fW, .int be, .ref fO, .ref fB, .int bz, .ref fS, .ref fD, .int sz]))]) [(o, .inr (7, [.int (nI 0), .int (nI nd), .int (nI ar), .ref fF, .ref fG, .ref fT, .ref fN, .ref fW, .int be, .ref fO, .ref fB, .int bz, .ref fS, .ref fD, .int sz]))] := hD
  refine lv_iconst (v := (nI 0)) hx hb d_MO_count_5 (by decide) ?_
  refine lv_istore_n (lv' := [(2, .int (nI 0)), (0, .ref o), (1, .int x)]) hx hb d_MO_count_6 rfl hl (by decide) rfl (fun ls hl => ?_)
  refine lv_iload_n hx hb d_MO_count_7 rfl (lv_at hl 2 rfl) ?_
  refine lv_tableOut (tgt := 254) hx hb d_MO_count_8 hout (by decide) ?_
  refine lv_bipush (v := (-2)) hx hb d_MO_count_254 (by decide) ?_
  exact W.iret (v := (-2)) hx hb hr (fun t9 ht9 _ => ⟨⟨_, (), rfl, rfl, by show va_P (dC, dI) cls _ t9.heap; rw [ht9]; exact hP⟩, hS.F ht9⟩) hS.2.2 d_MO_count_256
