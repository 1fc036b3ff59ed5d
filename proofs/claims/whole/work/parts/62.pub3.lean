set_option maxHeartbeats 4000000 in
set_option maxRecDepth 100000 in
theorem c_MO_nodes_a (l : Launch) (dC : Nat → ClassId) (dI : Nat → Nat → Nat) (cI cJ cZ : ClassId) (o fF fG fT fN fW fO fB fS fD : Nat) (th be bz sz : Int32) (nd ar : Nat) (F G : Nat → Nat) (P : Nat → Bool) (hF : ∀ k, F k < 14) (hG : ∀ k, G k < 14) (hnd : nd ≤ 14) (har : ar ≤ 40) (hM : ∀ e, e < ar → F e < nd ∧ G e < nd) (N0 : Nat → Int32) (a b : Nat) (ha : a < nd) (hb_ : b < nd) (hab : a ≠ b) (hadj : ad (lkT ar 0 P (-1) (-1) (nI 0) F G) F G a b) : Met l ⟨"CutPointsModel", "nodes", "(II)I"⟩ (Cond.code ⟨"CutPointsModel", "nodes", "(II)I"⟩ prog_9_method_37_code 6 (some .int) :: TT) (rmk 2 47) (PM dC dI cI cJ cZ [.ref o, .int (nI a), .int (nI b)] [(o, .inr (7, [.int th, .int (nI nd), .int (nI ar), .ref fF, .ref fG, .ref fT, .ref fN, .ref fW, .int be, .ref fO, .ref fB, .int bz, .ref fS, .ref fD, .int sz])), (fF, .inl (cI, 41, .inl (nF F))), (fG, .inl (cI, 41, .inl (nF G))), (fT, .inl (cZ, 41, .inl (bF P))), (fN, .inl (cI, 14, .inl N0))]) (va_Qi (S := Nat → Int32) (fun r u9 => r = -3) (fun u9 t9 => va_P (dC, dI) cls ([(o, .inr (7, [.int (nI 0), .int (nI nd), .int (nI ar), .ref fF, .ref fG, .ref fT, .ref fN, .ref fW, .int be, .ref fO, .ref fB, .int bz, .ref fS, .ref fD, .int sz])), (fF, .inl (cI, 41, .inl (nF F))), (fG, .inl (cI, 41, .inl (nF G))), (fT, .inl (cZ, 41, .inl (bF P))), (fN, .inl (cI, 14, .inl u9))]) t9.heap) (ow [(o, .inr (7, [.int th, .int (nI nd), .int (nI ar), .ref fF, .ref fG, .ref fT, .ref fN, .ref fW, .int be, .ref fO, .ref fB, .int bz, .ref fS, .ref fD, .int sz])), (fF, .inl (cI, 41, .inl (nF F))), (fG, .inl (cI, 41, .inl (nF G))), (fT, .inl (cZ, 41, .inl (bF P))), (fN, .inl (cI, 14, .inl N0))])) 0 0 (ow [(o, .inr (7, [.int th, .int (nI nd), .int (nI ar), .ref fF, .ref fG, .ref fT, .ref fN, .ref fW, .int be, .ref fO, .ref fB, .int bz, .ref fS, .ref fD, .int sz])), (fF, .inl (cI, 41, .inl (nF F))), (fG, .inl (cI, 41, .inl (nF G))), (fT, .inl (cZ, 41, .inl (bF P))), (fN, .inl (cI, 14, .inl N0))]) := by
  refine Met.ofW (cc := prog_9_method_37_code) (maxL := 6) (ret := (some .int)) (by decide) rfl ?_
  intro p e s m args below meth c s₁ BB9 hml hv
  obtain ⟨rfl, hP, hK, hD0⟩ := hv
  have hx := BB9.exec
  have hb := BB9.bytes
  have hr := BB9.returns
  have hts : ∀ w ∈ TT, w.before _ s = true := fun w h => atoms_spec (ws := (Cond.code ⟨"CutPointsModel", "nodes", "(II)I"⟩ prog_9_method_37_code 6 (some .int) :: TT)) BB9.pre w (List.mem_cons_of_mem _ h)
  have hown : s.vm.findClass "CutPointsModel" = some m.cls := findClass_of_methodNamed BB9.named
  have hlocks := BB9.notSynchronized
  have hD := hD0.mine
  have hS : va_S (ow [(o, .inr (7, [.int th, .int (nI nd), .int (nI ar), .ref fF, .ref fG, .ref fT, .ref fN, .ref fW, .int be, .ref fO, .ref fB, .int bz, .ref fS, .ref fD, .int sz])), (fF, .inl (cI, 41, .inl (nF F))), (fG, .inl (cI, 41, .inl (nF G))), (fT, .inl (cZ, 41, .inl (bF P))), (fN, .inl (cI, 14, .inl N0))]) s.heap s.heap [] := va_S.rf
  have hl := lv_entry ([.ref o, .int (nI a), .int (nI b)]) (n := 6) (Nat.le_of_ble_eq_true rfl)
  rw [lg_entry_eq]
  generalize (lg_sl ([.ref o, .int (nI a), .int (nI b)]) ++ List.replicate (6 - (lg_sl ([.ref o, .int (nI a), .int (nI b)])).length) Slot.unset).toArray = ls at hl ⊢
  have hl : lv_has ls 6 [(0, .ref o), (1, .int (nI a)), (2, .int (nI b))] := hl
  refine lv_aload_n hx hb d_MO_nodes_0 rfl (lv_at hl 0 rfl) ?_
  refine lv_iconst (v := (nI 0)) hx hb d_MO_nodes_1 (by decide) ?_
  refine va_put (D := (dC, dI)) (ci := 7) (v := .int (nI 0)) (ty := .int) (C := R_MO) (T := F_MO) (N := 15) hx hb hts in_MO t_MO t_MO_ok n_MO hown hK.1 hP hD hS 0 rfl rfl 0 (by decide) (hts _ wfl_MO_38) (fun _ h9 => h9) rfl (by decide +kernel) rfl rfl (Nat.le_of_ble_eq_true rfl) d_MO_nodes_2 (fun H locs hP hD hS => ?_)
  have hP : va_P (dC, dI) cls [(o, .inr (7, [.int (nI 0), .int (nI nd), .int (nI ar), .ref fF, .ref fG, .ref fT, .ref fN, .ref fW, .int be, .ref fO, .ref fB, .int bz, .ref fS, .ref fD, .int sz])), (fF, .inl (cI, 41, .inl (nF F))), (fG, .inl (cI, 41, .inl (nF G))), (fT, .inl (cZ, 41, .inl (bF P))), (fN, .inl (cI, 14, .inl N0))] H := hP
  have hD : va_D (ow [(o, .inr (7, [.int th, .int (nI nd), .int (nI ar), .ref fF, .ref fG, .ref fT, .ref fN, .ref fW, .int be, .ref fO, .ref fB, .int bz, .ref fS, .ref fD, .int sz])), (fF, .inl (cI, 41, .inl (nF F))), (fG, .inl (cI, 41, .inl (nF G))), (fT, .inl (cZ, 41, .inl (bF P))), (fN, .inl (cI, 14, .inl N0))]) [(o, .inr (7, [.int (nI 0), .int (nI nd), .int (nI ar), .ref fF, .ref fG, .ref fT, .ref fN, .ref fW, .int be, .ref fO, .ref fB, .int bz, .ref fS, .ref fD, .int sz])), (fF, .inl (cI, 41, .inl (nF F))), (fG, .inl (cI, 41, .inl (nF G))), (fT, .inl (cZ, 41, .inl (bF P))), (fN, .inl (cI, 14, .inl N0))] := hD
  refine lv_aload_n hx hb d_MO_nodes_5 rfl (lv_at hl 0 rfl) ?_
  refine lv_iload_n hx hb d_MO_nodes_6 rfl (lv_at hl 1 rfl) ?_
  refine vp_callSi (va_Run.run (k_V (n := 1) (C := R_MO) (rest := []) ⟨hx, hb, hml, hown, hts⟩ (c_MO_isNode l dC dI cI cJ cZ o fF fG fT fN fW fO fB fS fD (nI 0) be bz sz nd ar (nI a) (by first | assumption | omega)) wml_MO_52 wim_MO_isNode wsel_MO_isNode wini_MO wcode_MO_isNode (by decide +kernel) ⟨Nat.le_of_ble_eq_true rfl, Nat.le_of_ble_eq_true rfl⟩ (preV_R (q := (R_MO, F_MO, 15)) (ci := 7) (q0 := 0) (hP.sub (ws' := [(o, .inr (7, [.int (nI 0), .int (nI nd), .int (nI ar), .ref fF, .ref fG, .ref fT, .ref fN, .ref fW, .int be, .ref fO, .ref fB, .int bz, .ref fS, .ref fD, .int sz]))]) [0] rfl) hK rfl rfl) rfl hl.1 rfl (Nat.le_of_ble_eq_true rfl) d_MO_nodes_7 ⟨Nat.zero_le _, Nat.zero_le _⟩)) (fun r_1 hr_2 => ?_)
  refine xe_i (y := (bI (vd (nI a) nd))) hr_2 ?_
  refine xe_i (y := (bI true)) (by rw [vd_tt (by omega) ha]) ?_
  refine lv_if_eq (tgt := 21) hx hb d_MO_nodes_10 (by decide) (fun c9 => absurd c9 (by decide : ¬ ((bI true) : Int32) = 0)) (fun _ => ?_)
  refine lv_aload_n hx hb d_MO_nodes_13 rfl (lv_at hl 0 rfl) ?_
  refine lv_iload_n hx hb d_MO_nodes_14 rfl (lv_at hl 2 rfl) ?_
  refine vp_callSi (va_Run.run (k_V (n := 1) (C := R_MO) (rest := []) ⟨hx, hb, hml, hown, hts⟩ (c_MO_isNode l dC dI cI cJ cZ o fF fG fT fN fW fO fB fS fD (nI 0) be bz sz nd ar (nI b) (by first | assumption | omega)) wml_MO_52 wim_MO_isNode wsel_MO_isNode wini_MO wcode_MO_isNode (by decide +kernel) ⟨Nat.le_of_ble_eq_true rfl, Nat.le_of_ble_eq_true rfl⟩ (preV_R (q := (R_MO, F_MO, 15)) (ci := 7) (q0 := 0) (hP.sub (ws' := [(o, .inr (7, [.int (nI 0), .int (nI nd), .int (nI ar), .ref fF, .ref fG, .ref fT, .ref fN, .ref fW, .int be, .ref fO, .ref fB, .int bz, .ref fS, .ref fD, .int sz]))]) [0] rfl) hK rfl rfl) rfl hl.1 rfl (Nat.le_of_ble_eq_true rfl) d_MO_nodes_15 ⟨Nat.zero_le _, Nat.zero_le _⟩)) (fun r_4 hr_5 => ?_)
  refine xe_i (y := (bI (vd (nI b) nd))) hr_5 ?_
  refine xe_i (y := (bI true)) (by rw [vd_tt (by omega) hb_]) ?_
  refine lv_if_ne (tgt := 23) hx hb d_MO_nodes_18 (by decide) (fun _ => ?_) (fun c9 => absurd c9 (by decide : ¬ ((bI true) : Int32) = 0))
  refine lv_aload_n hx hb d_MO_nodes_23 rfl (lv_at hl 0 rfl) ?_
  refine x_cv (k_V (n := 0) (C := R_MO) (rest := []) ⟨hx, hb, hml, hown, hts⟩ (c_MO_lookAll l dC dI cI cJ cZ o fF fG fT fN fW fO fB fS fD (nI 0) be bz sz nd ar F G P hF hG (by first | assumption | omega) (by first | assumption | omega) hM N0) wml_MO_67 wim_MO_lookAll wsel_MO_lookAll wini_MO wcode_MO_lookAll (by decide +kernel) ⟨Nat.le_of_ble_eq_true rfl, Nat.le_of_ble_eq_true rfl⟩ (preV_M (q := (R_MO, F_MO, 15)) (ci := 7) (q0 := 0) (hP.sub (ws' := [(o, .inr (7, [.int (nI 0), .int (nI nd), .int (nI ar), .ref fF, .ref fG, .ref fT, .ref fN, .ref fW, .int be, .ref fO, .ref fB, .int bz, .ref fS, .ref fD, .int sz])), (fF, .inl (cI, 41, .inl (nF F))), (fG, .inl (cI, 41, .inl (nF G))), (fT, .inl (cZ, 41, .inl (bF P))), (fN, .inl (cI, 14, .inl N0))]) [0, 1, 2, 3, 4] rfl) hK (hD.sub (ws' := [(o, .inr (7, [.int (nI 0), .int (nI nd), .int (nI ar), .ref fF, .ref fG, .ref fT, .ref fN, .ref fW, .int be, .ref fO, .ref fB, .int bz, .ref fS, .ref fD, .int sz])), (fF, .inl (cI, 41, .inl (nF F))), (fG, .inl (cI, 41, .inl (nF G))), (fT, .inl (cZ, 41, .inl (bF P))), (fN, .inl (cI, 14, .inl N0))]) [0, 1, 2, 3, 4] (by decide) rfl) rfl rfl) rfl hl.1 rfl (Nat.le_of_ble_eq_true rfl) d_MO_nodes_24 ⟨Nat.zero_le _, Nat.zero_le _⟩) hP hD hS [0, 1, 2, 3, 4] rfl (fun _ => rfl) (fun u_7 H locs hu_7 hP hS => ?_)
  obtain ⟨N9_7, rfl⟩ : ∃ z, z = u_7 := ⟨_, rfl⟩
  have hP : va_P (dC, dI) cls [(o, .inr (7, [.int (nI 0), .int (nI nd), .int (nI ar), .ref fF, .ref fG, .ref fT, .ref fN, .ref fW, .int be, .ref fO, .ref fB, .int bz, .ref fS, .ref fD, .int sz])), (fF, .inl (cI, 41, .inl (nF F))), (fG, .inl (cI, 41, .inl (nF G))), (fT, .inl (cZ, 41, .inl (bF P))), (fN, .inl (cI, 14, .inl N9_7))] H := hP
  have hD := hD.addr (ws' := [(o, .inr (7, [.int (nI 0), .int (nI nd), .int (nI ar), .ref fF, .ref fG, .ref fT, .ref fN, .ref fW, .int be, .ref fO, .ref fB, .int bz, .ref fS, .ref fD, .int sz])), (fF, .inl (cI, 41, .inl (nF F))), (fG, .inl (cI, 41, .inl (nF G))), (fT, .inl (cZ, 41, .inl (bF P))), (fN, .inl (cI, 14, .inl N9_7))]) rfl
  refine lv_iload_n hx hb d_MO_nodes_27 rfl (lv_at hl 1 rfl) ?_
  refine lv_iload_n hx hb d_MO_nodes_28 rfl (lv_at hl 2 rfl) ?_
  refine x_cmp_eq (a := a) (b := b) (tgt := 46) hx hb (by omega) (by omega) d_MO_nodes_29 (by decide) (fun c_8 => ?_) (fun c_8 => ?_)
  · skip
    exact absurd c_8 hab
  · skip
    refine lv_aload_n hx hb d_MO_nodes_32 rfl (lv_at hl 0 rfl) ?_
    refine va_get (D := (dC, dI)) (ci := 7) (v := .ref fN) (C := R_MO) (T := F_MO) (N := 15) hx hb hts in_MO hown hK.1 hP 0 rfl rfl 6 (by decide) (hts _ wfl_MO_20) (fun _ h9 => h9) rfl d_MO_nodes_33 ?_
    refine lv_iload_n hx hb d_MO_nodes_36 rfl (lv_at hl 1 rfl) ?_
    refine x_iald (n := 14) (f := N9_7) (j := a) hx hb hK.1 hP 4 0 rfl rfl (by omega) (by omega) d_MO_nodes_37 ?_
    refine lv_iload_n hx hb d_MO_nodes_38 rfl (lv_at hl 2 rfl) ?_
    refine lv_ishr hx hb d_MO_nodes_39 ?_
    refine lv_iconst (v := (nI 1)) hx hb d_MO_nodes_40 (by decide) ?_
    refine lv_iand hx hb d_MO_nodes_41 ?_
    refine xe_i (y := (bI (bt (N9_7 a) b))) (sh1 (by omega)) ?_
    refine lv_iconst (v := (nI 1)) hx hb d_MO_nodes_42 (by decide) ?_
    refine x_cmp1_ne (tgt := 49) hx hb d_MO_nodes_43 (by decide) (fun c_9 => ?_) (fun c_9 => ?_)
    · skip
      rw [(hu_7 a b (by omega)).mpr hadj] at c_9; cases c_9
    · skip
      refine lv_bipush (v := (-3)) hx hb d_MO_nodes_46 (by decide) ?_
      exact W.iret (v := (-3)) hx hb hr (fun t9 ht9 _ => ⟨⟨_, (N9_7), rfl, rfl, by show va_P (dC, dI) cls _ t9.heap; rw [ht9]; exact hP⟩, hS.F ht9⟩) hS.2.2 d_MO_nodes_48

set_option maxHeartbeats 4000000 in
set_option maxRecDepth 100000 in
theorem c_MO_nodes_k (l : Launch) (dC : Nat → ClassId) (dI : Nat → Nat → Nat) (cI cJ cZ : ClassId) (o fF fG fT fN fW fO fB fS fD : Nat) (th be bz sz : Int32) (nd ar : Nat) (F G : Nat → Nat) (P : Nat → Bool) (hF : ∀ k, F k < 14) (hG : ∀ k, G k < 14) (hnd : nd ≤ 14) (har : ar ≤ 40) (hM : ∀ e, e < ar → F e < nd ∧ G e < nd) (N0 : Nat → Int32) (a b : Nat) (ha : a < nd) (hb_ : b < nd) (hab : a ≠ b) (hadj : ¬ ad (lkT ar 0 P (-1) (-1) (nI 0) F G) F G a b) : Met l ⟨"CutPointsModel", "nodes", "(II)I"⟩ (Cond.code ⟨"CutPointsModel", "nodes", "(II)I"⟩ prog_9_method_37_code 6 (some .int) :: TT) (rmk 2 50) (PM dC dI cI cJ cZ [.ref o, .int (nI a), .int (nI b)] [(o, .inr (7, [.int th, .int (nI nd), .int (nI ar), .ref fF, .ref fG, .ref fT, .ref fN, .ref fW, .int be, .ref fO, .ref fB, .int bz, .ref fS, .ref fD, .int sz])), (fF, .inl (cI, 41, .inl (nF F))), (fG, .inl (cI, 41, .inl (nF G))), (fT, .inl (cZ, 41, .inl (bF P))), (fN, .inl (cI, 14, .inl N0))]) (va_Qi (S := Nat → Int32) (fun r u9 => ∃ fw, r = nI fw ∧ noI (noQ ar P F G a b) fw (2 ^ nd)) (fun u9 t9 => va_P (dC, dI) cls ([(o, .inr (7, [.int (nI 0), .int (nI nd), .int (nI ar), .ref fF, .ref fG, .ref fT, .ref fN, .ref fW, .int be, .ref fO, .ref fB, .int bz, .ref fS, .ref fD, .int sz])), (fF, .inl (cI, 41, .inl (nF F))), (fG, .inl (cI, 41, .inl (nF G))), (fT, .inl (cZ, 41, .inl (bF P))), (fN, .inl (cI, 14, .inl u9))]) t9.heap) (ow [(o, .inr (7, [.int th, .int (nI nd), .int (nI ar), .ref fF, .ref fG, .ref fT, .ref fN, .ref fW, .int be, .ref fO, .ref fB, .int bz, .ref fS, .ref fD, .int sz])), (fF, .inl (cI, 41, .inl (nF F))), (fG, .inl (cI, 41, .inl (nF G))), (fT, .inl (cZ, 41, .inl (bF P))), (fN, .inl (cI, 14, .inl N0))])) 0 0 (ow [(o, .inr (7, [.int th, .int (nI nd), .int (nI ar), .ref fF, .ref fG, .ref fT, .ref fN, .ref fW, .int be, .ref fO, .ref fB, .int bz, .ref fS, .ref fD, .int sz])), (fF, .inl (cI, 41, .inl (nF F))), (fG, .inl (cI, 41, .inl (nF G))), (fT, .inl (cZ, 41, .inl (bF P))), (fN, .inl (cI, 14, .inl N0))]) := by
  refine Met.ofW (cc := prog_9_method_37_code) (maxL := 6) (ret := (some .int)) (by decide) rfl ?_
  intro p e s m args below meth c s₁ BB9 hml hv
  obtain ⟨rfl, hP, hK, hD0⟩ := hv
  have hx := BB9.exec
  have hb := BB9.bytes
  have hr := BB9.returns
  have hts : ∀ w ∈ TT, w.before _ s = true := fun w h => atoms_spec (ws := (Cond.code ⟨"CutPointsModel", "nodes", "(II)I"⟩ prog_9_method_37_code 6 (some .int) :: TT)) BB9.pre w (List.mem_cons_of_mem _ h)
  have hown : s.vm.findClass "CutPointsModel" = some m.cls := findClass_of_methodNamed BB9.named
  have hlocks := BB9.notSynchronized
  have hD := hD0.mine
  have hS : va_S (ow [(o, .inr (7, [.int th, .int (nI nd), .int (nI ar), .ref fF, .ref fG, .ref fT, .ref fN, .ref fW, .int be, .ref fO, .ref fB, .int bz, .ref fS, .ref fD, .int sz])), (fF, .inl (cI, 41, .inl (nF F))), (fG, .inl (cI, 41, .inl (nF G))), (fT, .inl (cZ, 41, .inl (bF P))), (fN, .inl (cI, 14, .inl N0))]) s.heap s.heap [] := va_S.rf
  have hpw := pow_le nd (by omega)
  have hl := lv_entry ([.ref o, .int (nI a), .int (nI b)]) (n := 6) (Nat.le_of_ble_eq_true rfl)
  rw [lg_entry_eq]
  generalize (lg_sl ([.ref o, .int (nI a), .int (nI b)]) ++ List.replicate (6 - (lg_sl ([.ref o, .int (nI a), .int (nI b)])).length) Slot.unset).toArray = ls at hl ⊢
  have hl : lv_has ls 6 [(0, .ref o), (1, .int (nI a)), (2, .int (nI b))] := hl
  refine lv_aload_n hx hb d_MO_nodes_0 rfl (lv_at hl 0 rfl) ?_
  refine lv_iconst (v := (nI 0)) hx hb d_MO_nodes_1 (by decide) ?_
  refine va_put (D := (dC, dI)) (ci := 7) (v := .int (nI 0)) (ty := .int) (C := R_MO) (T := F_MO) (N := 15) hx hb hts in_MO t_MO t_MO_ok n_MO hown hK.1 hP hD hS 0 rfl rfl 0 (by decide) (hts _ wfl_MO_38) (fun _ h9 => h9) rfl (by decide +kernel) rfl rfl (Nat.le_of_ble_eq_true rfl) d_MO_nodes_2 (fun H locs hP hD hS => ?_)
  have hP : va_P (dC, dI) cls [(o, .inr (7, [.int (nI 0), .int (nI nd), .int (nI ar), .ref fF, .ref fG, .ref fT, .ref fN, .ref fW, .int be, .ref fO, .ref fB, .int bz, .ref fS, .ref fD, .int sz])), (fF, .inl (cI, 41, .inl (nF F))), (fG, .inl (cI, 41, .inl (nF G))), (fT, .inl (cZ, 41, .inl (bF P))), (fN, .inl (cI, 14, .inl N0))] H := hP
  have hD : va_D (ow [(o, .inr (7, [.int th, .int (nI nd), .int (nI ar), .ref fF, .ref fG, .ref fT, .ref fN, .ref fW, .int be, .ref fO, .ref fB, .int bz, .ref fS, .ref fD, .int sz])), (fF, .inl (cI, 41, .inl (nF F))), (fG, .inl (cI, 41, .inl (nF G))), (fT, .inl (cZ, 41, .inl (bF P))), (fN, .inl (cI, 14, .inl N0))]) [(o, .inr (7, [.int (nI 0), .int (nI nd), .int (nI ar), .ref fF, .ref fG, .ref fT, .ref fN, .ref fW, .int be, .ref fO, .ref fB, .int bz, .ref fS, .ref fD, .int sz])), (fF, .inl (cI, 41, .inl (nF F))), (fG, .inl (cI, 41, .inl (nF G))), (fT, .inl (cZ, 41, .inl (bF P))), (fN, .inl (cI, 14, .inl N0))] := hD
  refine lv_aload_n hx hb d_MO_nodes_5 rfl (lv_at hl 0 rfl) ?_
  refine lv_iload_n hx hb d_MO_nodes_6 rfl (lv_at hl 1 rfl) ?_
  refine vp_callSi (va_Run.run (k_V (n := 1) (C := R_MO) (rest := []) ⟨hx, hb, hml, hown, hts⟩ (c_MO_isNode l dC dI cI cJ cZ o fF fG fT fN fW fO fB fS fD (nI 0) be bz sz nd ar (nI a) (by first | assumption | omega)) wml_MO_52 wim_MO_isNode wsel_MO_isNode wini_MO wcode_MO_isNode (by decide +kernel) ⟨Nat.le_of_ble_eq_true rfl, Nat.le_of_ble_eq_true rfl⟩ (preV_R (q := (R_MO, F_MO, 15)) (ci := 7) (q0 := 0) (hP.sub (ws' := [(o, .inr (7, [.int (nI 0), .int (nI nd), .int (nI ar), .ref fF, .ref fG, .ref fT, .ref fN, .ref fW, .int be, .ref fO, .ref fB, .int bz, .ref fS, .ref fD, .int sz]))]) [0] rfl) hK rfl rfl) rfl hl.1 rfl (Nat.le_of_ble_eq_true rfl) d_MO_nodes_7 ⟨Nat.zero_le _, Nat.zero_le _⟩)) (fun r_1 hr_2 => ?_)
  refine xe_i (y := (bI (vd (nI a) nd))) hr_2 ?_
  refine xe_i (y := (bI true)) (by rw [vd_tt (by omega) ha]) ?_
  refine lv_if_eq (tgt := 21) hx hb d_MO_nodes_10 (by decide) (fun c9 => absurd c9 (by decide : ¬ ((bI true) : Int32) = 0)) (fun _ => ?_)
  refine lv_aload_n hx hb d_MO_nodes_13 rfl (lv_at hl 0 rfl) ?_
  refine lv_iload_n hx hb d_MO_nodes_14 rfl (lv_at hl 2 rfl) ?_
  refine vp_callSi (va_Run.run (k_V (n := 1) (C := R_MO) (rest := []) ⟨hx, hb, hml, hown, hts⟩ (c_MO_isNode l dC dI cI cJ cZ o fF fG fT fN fW fO fB fS fD (nI 0) be bz sz nd ar (nI b) (by first | assumption | omega)) wml_MO_52 wim_MO_isNode wsel_MO_isNode wini_MO wcode_MO_isNode (by decide +kernel) ⟨Nat.le_of_ble_eq_true rfl, Nat.le_of_ble_eq_true rfl⟩ (preV_R (q := (R_MO, F_MO, 15)) (ci := 7) (q0 := 0) (hP.sub (ws' := [(o, .inr (7, [.int (nI 0), .int (nI nd), .int (nI ar), .ref fF, .ref fG, .ref fT, .ref fN, .ref fW, .int be, .ref fO, .ref fB, .int bz, .ref fS, .ref fD, .int sz]))]) [0] rfl) hK rfl rfl) rfl hl.1 rfl (Nat.le_of_ble_eq_true rfl) d_MO_nodes_15 ⟨Nat.zero_le _, Nat.zero_le _⟩)) (fun r_4 hr_5 => ?_)
  refine xe_i (y := (bI (vd (nI b) nd))) hr_5 ?_
  refine xe_i (y := (bI true)) (by rw [vd_tt (by omega) hb_]) ?_
  refine lv_if_ne (tgt := 23) hx hb d_MO_nodes_18 (by decide) (fun _ => ?_) (fun c9 => absurd c9 (by decide : ¬ ((bI true) : Int32) = 0))
  refine lv_aload_n hx hb d_MO_nodes_23 rfl (lv_at hl 0 rfl) ?_
  refine x_cv (k_V (n := 0) (C := R_MO) (rest := []) ⟨hx, hb, hml, hown, hts⟩ (c_MO_lookAll l dC dI cI cJ cZ o fF fG fT fN fW fO fB fS fD (nI 0) be bz sz nd ar F G P hF hG (by first | assumption | omega) (by first | assumption | omega) hM N0) wml_MO_67 wim_MO_lookAll wsel_MO_lookAll wini_MO wcode_MO_lookAll (by decide +kernel) ⟨Nat.le_of_ble_eq_true rfl, Nat.le_of_ble_eq_true rfl⟩ (preV_M (q := (R_MO, F_MO, 15)) (ci := 7) (q0 := 0) (hP.sub (ws' := [(o, .inr (7, [.int (nI 0), .int (nI nd), .int (nI ar), .ref fF, .ref fG, .ref fT, .ref fN, .ref fW, .int be, .ref fO, .ref fB, .int bz, .ref fS, .ref fD, .int sz])), (fF, .inl (cI, 41, .inl (nF F))), (fG, .inl (cI, 41, .inl (nF G))), (fT, .inl (cZ, 41, .inl (bF P))), (fN, .inl (cI, 14, .inl N0))]) [0, 1, 2, 3, 4] rfl) hK (hD.sub (ws' := [(o, .inr (7, [.int (nI 0), .int (nI nd), .int (nI ar), .ref fF, .ref fG, .ref fT, .ref fN, .ref fW, .int be, .ref fO, .ref fB, .int bz, .ref fS, .ref fD, .int sz])), (fF, .inl (cI, 41, .inl (nF F))), (fG, .inl (cI, 41, .inl (nF G))), (fT, .inl (cZ, 41, .inl (bF P))), (fN, .inl (cI, 14, .inl N0))]) [0, 1, 2, 3, 4] (by decide) rfl) rfl rfl) rfl hl.1 rfl (Nat.le_of_ble_eq_true rfl) d_MO_nodes_24 ⟨Nat.zero_le _, Nat.zero_le _⟩) hP hD hS [0, 1, 2, 3, 4] rfl (fun _ => rfl) (fun u_7 H locs hu_7 hP hS => ?_)
  obtain ⟨N9_7, rfl⟩ : ∃ z, z = u_7 := ⟨_, rfl⟩
  have hP : va_P (dC, dI) cls [(o, .inr (7, [.int (nI 0), .int (nI nd), .int (nI ar), .ref fF, .ref fG, .ref fT, .ref fN, .ref fW, .int be, .ref fO, .ref fB, .int bz, .ref fS, .ref fD, .int sz])), (fF, .inl (cI, 41, .inl (nF F))), (fG, .inl (cI, 41, .inl (nF G))), (fT, .inl (cZ, 41, .inl (bF P))), (fN, .inl (cI, 14, .inl N9_7))] H := hP
  have hD := hD.addr (ws' := [(o, .inr (7, [.int (nI 0), .int (nI nd), .int (nI ar), .ref fF, .ref fG, .ref fT, .ref fN, .ref fW, .int be, .ref fO, .ref fB, .int bz, .ref fS, .ref fD, .int sz])), (fF, .inl (cI, 41, .inl (nF F))), (fG, .inl (cI, 41, .inl (nF G))), (fT, .inl (cZ, 41, .inl (bF P))), (fN, .inl (cI, 14, .inl N9_7))]) rfl
  refine lv_iload_n hx hb d_MO_nodes_27 rfl (lv_at hl 1 rfl) ?_
  refine lv_iload_n hx hb d_MO_nodes_28 rfl (lv_at hl 2 rfl) ?_
  refine x_cmp_eq (a := a) (b := b) (tgt := 46) hx hb (by omega) (by omega) d_MO_nodes_29 (by decide) (fun c_8 => ?_) (fun c_8 => ?_)
  · skip
    exact absurd c_8 hab
  · skip
    refine lv_aload_n hx hb d_MO_nodes_32 rfl (lv_at hl 0 rfl) ?_
    refine va_get (D := (dC, dI)) (ci := 7) (v := .ref fN) (C := R_MO) (T := F_MO) (N := 15) hx hb hts in_MO hown hK.1 hP 0 rfl rfl 6 (by decide) (hts _ wfl_MO_20) (fun _ h9 => h9) rfl d_MO_nodes_33 ?_
    refine lv_iload_n hx hb d_MO_nodes_36 rfl (lv_at hl 1 rfl) ?_
    refine x_iald (n := 14) (f := N9_7) (j := a) hx hb hK.1 hP 4 0 rfl rfl (by omega) (by omega) d_MO_nodes_37 ?_
    refine lv_iload_n hx hb d_MO_nodes_38 rfl (lv_at hl 2 rfl) ?_
    refine lv_ishr hx hb d_MO_nodes_39 ?_
    refine lv_iconst (v := (nI 1)) hx hb d_MO_nodes_40 (by decide) ?_
    refine lv_iand hx hb d_MO_nodes_41 ?_
    refine xe_i (y := (bI (bt (N9_7 a) b))) (sh1 (by omega)) ?_
    refine lv_iconst (v := (nI 1)) hx hb d_MO_nodes_42 (by decide) ?_
    refine x_cmp1_ne (tgt := 49) hx hb d_MO_nodes_43 (by decide) (fun c_9 => ?_) (fun c_9 => ?_)
    · skip
      refine lv_bipush (v := (nI 100)) hx hb d_MO_nodes_49 (by decide) ?_
      refine lv_istore_n (lv' := [(3, .int (nI 100)), (0, .ref o), (1, .int (nI a)), (2, .int (nI b))]) hx hb d_MO_nodes_51 rfl hl (by decide) rfl (fun ls hl => ?_)
      refine lv_iconst (v := (nI 1)) hx hb d_MO_nodes_52 (by decide) ?_
      refine lv_iload_n hx hb d_MO_nodes_53 rfl (lv_at hl 2 rfl) ?_
      refine lv_ishl hx hb d_MO_nodes_54 ?_
      refine xe_i (y := (sb a)) rfl ?_
      refine lv_iconst (v := (nI 1)) hx hb d_MO_nodes_55 (by decide) ?_
      refine lv_iload_n hx hb d_MO_nodes_56 rfl (lv_at hl 3 rfl) ?_
      refine lv_ishl hx hb d_MO_nodes_57 ?_
      refine xe_i (y := (sb b)) rfl ?_
      refine lv_ior hx hb d_MO_nodes_58 ?_
      refine lv_istore (lv' := [(4, .int ((sb a) ||| (sb b))), (3, .int (nI 100)), (0, .ref o), (1, .int (nI a)), (2, .int (nI b))]) hx hb d_MO_nodes_59 hl (by decide) rfl (fun ls hl => ?_)
      refine lv_iconst (v := (nI 0)) hx hb d_MO_nodes_61 (by decide) ?_
      refine lv_istore (lv' := [(5, .int (nI 0)), (4, .int ((sb a) ||| (sb b))), (3, .int (nI 100)), (0, .ref o), (1, .int (nI a)), (2, .int (nI b))]) hx hb d_MO_nodes_62 hl (by decide) rfl (fun ls hl => ?_)
      have L64_10 : ∀ (n : Nat) (N2 : Nat → Int32) (fw : Nat) (s0 : Nat) (hn : 2 ^ nd - s0 < n) (hs0 : s0 ≤ 2 ^ nd) (hno : noI (noQ ar P F G a b) fw s0) (H : Heap) (locs : List Loc) (hP : va_P (dC, dI) cls [(o, .inr (7, [.int (nI 0), .int (nI nd), .int (nI ar), .ref fF, .ref fG, .ref fT, .ref fN, .ref fW, .int be, .ref fO, .ref fB, .int bz, .ref fS, .ref fD, .int sz])), (fF, .inl (cI, 41, .inl (nF F))), (fG, .inl (cI, 41, .inl (nF G))), (fT, .inl (cZ, 41, .inl (bF P))), (fN, .inl (cI, 14, .inl N2))] H) (hD : va_D (ow [(o, .inr (7, [.int th, .int (nI nd), .int (nI ar), .ref fF, .ref fG, .ref fT, .ref fN, .ref fW, .int be, .ref fO, .ref fB, .int bz, .ref fS, .ref fD, .int sz])), (fF, .inl (cI, 41, .inl (nF F))), (fG, .inl (cI, 41, .inl (nF G))), (fT, .inl (cZ, 41, .inl (bF P))), (fN, .inl (cI, 14, .inl N0))]) [(o, .inr (7, [.int (nI 0), .int (nI nd), .int (nI ar), .ref fF, .ref fG, .ref fT, .ref fN, .ref fW, .int be, .ref fO, .ref fB, .int bz, .ref fS, .ref fD, .int sz])), (fF, .inl (cI, 41, .inl (nF F))), (fG, .inl (cI, 41, .inl (nF G))), (fT, .inl (cZ, 41, .inl (bF P))), (fN, .inl (cI, 14, .inl N2))]) (hS : va_S (ow [(o, .inr (7, [.int th, .int (nI nd), .int (nI ar), .ref fF, .ref fG, .ref fT, .ref fN, .ref fW, .int be, .ref fO, .ref fB, .int bz, .ref fS, .ref fD, .int sz])), (fF, .inl (cI, 41, .inl (nF F))), (fG, .inl (cI, 41, .inl (nF G))), (fT, .inl (cZ, 41, .inl (bF P))), (fN, .inl (cI, 14, .inl N0))]) s.heap H locs) (ls : Array Slot) (hl : lv_has ls 6 [(0, .ref o), (1, .int (nI a)), (2, .int (nI b)), (3, .int (nI fw)), (4, .int ((sb a) ||| (sb b))), (5, .int (nI s0))]), W p l e (headSpec (Cond.code ⟨"CutPointsModel", "nodes", "(II)I"⟩ prog_9_method_37_code 6 (some .int) :: TT) (rmk 2 50)).room s m ([.ref o, .int (nI a), .int (nI b)] : List Value).toArray below meth c H locs 0 0 (MQ below (va_Qi (S := Nat → Int32) (fun r u9 => ∃ fw, r = nI fw ∧ noI (noQ ar P F G a b) fw (2 ^ nd)) (fun u9 t9 => va_P (dC, dI) cls ([(o, .inr (7, [.int (nI 0), .int (nI nd), .int (nI ar), .ref fF, .ref fG, .ref fT, .ref fN, .ref fW, .int be, .ref fO, .ref fB, .int bz, .ref fS, .ref fD, .int sz])), (fF, .inl (cI, 41, .inl (nF F))), (fG, .inl (cI, 41, .inl (nF G))), (fT, .inl (cZ, 41, .inl (bF P))), (fN, .inl (cI, 14, .inl u9))]) t9.heap) (ow [(o, .inr (7, [.int th, .int (nI nd), .int (nI ar), .ref fF, .ref fG, .ref fT, .ref fN, .ref fW, .int be, .ref fO, .ref fB, .int bz, .ref fS, .ref fD, .int sz])), (fF, .inl (cI, 41, .inl (nF F))), (fG, .inl (cI, 41, .inl (nF G))), (fT, .inl (cZ, 41, .inl (bF P))), (fN, .inl (cI, 14, .inl N0))])) ([.ref o, .int (nI a), .int (nI b)] : List Value).toArray s 0 0 (ow [(o, .inr (7, [.int th, .int (nI nd), .int (nI ar), .ref fF, .ref fG, .ref fT, .ref fN, .ref fW, .int be, .ref fO, .ref fB, .int bz, .ref fS, .ref fD, .int sz])), (fF, .inl (cI, 41, .inl (nF F))), (fG, .inl (cI, 41, .inl (nF G))), (fT, .inl (cZ, 41, .inl (bF P))), (fN, .inl (cI, 14, .inl N0))])) (F0 m 64 ls []) := by
        intro n_64
        induction n_64 with
        | zero =>
          intro N2 fw s0 hn_64
          exact absurd hn_64 (Nat.not_lt_zero _)
        | succ n_64 ih_64 =>
          intro N2 fw s0 hn_64 hs0 hno H locs hP hD hS ls hl
          have hfw := noI_le hno
          refine lv_iload hx hb d_MO_nodes_64 (lv_at hl 5 rfl) ?_
          refine lv_iconst (v := (nI 1)) hx hb d_MO_nodes_66 (by decide) ?_
          refine lv_aload_n hx hb d_MO_nodes_67 rfl (lv_at hl 0 rfl) ?_
          refine va_get (D := (dC, dI)) (ci := 7) (v := .int (nI nd)) (C := R_MO) (T := F_MO) (N := 15) hx hb hts in_MO hown hK.1 hP 0 rfl rfl 1 (by decide) (hts _ wfl_MO_42) (fun _ h9 => h9) rfl d_MO_nodes_68 ?_
          refine lv_ishl hx hb d_MO_nodes_71 ?_
          refine xe_i (y := (sb nd)) rfl ?_
          refine xe_i (y := (nI (2 ^ nd))) (sb_pow nd (by omega)) ?_
          refine x_cmp_ge (a := s0) (b := (2 ^ nd)) (tgt := 115) hx hb (by omega) (by omega) d_MO_nodes_72 (by decide) (fun c_11 => ?_) (fun c_11 => ?_)
          · skip
            refine lv_iload_n hx hb d_MO_nodes_115 rfl (lv_at hl 3 rfl) ?_
            exact W.iret (v := (nI fw)) hx hb hr (fun t9 ht9 _ => ⟨⟨_, (N2), rfl, ⟨_, rfl, by have e9 : s0 = 2 ^ nd := (by omega); subst e9; exact hno⟩, by show va_P (dC, dI) cls _ t9.heap; rw [ht9]; exact hP⟩, hS.F ht9⟩) hS.2.2 d_MO_nodes_116
          · skip
            refine lv_iload hx hb d_MO_nodes_75 (lv_at hl 5 rfl) ?_
            refine lv_iload hx hb d_MO_nodes_77 (lv_at hl 4 rfl) ?_
            refine lv_iand hx hb d_MO_nodes_79 ?_
            refine lv_if_ne (tgt := 109) hx hb d_MO_nodes_80 (by decide) (fun c_12 => ?_) (fun c_12 => ?_)
            · skip
              refine lv_iinc (v := (nI (s0 + 1))) (lv' := [(5, .int (nI (s0 + 1))), (0, .ref o), (1, .int (nI a)), (2, .int (nI b)), (3, .int (nI fw)), (4, .int ((sb a) ||| (sb b)))]) hx hb d_MO_nodes_109 hl (k := 5) rfl (nI_1 _) (by decide) rfl (fun ls hl => ?_)
              refine lv_goto (tgt := 64) hx hb d_MO_nodes_112 (by decide) ?_
              exact ih_64 N2 fw (s0 + 1) (by omega) (by first | assumption | omega) (noI_f hno (fun z9 => c_12 z9.1)) _ _ hP hD hS ls (lv_sub hl [1, 2, 3, 4, 5, 0] rfl)
            · skip
              refine lv_iload hx hb d_MO_nodes_83 (lv_at hl 5 rfl) ?_
              refine vp_callSi (va_Run.run (k_S (n := 1) (rest := []) ⟨hx, hb, hml, hown, hts⟩ (c_MO_many l dC dI cI cJ cZ (nI s0)) wml_MO_92 wst_MO_many wini_MO wcode_MO_many (by decide +kernel) ⟨Nat.le_of_ble_eq_true rfl, Nat.le_of_ble_eq_true rfl⟩ (pre_R (hP.sub (ws' := []) [] rfl) hK) rfl hl.1 rfl (Nat.le_of_ble_eq_true rfl) d_MO_nodes_85 ⟨Nat.zero_le _, Nat.zero_le _⟩)) (fun r_13 hr_14 => ?_)
              refine xe_i (y := (nI (cn (bt (nI s0)) 16))) hr_14 ?_
              refine lv_iload_n hx hb d_MO_nodes_88 rfl (lv_at hl 3 rfl) ?_
              refine x_cmp_ge (a := (cn (bt (nI s0)) 16)) (b := fw) (tgt := 109) hx hb (Nat.lt_of_le_of_lt (cn_le _ _) (by decide)) (by omega) d_MO_nodes_89 (by decide) (fun c_15 => ?_) (fun c_15 => ?_)
              · skip
                refine lv_iinc (v := (nI (s0 + 1))) (lv' := [(5, .int (nI (s0 + 1))), (0, .ref o), (1, .int (nI a)), (2, .int (nI b)), (3, .int (nI fw)), (4, .int ((sb a) ||| (sb b)))]) hx hb d_MO_nodes_109 hl (k := 5) rfl (nI_1 _) (by decide) rfl (fun ls hl => ?_)
                refine lv_goto (tgt := 64) hx hb d_MO_nodes_112 (by decide) ?_
                exact ih_64 N2 fw (s0 + 1) (by omega) (by first | assumption | omega) (noI_k hno (by omega)) _ _ hP hD hS ls (lv_sub hl [1, 2, 3, 4, 5, 0] rfl)
              · skip
                refine lv_aload_n hx hb d_MO_nodes_92 rfl (lv_at hl 0 rfl) ?_
                refine lv_iload_n hx hb d_MO_nodes_93 rfl (lv_at hl 1 rfl) ?_
                refine lv_iload_n hx hb d_MO_nodes_94 rfl (lv_at hl 2 rfl) ?_
                refine lv_iload hx hb d_MO_nodes_95 (lv_at hl 5 rfl) ?_
                refine x_ci (k_V (n := 3) (C := R_MO) (rest := []) ⟨hx, hb, hml, hown, hts⟩ (c_MO_arePartedBy l dC dI cI cJ cZ o fF fG fT fN fW fO fB fS fD (nI 0) be bz sz nd ar F G P hF hG (by first | assumption | omega) (by first | assumption | omega) hM N2 a b (nI s0) (by first | assumption | omega) (by first | assumption | omega)) wml_MO_122 wim_MO_arePartedBy wsel_MO_arePartedBy wini_MO wcode_MO_arePartedBy (by decide +kernel) ⟨Nat.le_of_ble_eq_true rfl, Nat.le_of_ble_eq_true rfl⟩ (preV_M (q := (R_MO, F_MO, 15)) (ci := 7) (q0 := 0) (hP.sub (ws' := [(o, .inr (7, [.int (nI 0), .int (nI nd), .int (nI ar), .ref fF, .ref fG, .ref fT, .ref fN, .ref fW, .int be, .ref fO, .ref fB, .int bz, .ref fS, .ref fD, .int sz])), (fF, .inl (cI, 41, .inl (nF F))), (fG, .inl (cI, 41, .inl (nF G))), (fT, .inl (cZ, 41, .inl (bF P))), (fN, .inl (cI, 14, .inl N2))]) [0, 1, 2, 3, 4] rfl) hK (hD.sub (ws' := [(o, .inr (7, [.int (nI 0), .int (nI nd), .int (nI ar), .ref fF, .ref fG, .ref fT, .ref fN, .ref fW, .int be, .ref fO, .ref fB, .int bz, .ref fS, .ref fD, .int sz])), (fF, .inl (cI, 41, .inl (nF F))), (fG, .inl (cI, 41, .inl (nF G))), (fT, .inl (cZ, 41, .inl (bF P))), (fN, .inl (cI, 14, .inl N2))]) [0, 1, 2, 3, 4] (by decide) rfl) rfl rfl) rfl hl.1 rfl (Nat.le_of_ble_eq_true rfl) d_MO_nodes_97 ⟨Nat.zero_le _, Nat.zero_le _⟩) hP hD hS [0, 1, 2, 3, 4] rfl (fun _ => rfl) (fun r_16 u_16 H locs hu_16 hP hS => ?_)
                obtain ⟨N9_16, rfl⟩ : ∃ z, z = u_16 := ⟨_, rfl⟩
                have hP : va_P (dC, dI) cls [(o, .inr (7, [.int (nI 0), .int (nI nd), .int (nI ar), .ref fF, .ref fG, .ref fT, .ref fN, .ref fW, .int be, .ref fO, .ref fB, .int bz, .ref fS, .ref fD, .int sz])), (fF, .inl (cI, 41, .inl (nF F))), (fG, .inl (cI, 41, .inl (nF G))), (fT, .inl (cZ, 41, .inl (bF P))), (fN, .inl (cI, 14, .inl N9_16))] H := hP
                have hD := hD.addr (ws' := [(o, .inr (7, [.int (nI 0), .int (nI nd), .int (nI ar), .ref fF, .ref fG, .ref fT, .ref fN, .ref fW, .int be, .ref fO, .ref fB, .int bz, .ref fS, .ref fD, .int sz])), (fF, .inl (cI, 41, .inl (nF F))), (fG, .inl (cI, 41, .inl (nF G))), (fT, .inl (cZ, 41, .inl (bF P))), (fN, .inl (cI, 14, .inl N9_16))]) rfl
                refine xe_i (y := (bI (!dc (Rc (ad (lkT ar 0 P (-1) (-1) (nI s0) F G) F G) a b)))) hu_16 ?_
                refine x_if_eq (tgt := 109) hx hb d_MO_nodes_100 (by decide) (fun c_17 => ?_) (fun c_17 => ?_)
                · skip
                  refine lv_iinc (v := (nI (s0 + 1))) (lv' := [(5, .int (nI (s0 + 1))), (0, .ref o), (1, .int (nI a)), (2, .int (nI b)), (3, .int (nI fw)), (4, .int ((sb a) ||| (sb b)))]) hx hb d_MO_nodes_109 hl (k := 5) rfl (nI_1 _) (by decide) rfl (fun ls hl => ?_)
                  refine lv_goto (tgt := 64) hx hb d_MO_nodes_112 (by decide) ?_
                  exact ih_64 N9_16 fw (s0 + 1) (by omega) (by first | assumption | omega) (noI_f hno (fun z9 => by have y9 := c_17; rw [Bool.not_eq_false'] at y9; exact z9.2 (dc_t.mp y9))) _ _ hP hD hS ls (lv_sub hl [1, 2, 3, 4, 5, 0] rfl)
                · skip
                  refine lv_iload hx hb d_MO_nodes_103 (lv_at hl 5 rfl) ?_
                  refine vp_callSi (va_Run.run (k_S (n := 1) (rest := []) ⟨hx, hb, hml, hown, hts⟩ (c_MO_many l dC dI cI cJ cZ (nI s0)) wml_MO_92 wst_MO_many wini_MO wcode_MO_many (by decide +kernel) ⟨Nat.le_of_ble_eq_true rfl, Nat.le_of_ble_eq_true rfl⟩ (pre_R (hP.sub (ws' := []) [] rfl) hK) rfl hl.1 rfl (Nat.le_of_ble_eq_true rfl) d_MO_nodes_105 ⟨Nat.zero_le _, Nat.zero_le _⟩)) (fun r_18 hr_19 => ?_)
                  refine xe_i (y := (nI (cn (bt (nI s0)) 16))) hr_19 ?_
                  refine lv_istore_n (lv' := [(3, .int (nI (cn (bt (nI s0)) 16))), (0, .ref o), (1, .int (nI a)), (2, .int (nI b)), (4, .int ((sb a) ||| (sb b))), (5, .int (nI s0))]) hx hb d_MO_nodes_108 rfl hl (by decide) rfl (fun ls hl => ?_)
                  refine lv_iinc (v := (nI (s0 + 1))) (lv' := [(5, .int (nI (s0 + 1))), (3, .int (nI (cn (bt (nI s0)) 16))), (0, .ref o), (1, .int (nI a)), (2, .int (nI b)), (4, .int ((sb a) ||| (sb b)))]) hx hb d_MO_nodes_109 hl (k := 5) rfl (nI_1 _) (by decide) rfl (fun ls hl => ?_)
                  refine lv_goto (tgt := 64) hx hb d_MO_nodes_112 (by decide) ?_
                  exact ih_64 N9_16 (cn (bt (nI s0)) 16) (s0 + 1) (by omega) (by first | assumption | omega) (noI_t hno ⟨c_12, by have y9 := c_17; rw [Bool.not_eq_true'] at y9; exact dc_f.mp y9⟩ (by omega)) _ _ hP hD hS ls (lv_sub hl [2, 3, 4, 1, 5, 0] rfl)
      exact L64_10 ((2 ^ nd - 0) + 1) N9_7 100 0 (Nat.lt_succ_self _) (Nat.zero_le _) noI_0 _ _ hP hD hS ls (lv_sub hl [3, 4, 5, 2, 1, 0] rfl)
    · skip
      exact absurd ((hu_7 a b (by omega)).mp c_9) hadj

set_option maxHeartbeats 4000000 in
set_option maxRecDepth 100000 in
theorem c_MO_between_n (l : Launch) (dC : Nat → ClassId) (dI : Nat → Nat → Nat) (cI cJ cZ : ClassId) (o fF fG fT fN fW fO fB fS fD : Nat) (th be bz sz : Int32) (nd ar : Nat) (F G : Nat → Nat) (P : Nat → Bool) (hF : ∀ k, F k < 14) (hG : ∀ k, G k < 14) (hnd : nd ≤ 14) (har : ar ≤ 40) (hM : ∀ e, e < ar → F e < nd ∧ G e < nd) (N0 : Nat → Int32) (a b : Nat) (ha : a < nd) (hb_ : b < nd) (hab : a ≠ b) (hnp : ¬ Rc (ad (lkT ar 0 P (-1) (-1) (nI 0) F G) F G) a b) : Met l ⟨"CutPointsModel", "between", "(II)I"⟩ (Cond.code ⟨"CutPointsModel", "between", "(II)I"⟩ prog_9_method_38_code 5 (some .int) :: TT) (rmk 2 50) (PM dC dI cI cJ cZ [.ref o, .int (nI a), .int (nI b)] [(o, .inr (7, [.int th, .int (nI nd), .int (nI ar), .ref fF, .ref fG, .ref fT, .ref fN, .ref fW, .int be, .ref fO, .ref fB, .int bz, .ref fS, .ref fD, .int sz])), (fF, .inl (cI, 41, .inl (nF F))), (fG, .inl (cI, 41, .inl (nF G))), (fT, .inl (cZ, 41, .inl (bF P))), (fN, .inl (cI, 14, .inl N0))]) (va_Qi (S := Nat → Int32) (fun r u9 => r = -3) (fun u9 t9 => va_P (dC, dI) cls ([(o, .inr (7, [.int (nI 0), .int (nI nd), .int (nI ar), .ref fF, .ref fG, .ref fT, .ref fN, .ref fW, .int be, .ref fO, .ref fB, .int bz, .ref fS, .ref fD, .int sz])), (fF, .inl (cI, 41, .inl (nF F))), (fG, .inl (cI, 41, .inl (nF G))), (fT, .inl (cZ, 41, .inl (bF P))), (fN, .inl (cI, 14, .inl u9))]) t9.heap) (ow [(o, .inr (7, [.int th, .int (nI nd), .int (nI ar), .ref fF, .ref fG, .ref fT, .ref fN, .ref fW, .int be, .ref fO, .ref fB, .int bz, .ref fS, .ref fD, .int sz])), (fF, .inl (cI, 41, .inl (nF F))), (fG, .inl (cI, 41, .inl (nF G))), (fT, .inl (cZ, 41, .inl (bF P))), (fN, .inl (cI, 14, .inl N0))])) 0 0 (ow [(o, .inr (7, [.int th, .int (nI nd), .int (nI ar), .ref fF, .ref fG, .ref fT, .ref fN, .ref fW, .int be, .ref fO, .ref fB, .int bz, .ref fS, .ref fD, .int sz])), (fF, .inl (cI, 41, .inl (nF F))), (fG, .inl (cI, 41, .inl (nF G))), (fT, .inl (cZ, 41, .inl (bF P))), (fN, .inl (cI, 14, .inl N0))]) := by
  refine Met.ofW (cc := prog_9_method_38_code) (maxL := 5) (ret := (some .int)) (by decide) rfl ?_
  intro p e s m args below meth c s₁ BB9 hml hv
  obtain ⟨rfl, hP, hK, hD0⟩ := hv
  have hx := BB9.exec
  have hb := BB9.bytes
  have hr := BB9.returns
  have hts : ∀ w ∈ TT, w.before _ s = true := fun w h => atoms_spec (ws := (Cond.code ⟨"CutPointsModel", "between", "(II)I"⟩ prog_9_method_38_code 5 (some .int) :: TT)) BB9.pre w (List.mem_cons_of_mem _ h)
  have hown : s.vm.findClass "CutPointsModel" = some m.cls := findClass_of_methodNamed BB9.named
  have hlocks := BB9.notSynchronized
  have hD := hD0.mine
  have hS : va_S (ow [(o, .inr (7, [.int th, .int (nI nd), .int (nI ar), .ref fF, .ref fG, .ref fT, .ref fN, .ref fW, .int be, .ref fO, .ref fB, .int bz, .ref fS, .ref fD, .int sz])), (fF, .inl (cI, 41, .inl (nF F))), (fG, .inl (cI, 41, .inl (nF G))), (fT, .inl (cZ, 41, .inl (bF P))), (fN, .inl (cI, 14, .inl N0))]) s.heap s.heap [] := va_S.rf
  have hl := lv_entry ([.ref o, .int (nI a), .int (nI b)]) (n := 5) (Nat.le_of_ble_eq_true rfl)
  rw [lg_entry_eq]
  generalize (lg_sl ([.ref o, .int (nI a), .int (nI b)]) ++ List.replicate (5 - (lg_sl ([.ref o, .int (nI a), .int (nI b)])).length) Slot.unset).toArray = ls at hl ⊢
  have hl : lv_has ls 5 [(0, .ref o), (1, .int (nI a)), (2, .int (nI b))] := hl
  refine lv_aload_n hx hb d_MO_between_0 rfl (lv_at hl 0 rfl) ?_
  refine lv_iconst (v := (nI 0)) hx hb d_MO_between_1 (by decide) ?_
  refine va_put (D := (dC, dI)) (ci := 7) (v := .int (nI 0)) (ty := .int) (C := R_MO) (T := F_MO) (N := 15) hx hb hts in_MO t_MO t_MO_ok n_MO hown hK.1 hP hD hS 0 rfl rfl 0 (by decide) (hts _ wfl_MO_38) (fun _ h9 => h9) rfl (by decide +kernel) rfl rfl (Nat.le_of_ble_eq_true rfl) d_MO_between_2 (fun H locs hP hD hS => ?_)
  have hP : va_P (dC, dI) cls [(o, .inr (7, [.int (nI 0), .int (nI nd), .int (nI ar), .ref fF, .ref fG, .ref fT, .ref fN, .ref fW, .int be, .ref fO, .ref fB, .int bz, .ref fS, .ref fD, .int sz])), (fF, .inl (cI, 41, .inl (nF F))), (fG, .inl (cI, 41, .inl (nF G))), (fT, .inl (cZ, 41, .inl (bF P))), (fN, .inl (cI, 14, .inl N0))] H := hP
  have hD : va_D (ow [(o, .inr (7, [.int th, .int (nI nd), .int (nI ar), .ref fF, .ref fG, .ref fT, .ref fN, .ref fW, .int be, .ref fO, .ref fB, .int bz, .ref fS, .ref fD, .int sz])), (fF, .inl (cI, 41, .inl (nF F))), (fG, .inl (cI, 41, .inl (nF G))), (fT, .inl (cZ, 41, .inl (bF P))), (fN, .inl (cI, 14, .inl N0))]) [(o, .inr (7, [.int (nI 0), .int (nI nd), .int (nI ar), .ref fF, .ref fG, .ref fT, .ref fN, .ref fW, .int be, .ref fO, .ref fB, .int bz, .ref fS, .ref fD, .int sz])), (fF, .inl (cI, 41, .inl (nF F))), (fG, .inl (cI, 41, .inl (nF G))), (fT, .inl (cZ, 41, .inl (bF P))), (fN, .inl (cI, 14, .inl N0))] := hD
  refine lv_aload_n hx hb d_MO_between_5 rfl (lv_at hl 0 rfl) ?_
  refine lv_iload_n hx hb d_MO_between_6 rfl (lv_at hl 1 rfl) ?_
  refine vp_callSi (va_Run.run (k_V (n := 1) (C := R_MO) (rest := []) ⟨hx, hb, hml, hown, hts⟩ (c_MO_isNode l dC dI cI cJ cZ o fF fG fT fN fW fO fB fS fD (nI 0) be bz sz nd ar (nI a) (by first | assumption | omega)) wml_MO_52 wim_MO_isNode wsel_MO_isNode wini_MO wcode_MO_isNode (by decide +kernel) ⟨Nat.le_of_ble_eq_true rfl, Nat.le_of_ble_eq_true rfl⟩ (preV_R (q := (R_MO, F_MO, 15)) (ci := 7) (q0 := 0) (hP.sub (ws' := [(o, .inr (7, [.int (nI 0), .int (nI nd), .int (nI ar), .ref fF, .ref fG, .ref fT, .ref fN, .ref fW, .int be, .ref fO, .ref fB, .int bz, .ref fS, .ref fD, .int sz]))]) [0] rfl) hK rfl rfl) rfl hl.1 rfl (Nat.le_of_ble_eq_true rfl) d_MO_between_7 ⟨Nat.zero_le _, Nat.zero_le _⟩)) (fun r_1 hr_2 => ?_)
  refine xe_i (y := (bI (vd (nI a) nd))) hr_2 ?_
  refine xe_i (y := (bI true)) (by rw [vd_tt (by omega) ha]) ?_
  refine lv_if_eq (tgt := 21) hx hb d_MO_between_10 (by decide) (fun c9 => absurd c9 (by decide : ¬ ((bI true) : Int32) = 0)) (fun _ => ?_)
  refine lv_aload_n hx hb d_MO_between_13 rfl (lv_at hl 0 rfl) ?_
  refine lv_iload_n hx hb d_MO_between_14 rfl (lv_at hl 2 rfl) ?_
  refine vp_callSi (va_Run.run (k_V (n := 1) (C := R_MO) (rest := []) ⟨hx, hb, hml, hown, hts⟩ (c_MO_isNode l dC dI cI cJ cZ o fF fG fT fN fW fO fB fS fD (nI 0) be bz sz nd ar (nI b) (by first | assumption | omega)) wml_MO_52 wim_MO_isNode wsel_MO_isNode wini_MO wcode_MO_isNode (by decide +kernel) ⟨Nat.le_of_ble_eq_true rfl, Nat.le_of_ble_eq_true rfl⟩ (preV_R (q := (R_MO, F_MO, 15)) (ci := 7) (q0 := 0) (hP.sub (ws' := [(o, .inr (7, [.int (nI 0), .int (nI nd), .int (nI ar), .ref fF, .ref fG, .ref fT, .ref fN, .ref fW, .int be, .ref fO, .ref fB, .int bz, .ref fS, .ref fD, .int sz]))]) [0] rfl) hK rfl rfl) rfl hl.1 rfl (Nat.le_of_ble_eq_true rfl) d_MO_between_15 ⟨Nat.zero_le _, Nat.zero_le _⟩)) (fun r_4 hr_5 => ?_)
  refine xe_i (y := (bI (vd (nI b) nd))) hr_5 ?_
  refine xe_i (y := (bI true)) (by rw [vd_tt (by omega) hb_]) ?_
  refine lv_if_ne (tgt := 23) hx hb d_MO_between_18 (by decide) (fun _ => ?_) (fun c9 => absurd c9 (by decide : ¬ ((bI true) : Int32) = 0))
  refine lv_iload_n hx hb d_MO_between_23 rfl (lv_at hl 1 rfl) ?_
  refine lv_iload_n hx hb d_MO_between_24 rfl (lv_at hl 2 rfl) ?_
  refine x_cmp_eq (a := a) (b := b) (tgt := 38) hx hb (by omega) (by omega) d_MO_between_25 (by decide) (fun c_7 => ?_) (fun c_7 => ?_)
  · skip
    exact absurd c_7 hab
  · skip
    refine lv_aload_n hx hb d_MO_between_28 rfl (lv_at hl 0 rfl) ?_
    refine lv_iload_n hx hb d_MO_between_29 rfl (lv_at hl 1 rfl) ?_
    refine lv_iload_n hx hb d_MO_between_30 rfl (lv_at hl 2 rfl) ?_
    refine lv_iconst (v := (nI 0)) hx hb d_MO_between_31 (by decide) ?_
    refine x_ci (k_V (n := 3) (C := R_MO) (rest := []) ⟨hx, hb, hml, hown, hts⟩ (c_MO_arePartedBy l dC dI cI cJ cZ o fF fG fT fN fW fO fB fS fD (nI 0) be bz sz nd ar F G P hF hG (by first | assumption | omega) (by first | assumption | omega) hM N0 a b (nI 0) (by first | assumption | omega) (by first | assumption | omega)) wml_MO_122 wim_MO_arePartedBy wsel_MO_arePartedBy wini_MO wcode_MO_arePartedBy (by decide +kernel) ⟨Nat.le_of_ble_eq_true rfl, Nat.le_of_ble_eq_true rfl⟩ (preV_M (q := (R_MO, F_MO, 15)) (ci := 7) (q0 := 0) (hP.sub (ws' := [(o, .inr (7, [.int (nI 0), .int (nI nd), .int (nI ar), .ref fF, .ref fG, .ref fT, .ref fN, .ref fW, .int be, .ref fO, .ref fB, .int bz, .ref fS, .ref fD, .int sz])), (fF, .inl (cI, 41, .inl (nF F))), (fG, .inl (cI, 41, .inl (nF G))), (fT, .inl (cZ, 41, .inl (bF P))), (fN, .inl (cI, 14, .inl N0))]) [0, 1, 2, 3, 4] rfl) hK (hD.sub (ws' := [(o, .inr (7, [.int (nI 0), .int (nI nd), .int (nI ar), .ref fF, .ref fG, .ref fT, .ref fN, .ref fW, .int be, .ref fO, .ref fB, .int bz, .ref fS, .ref fD, .int sz])), (fF, .inl (cI, 41, .inl (nF F))), (fG, .inl (cI, 41, .inl (nF G))), (fT, .inl (cZ, 41, .inl (bF P))), (fN, .inl (cI, 14, .inl N0))]) [0, 1, 2, 3, 4] (by decide) rfl) rfl rfl) rfl hl.1 rfl (Nat.le_of_ble_eq_true rfl) d_MO_between_32 ⟨Nat.zero_le _, Nat.zero_le _⟩) hP hD hS [0, 1, 2, 3, 4] rfl (fun _ => rfl) (fun r_8 u_8 H locs hu_8 hP hS => ?_)
    obtain ⟨N9_8, rfl⟩ : ∃ z, z = u_8 := ⟨_, rfl⟩
    have hP : va_P (dC, dI) cls [(o, .inr (7, [.int (nI 0), .int (nI nd), .int (nI ar), .ref fF, .ref fG, .ref fT, .ref fN, .ref fW, .int be, .ref fO, .ref fB, .int bz, .ref fS, .ref fD, .int sz])), (fF, .inl (cI, 41, .inl (nF F))), (fG, .inl (cI, 41, .inl (nF G))), (fT, .inl (cZ, 41, .inl (bF P))), (fN, .inl (cI, 14, .inl N9_8))] H := hP
    have hD := hD.addr (ws' := [(o, .inr (7, [.int (nI 0), .int (nI nd), .int (nI ar), .ref fF, .ref fG, .ref fT, .ref fN, .ref fW, .int be, .ref fO, .ref fB, .int bz, .ref fS, .ref fD, .int sz])), (fF, .inl (cI, 41, .inl (nF F))), (fG, .inl (cI, 41, .inl (nF G))), (fT, .inl (cZ, 41, .inl (bF P))), (fN, .inl (cI, 14, .inl N9_8))]) rfl
    refine xe_i (y := (bI (!dc (Rc (ad (lkT ar 0 P (-1) (-1) (nI 0) F G) F G) a b)))) hu_8 ?_
    refine x_if_eq (tgt := 41) hx hb d_MO_between_35 (by decide) (fun c_9 => ?_) (fun c_9 => ?_)
    · skip
      have y9 := c_9; rw [Bool.not_eq_false'] at y9; exact absurd (dc_t.mp y9) hnp
    · skip
      refine lv_bipush (v := (-3)) hx hb d_MO_between_38 (by decide) ?_
      exact W.iret (v := (-3)) hx hb hr (fun t9 ht9 _ => ⟨⟨_, (N9_8), rfl, rfl, by show va_P (dC, dI) cls _ t9.heap; rw [ht9]; exact hP⟩, hS.F ht9⟩) hS.2.2 d_MO_between_40

set_option maxHeartbeats 4000000 in
set_option maxRecDepth 100000 in
theorem c_MO_between_k (l : Launch) (dC : Nat → ClassId) (dI : Nat → Nat → Nat) (cI cJ cZ : ClassId) (o fF fG fT fN fW fO fB fS fD : Nat) (th be bz sz : Int32) (nd ar : Nat) (F G : Nat → Nat) (P : Nat → Bool) (hF : ∀ k, F k < 14) (hG : ∀ k, G k < 14) (hnd : nd ≤ 14) (har : ar ≤ 40) (hM : ∀ e, e < ar → F e < nd ∧ G e < nd) (N0 : Nat → Int32) (a b : Nat) (ha : a < nd) (hb_ : b < nd) (hab : a ≠ b) (hnp : Rc (ad (lkT ar 0 P (-1) (-1) (nI 0) F G) F G) a b) : Met l ⟨"CutPointsModel", "between", "(II)I"⟩ (Cond.code ⟨"CutPointsModel", "between", "(II)I"⟩ prog_9_method_38_code 5 (some .int) :: TT) (rmk 2 50) (PM dC dI cI cJ cZ [.ref o, .int (nI a), .int (nI b)] [(o, .inr (7, [.int th, .int (nI nd), .int (nI ar), .ref fF, .ref fG, .ref fT, .ref fN, .ref fW, .int be, .ref fO, .ref fB, .int bz, .ref fS, .ref fD, .int sz])), (fF, .inl (cI, 41, .inl (nF F))), (fG, .inl (cI, 41, .inl (nF G))), (fT, .inl (cZ, 41, .inl (bF P))), (fN, .inl (cI, 14, .inl N0))]) (va_Qi (S := Nat → Int32) (fun r u9 => r = nI (cn (bmB ar P F G a b) nd)) (fun u9 t9 => va_P (dC, dI) cls ([(o, .inr (7, [.int (nI 0), .int (nI nd), .int (nI ar), .ref fF, .ref fG, .ref fT, .ref fN, .ref fW, .int be, .ref fO, .ref fB, .int bz, .ref fS, .ref fD, .int sz])), (fF, .inl (cI, 41, .inl (nF F))), (fG, .inl (cI, 41, .inl (nF G))), (fT, .inl (cZ, 41, .inl (bF P))), (fN, .inl (cI, 14, .inl u9))]) t9.heap) (ow [(o, .inr (7, [.int th, .int (nI nd), .int (nI ar), .ref fF, .ref fG, .ref fT, .ref fN, .ref fW, .int be, .ref fO, .ref fB, .int bz, .ref fS, .ref fD, .int sz])), (fF, .inl (cI, 41, .inl (nF F))), (fG, .inl (cI, 41, .inl (nF G))), (fT, .inl (cZ, 41, .inl (bF P))), (fN, .inl (cI, 14, .inl N0))])) 0 0 (ow [(o, .inr (7, [.int th, .int (nI nd), .int (nI ar), .ref fF, .ref fG, .ref fT, .ref fN, .ref fW, .int be, .ref fO, .ref fB, .int bz, .ref fS, .ref fD, .int sz])), (fF, .inl (cI, 41, .inl (nF F))), (fG, .inl (cI, 41, .inl (nF G))), (fT, .inl (cZ, 41, .inl (bF P))), (fN, .inl (cI, 14, .inl N0))]) := by
  refine Met.ofW (cc := prog_9_method_38_code) (maxL := 5) (ret := (some .int)) (by decide) rfl ?_
  intro p e s m args below meth c s₁ BB9 hml hv
  obtain ⟨rfl, hP, hK, hD0⟩ := hv
  have hx := BB9.exec
  have hb := BB9.bytes
  have hr := BB9.returns
  have hts : ∀ w ∈ TT, w.before _ s = true := fun w h => atoms_spec (ws := (Cond.code ⟨"CutPointsModel", "between", "(II)I"⟩ prog_9_method_38_code 5 (some .int) :: TT)) BB9.pre w (List.mem_cons_of_mem _ h)
  have hown : s.vm.findClass "CutPointsModel" = some m.cls := findClass_of_methodNamed BB9.named
  have hlocks := BB9.notSynchronized
  have hD := hD0.mine
  have hS : va_S (ow [(o, .inr (7, [.int th, .int (nI nd), .int (nI ar), .ref fF, .ref fG, .ref fT, .ref fN, .ref fW, .int be, .ref fO, .ref fB, .int bz, .ref fS, .ref fD, .int sz])), (fF, .inl (cI, 41, .inl (nF F))), (fG, .inl (cI, 41, .inl (nF G))), (fT, .inl (cZ, 41, .inl (bF P))), (fN, .inl (cI, 14, .inl N0))]) s.heap s.heap [] := va_S.rf
  have hl := lv_entry ([.ref o, .int (nI a), .int (nI b)]) (n := 5) (Nat.le_of_ble_eq_true rfl)
  rw [lg_entry_eq]
  generalize (lg_sl ([.ref o, .int (nI a), .int (nI b)]) ++ List.replicate (5 - (lg_sl ([.ref o, .int (nI a), .int (nI b)])).length) Slot.unset).toArray = ls at hl ⊢
  have hl : lv_has ls 5 [(0, .ref o), (1, .int (nI a)), (2, .int (nI b))] := hl
  refine lv_aload_n hx hb d_MO_between_0 rfl (lv_at hl 0 rfl) ?_
  refine lv_iconst (v := (nI 0)) hx hb d_MO_between_1 (by decide) ?_
  refine va_put (D := (dC, dI)) (ci := 7) (v := .int (nI 0)) (ty := .int) (C := R_MO) (T := F_MO) (N := 15) hx hb hts in_MO t_MO t_MO_ok n_MO hown hK.1 hP hD hS 0 rfl rfl 0 (by decide) (hts _ wfl_MO_38) (fun _ h9 => h9) rfl (by decide +kernel) rfl rfl (Nat.le_of_ble_eq_true rfl) d_MO_between_2 (fun H locs hP hD hS => ?_)
  have hP : va_P (dC, dI) cls [(o, .inr (7, [.int (nI 0), .int (nI nd), .int (nI ar), .ref fF, .ref fG, .ref fT, .ref fN, .ref fW, .int be, .ref fO, .ref fB, .int bz, .ref fS, .ref fD, .int sz])), (fF, .inl (cI, 41, .inl (nF F))), (fG, .inl (cI, 41, .inl (nF G))), (fT, .inl (cZ, 41, .inl (bF P))), (fN, .inl (cI, 14, .inl N0))] H := hP
  have hD : va_D (ow [(o, .inr (7, [.int th, .int (nI nd), .int (nI ar), .ref fF, .ref fG, .ref fT, .ref fN, .ref fW, .int be, .ref fO, .ref fB, .int bz, .ref fS, .ref fD, .int sz])), (fF, .inl (cI, 41, .inl (nF F))), (fG, .inl (cI, 41, .inl (nF G))), (fT, .inl (cZ, 41, .inl (bF P))), (fN, .inl (cI, 14, .inl N0))]) [(o, .inr (7, [.int (nI 0), .int (nI nd), .int (nI ar), .ref fF, .ref fG, .ref fT, .ref fN, .ref fW, .int be, .ref fO, .ref fB, .int bz, .ref fS, .ref fD, .int sz])), (fF, .inl (cI, 41, .inl (nF F))), (fG, .inl (cI, 41, .inl (nF G))), (fT, .inl (cZ, 41, .inl (bF P))), (fN, .inl (cI, 14, .inl N0))] := hD
  refine lv_aload_n hx hb d_MO_between_5 rfl (lv_at hl 0 rfl) ?_
  refine lv_iload_n hx hb d_MO_between_6 rfl (lv_at hl 1 rfl) ?_
  refine vp_callSi (va_Run.run (k_V (n := 1) (C := R_MO) (rest := []) ⟨hx, hb, hml, hown, hts⟩ (c_MO_isNode l dC dI cI cJ cZ o fF fG fT fN fW fO fB fS fD (nI 0) be bz sz nd ar (nI a) (by first | assumption | omega)) wml_MO_52 wim_MO_isNode wsel_MO_isNode wini_MO wcode_MO_isNode (by decide +kernel) ⟨Nat.le_of_ble_eq_true rfl, Nat.le_of_ble_eq_true rfl⟩ (preV_R (q := (R_MO, F_MO, 15)) (ci := 7) (q0 := 0) (hP.sub (ws' := [(o, .inr (7, [.int (nI 0), .int (nI nd), .int (nI ar), .ref fF, .ref fG, .ref fT, .ref fN, .ref fW, .int be, .ref fO, .ref fB, .int bz, .ref fS, .ref fD, .int sz]))]) [0] rfl) hK rfl rfl) rfl hl.1 rfl (Nat.le_of_ble_eq_true rfl) d_MO_between_7 ⟨Nat.zero_le _, Nat.zero_le _⟩)) (fun r_1 hr_2 => ?_)
  refine xe_i (y := (bI (vd (nI a) nd))) hr_2 ?_
  refine xe_i (y := (bI true)) (by rw [vd_tt (by omega) ha]) ?_
  refine lv_if_eq (tgt := 21) hx hb d_MO_between_10 (by decide) (fun c9 => absurd c9 (by decide : ¬ ((bI true) : Int32) = 0)) (fun _ => ?_)
  refine lv_aload_n hx hb d_MO_between_13 rfl (lv_at hl 0 rfl) ?_
  refine lv_iload_n hx hb d_MO_between_14 rfl (lv_at hl 2 rfl) ?_
  refine vp_callSi (va_Run.run (k_V (n := 1) (C := R_MO) (rest := []) ⟨hx, hb, hml, hown, hts⟩ (c_MO_isNode l dC dI cI cJ cZ o fF fG fT fN fW fO fB fS fD (nI 0) be bz sz nd ar (nI b) (by first | assumption | omega)) wml_MO_52 wim_MO_isNode wsel_MO_isNode wini_MO wcode_MO_isNode (by decide +kernel) ⟨Nat.le_of_ble_eq_true rfl, Nat.le_of_ble_eq_true rfl⟩ (preV_R (q := (R_MO, F_MO, 15)) (ci := 7) (q0 := 0) (hP.sub (ws' := [(o, .inr (7, [.int (nI 0), .int (nI nd), .int (nI ar), .ref fF, .ref fG, .ref fT, .ref fN, .ref fW, .int be, .ref fO, .ref fB, .int bz, .ref fS, .ref fD, .int sz]))]) [0] rfl) hK rfl rfl) rfl hl.1 rfl (Nat.le_of_ble_eq_true rfl) d_MO_between_15 ⟨Nat.zero_le _, Nat.zero_le _⟩)) (fun r_4 hr_5 => ?_)
  refine xe_i (y := (bI (vd (nI b) nd))) hr_5 ?_
  refine xe_i (y := (bI true)) (by rw [vd_tt (by omega) hb_]) ?_
  refine lv_if_ne (tgt := 23) hx hb d_MO_between_18 (by decide) (fun _ => ?_) (fun c9 => absurd c9 (by decide : ¬ ((bI true) : Int32) = 0))
  refine lv_iload_n hx hb d_MO_between_23 rfl (lv_at hl 1 rfl) ?_
  refine lv_iload_n hx hb d_MO_between_24 rfl (lv_at hl 2 rfl) ?_
  refine x_cmp_eq (a := a) (b := b) (tgt := 38) hx hb (by omega) (by omega) d_MO_between_25 (by decide) (fun c_7 => ?_) (fun c_7 => ?_)
  · skip
    exact absurd c_7 hab
  · skip
    refine lv_aload_n hx hb d_MO_between_28 rfl (lv_at hl 0 rfl) ?_
    refine lv_iload_n hx hb d_MO_between_29 rfl (lv_at hl 1 rfl) ?_
    refine lv_iload_n hx hb d_MO_between_30 rfl (lv_at hl 2 rfl) ?_
    refine lv_iconst (v := (nI 0)) hx hb d_MO_between_31 (by decide) ?_
    refine x_ci (k_V (n := 3) (C := R_MO) (rest := []) ⟨hx, hb, hml, hown, hts⟩ (c_MO_arePartedBy l dC dI cI cJ cZ o fF fG fT fN fW fO fB fS fD (nI 0) be bz sz nd ar F G P hF hG (by first | assumption | omega) (by first | assumption | omega) hM N0 a b (nI 0) (by first | assumption | omega) (by first | assumption | omega)) wml_MO_122 wim_MO_arePartedBy wsel_MO_arePartedBy wini_MO wcode_MO_arePartedBy (by decide +kernel) ⟨Nat.le_of_ble_eq_true rfl, Nat.le_of_ble_eq_true rfl⟩ (preV_M (q := (R_MO, F_MO, 15)) (ci := 7) (q0 := 0) (hP.sub (ws' := [(o, .inr (7, [.int (nI 0), .int (nI nd), .int (nI ar), .ref fF, .ref fG, .ref fT, .ref fN, .ref fW, .int be, .ref fO, .ref fB, .int bz, .ref fS, .ref fD, .int sz])), (fF, .inl (cI, 41, .inl (nF F))), (fG, .inl (cI, 41, .inl (nF G))), (fT, .inl (cZ, 41, .inl (bF P))), (fN, .inl (cI, 14, .inl N0))]) [0, 1, 2, 3, 4] rfl) hK (hD.sub (ws' := [(o, .inr (7, [.int (nI 0), .int (nI nd), .int (nI ar), .ref fF, .ref fG, .ref fT, .ref fN, .ref fW, .int be, .ref fO, .ref fB, .int bz, .ref fS, .ref fD, .int sz])), (fF, .inl (cI, 41, .inl (nF F))), (fG, .inl (cI, 41, .inl (nF G))), (fT, .inl (cZ, 41, .inl (bF P))), (fN, .inl (cI, 14, .inl N0))]) [0, 1, 2, 3, 4] (by decide) rfl) rfl rfl) rfl hl.1 rfl (Nat.le_of_ble_eq_true rfl) d_MO_between_32 ⟨Nat.zero_le _, Nat.zero_le _⟩) hP hD hS [0, 1, 2, 3, 4] rfl (fun _ => rfl) (fun r_8 u_8 H locs hu_8 hP hS => ?_)
    obtain ⟨N9_8, rfl⟩ : ∃ z, z = u_8 := ⟨_, rfl⟩
    have hP : va_P (dC, dI) cls [(o, .inr (7, [.int (nI 0), .int (nI nd), .int (nI ar), .ref fF, .ref fG, .ref fT, .ref fN, .ref fW, .int be, .ref fO, .ref fB, .int bz, .ref fS, .ref fD, .int sz])), (fF, .inl (cI, 41, .inl (nF F))), (fG, .inl (cI, 41, .inl (nF G))), (fT, .inl (cZ, 41, .inl (bF P))), (fN, .inl (cI, 14, .inl N9_8))] H := hP
    have hD := hD.addr (ws' := [(o, .inr (7, [.int (nI 0), .int (nI nd), .int (nI ar), .ref fF, .ref fG, .ref fT, .ref fN, .ref fW, .int be, .ref fO, .ref fB, .int bz, .ref fS, .ref fD, .int sz])), (fF, .inl (cI, 41, .inl (nF F))), (fG, .inl (cI, 41, .inl (nF G))), (fT, .inl (cZ, 41, .inl (bF P))), (fN, .inl (cI, 14, .inl N9_8))]) rfl
    refine xe_i (y := (bI (!dc (Rc (ad (lkT ar 0 P (-1) (-1) (nI 0) F G) F G) a b)))) hu_8 ?_
    refine x_if_eq (tgt := 41) hx hb d_MO_between_35 (by decide) (fun c_9 => ?_) (fun c_9 => ?_)
    · skip
      refine lv_iconst (v := (nI 0)) hx hb d_MO_between_41 (by decide) ?_
      refine lv_istore_n (lv' := [(3, .int (nI 0)), (0, .ref o), (1, .int (nI a)), (2, .int (nI b))]) hx hb d_MO_between_42 rfl hl (by decide) rfl (fun ls hl => ?_)
      refine lv_iconst (v := (nI 0)) hx hb d_MO_between_43 (by decide) ?_
      refine lv_istore (lv' := [(4, .int (nI 0)), (3, .int (nI 0)), (0, .ref o), (1, .int (nI a)), (2, .int (nI b))]) hx hb d_MO_between_44 hl (by decide) rfl (fun ls hl => ?_)
      have L46_10 : ∀ (n : Nat) (N2 : Nat → Int32) (q : Nat) (i : Nat) (hn : nd - i < n) (hi : i ≤ nd) (hq : q = cn (bmB ar P F G a b) i) (H : Heap) (locs : List Loc) (hP : va_P (dC, dI) cls [(o, .inr (7, [.int (nI 0), .int (nI nd), .int (nI ar), .ref fF, .ref fG, .ref fT, .ref fN, .ref fW, .int be, .ref fO, .ref fB, .int bz, .ref fS, .ref fD, .int sz])), (fF, .inl (cI, 41, .inl (nF F))), (fG, .inl (cI, 41, .inl (nF G))), (fT, .inl (cZ, 41, .inl (bF P))), (fN, .inl (cI, 14, .inl N2))] H) (hD : va_D (ow [(o, .inr (7, [.int th, .int (nI nd), .int (nI ar), .ref fF, .ref fG, .ref fT, .ref fN, .ref fW, .int be, .ref fO, .ref fB, .int bz, .ref fS, .ref fD, .int sz])), (fF, .inl (cI, 41, .inl (nF F))), (fG, .inl (cI, 41, .inl (nF G))), (fT, .inl (cZ, 41, .inl (bF P))), (fN, .inl (cI, 14, .inl N0))]) [(o, .inr (7, [.int (nI 0), .int (nI nd), .int (nI ar), .ref fF, .ref fG, .ref fT, .ref fN, .ref fW, .int be, .ref fO, .ref fB, .int bz, .ref fS, .ref fD, .int sz])), (fF, .inl (cI, 41, .inl (nF F))), (fG, .inl (cI, 41, .inl (nF G))), (fT, .inl (cZ, 41, .inl (bF P))), (fN, .inl (cI, 14, .inl N2))]) (hS : va_S (ow [(o, .inr (7, [.int th, .int (nI nd), .int (nI ar), .ref fF, .ref fG, .ref fT, .ref fN, .ref fW, .int be, .ref fO, .ref fB, .int bz, .ref fS, .ref fD, .int sz])), (fF, .inl (cI, 41, .inl (nF F))), (fG, .inl (cI, 41, .inl (nF G))), (fT, .inl (cZ, 41, .inl (bF P))), (fN, .inl (cI, 14, .inl N0))]) s.heap H locs) (ls : Array Slot) (hl : lv_has ls 5 [(0, .ref o), (1, .int (nI a)), (2, .int (nI b)), (3, .int (nI q)), (4, .int (nI i))]), W p l e (headSpec (Cond.code ⟨"CutPointsModel", "between", "(II)I"⟩ prog_9_method_38_code 5 (some .int) :: TT) (rmk 2 50)).room s m ([.ref o, .int (nI a), .int (nI b)] : List Value).toArray below meth c H locs 0 0 (MQ below (va_Qi (S := Nat → Int32) (fun r u9 => r = nI (cn (bmB ar P F G a b) nd)) (fun u9 t9 => va_P (dC, dI) cls ([(o, .inr (7, [.int (nI 0), .int (nI nd), .int (nI ar), .ref fF, .ref fG, .ref fT, .ref fN, .ref fW, .int be, .ref fO, .ref fB, .int bz, .ref fS, .ref fD, .int sz])), (fF, .inl (cI, 41, .inl (nF F))), (fG, .inl (cI, 41, .inl (nF G))), (fT, .inl (cZ, 41, .inl (bF P))), (fN, .inl (cI, 14, .inl u9))]) t9.heap) (ow [(o, .inr (7, [.int th, .int (nI nd), .int (nI ar), .ref fF, .ref fG, .ref fT, .ref fN, .ref fW, .int be, .ref fO, .ref fB, .int bz, .ref fS, .ref fD, .int sz])), (fF, .inl (cI, 41, .inl (nF F))), (fG, .inl (cI, 41, .inl (nF G))), (fT, .inl (cZ, 41, .inl (bF P))), (fN, .inl (cI, 14, .inl N0))])) ([.ref o, .int (nI a), .int (nI b)] : List Value).toArray s 0 0 (ow [(o, .inr (7, [.int th, .int (nI nd), .int (nI ar), .ref fF, .ref fG, .ref fT, .ref fN, .ref fW, .int be, .ref fO, .ref fB, .int bz, .ref fS, .ref fD, .int sz])), (fF, .inl (cI, 41, .inl (nF F))), (fG, .inl (cI, 41, .inl (nF G))), (fT, .inl (cZ, 41, .inl (bF P))), (fN, .inl (cI, 14, .inl N0))])) (F0 m 46 ls []) := by
        intro n_46
        induction n_46 with
        | zero =>
          intro N2 q i hn_46
          exact absurd hn_46 (Nat.not_lt_zero _)
        | succ n_46 ih_46 =>
          intro N2 q i hn_46 hi hq H locs hP hD hS ls hl
          refine lv_iload hx hb d_MO_between_46 (lv_at hl 4 rfl) ?_
          refine lv_aload_n hx hb d_MO_between_48 rfl (lv_at hl 0 rfl) ?_
          refine va_get (D := (dC, dI)) (ci := 7) (v := .int (nI nd)) (C := R_MO) (T := F_MO) (N := 15) hx hb hts in_MO hown hK.1 hP 0 rfl rfl 1 (by decide) (hts _ wfl_MO_42) (fun _ h9 => h9) rfl d_MO_between_49 ?_
          refine x_cmp_ge (a := i) (b := nd) (tgt := 94) hx hb (by omega) (by omega) d_MO_between_52 (by decide) (fun c_11 => ?_) (fun c_11 => ?_)
          · skip
            refine lv_iload_n hx hb d_MO_between_94 rfl (lv_at hl 3 rfl) ?_
            exact W.iret (v := (nI q)) hx hb hr (fun t9 ht9 _ => ⟨⟨_, (N2), rfl, (by have e9 : i = nd := (by omega); subst e9; rw [hq]), by show va_P (dC, dI) cls _ t9.heap; rw [ht9]; exact hP⟩, hS.F ht9⟩) hS.2.2 d_MO_between_95
          · skip
            refine lv_iload_n hx hb d_MO_between_55 rfl (lv_at hl 3 rfl) ?_
            refine lv_iload hx hb d_MO_between_56 (lv_at hl 4 rfl) ?_
            refine lv_iload_n hx hb d_MO_between_58 rfl (lv_at hl 1 rfl) ?_
            refine x_cmp_eq (a := i) (b := a) (tgt := 85) hx hb (by omega) (by omega) d_MO_between_59 (by decide) (fun c_12 => ?_) (fun c_12 => ?_)
            · skip
              refine lv_iconst (v := (nI 0)) hx hb d_MO_between_85 (by decide) ?_
              refine lv_iadd hx hb d_MO_between_86 ?_
              refine xe_i (nI_add _ _) ?_
              refine lv_istore_n (lv' := [(3, .int (nI (q + 0))), (0, .ref o), (1, .int (nI a)), (2, .int (nI b)), (4, .int (nI i))]) hx hb d_MO_between_87 rfl hl (by decide) rfl (fun ls hl => ?_)
              refine lv_iinc (v := (nI (i + 1))) (lv' := [(4, .int (nI (i + 1))), (3, .int (nI (q + 0))), (0, .ref o), (1, .int (nI a)), (2, .int (nI b))]) hx hb d_MO_between_88 hl (k := 4) rfl (nI_1 _) (by decide) rfl (fun ls hl => ?_)
              refine lv_goto (tgt := 46) hx hb d_MO_between_91 (by decide) ?_
              exact ih_46 N2 (q + 0) (i + 1) (by omega) (by first | assumption | omega) (show q + 0 = _ from cn_f hq (dc_f.mpr (fun z9 => z9.1 c_12))) _ _ hP hD hS ls (lv_sub hl [2, 3, 4, 1, 0] rfl)
            · skip
              refine lv_iload hx hb d_MO_between_62 (lv_at hl 4 rfl) ?_
              refine lv_iload_n hx hb d_MO_between_64 rfl (lv_at hl 2 rfl) ?_
              refine x_cmp_eq (a := i) (b := b) (tgt := 85) hx hb (by omega) (by omega) d_MO_between_65 (by decide) (fun c_13 => ?_) (fun c_13 => ?_)
              · skip
                refine lv_iconst (v := (nI 0)) hx hb d_MO_between_85 (by decide) ?_
                refine lv_iadd hx hb d_MO_between_86 ?_
                refine xe_i (nI_add _ _) ?_
                refine lv_istore_n (lv' := [(3, .int (nI (q + 0))), (0, .ref o), (1, .int (nI a)), (2, .int (nI b)), (4, .int (nI i))]) hx hb d_MO_between_87 rfl hl (by decide) rfl (fun ls hl => ?_)
                refine lv_iinc (v := (nI (i + 1))) (lv' := [(4, .int (nI (i + 1))), (3, .int (nI (q + 0))), (0, .ref o), (1, .int (nI a)), (2, .int (nI b))]) hx hb d_MO_between_88 hl (k := 4) rfl (nI_1 _) (by decide) rfl (fun ls hl => ?_)
                refine lv_goto (tgt := 46) hx hb d_MO_between_91 (by decide) ?_
                exact ih_46 N2 (q + 0) (i + 1) (by omega) (by first | assumption | omega) (show q + 0 = _ from cn_f hq (dc_f.mpr (fun z9 => z9.2.1 c_13))) _ _ hP hD hS ls (lv_sub hl [2, 3, 4, 1, 0] rfl)
              · skip
                refine lv_aload_n hx hb d_MO_between_68 rfl (lv_at hl 0 rfl) ?_
                refine lv_iload_n hx hb d_MO_between_69 rfl (lv_at hl 1 rfl) ?_
                refine lv_iload_n hx hb d_MO_between_70 rfl (lv_at hl 2 rfl) ?_
                refine lv_iconst (v := (nI 1)) hx hb d_MO_between_71 (by decide) ?_
                refine lv_iload hx hb d_MO_between_72 (lv_at hl 4 rfl) ?_
                refine lv_ishl hx hb d_MO_between_74 ?_
                refine xe_i (y := (sb i)) rfl ?_
                refine x_ci (k_V (n := 3) (C := R_MO) (rest := [.int (nI q)]) ⟨hx, hb, hml, hown, hts⟩ (c_MO_arePartedBy l dC dI cI cJ cZ o fF fG fT fN fW fO fB fS fD (nI 0) be bz sz nd ar F G P hF hG (by first | assumption | omega) (by first | assumption | omega) hM N2 a b (sb i) (by first | assumption | omega) (by first | assumption | omega)) wml_MO_122 wim_MO_arePartedBy wsel_MO_arePartedBy wini_MO wcode_MO_arePartedBy (by decide +kernel) ⟨Nat.le_of_ble_eq_true rfl, Nat.le_of_ble_eq_true rfl⟩ (preV_M (q := (R_MO, F_MO, 15)) (ci := 7) (q0 := 0) (hP.sub (ws' := [(o, .inr (7, [.int (nI 0), .int (nI nd), .int (nI ar), .ref fF, .ref fG, .ref fT, .ref fN, .ref fW, .int be, .ref fO, .ref fB, .int bz, .ref fS, .ref fD, .int sz])), (fF, .inl (cI, 41, .inl (nF F))), (fG, .inl (cI, 41, .inl (nF G))), (fT, .inl (cZ, 41, .inl (bF P))), (fN, .inl (cI, 14, .inl N2))]) [0, 1, 2, 3, 4] rfl) hK (hD.sub (ws' := [(o, .inr (7, [.int (nI 0), .int (nI nd), .int (nI ar), .ref fF, .ref fG, .ref fT, .ref fN, .ref fW, .int be, .ref fO, .ref fB, .int bz, .ref fS, .ref fD, .int sz])), (fF, .inl (cI, 41, .inl (nF F))), (fG, .inl (cI, 41, .inl (nF G))), (fT, .inl (cZ, 41, .inl (bF P))), (fN, .inl (cI, 14, .inl N2))]) [0, 1, 2, 3, 4] (by decide) rfl) rfl rfl) rfl hl.1 rfl (Nat.le_of_ble_eq_true rfl) d_MO_between_75 ⟨Nat.zero_le _, Nat.zero_le _⟩) hP hD hS [0, 1, 2, 3, 4] rfl (fun _ => rfl) (fun r_14 u_14 H locs hu_14 hP hS => ?_)
                obtain ⟨N9_14, rfl⟩ : ∃ z, z = u_14 := ⟨_, rfl⟩
                have hP : va_P (dC, dI) cls [(o, .inr (7, [.int (nI 0), .int (nI nd), .int (nI ar), .ref fF, .ref fG, .ref fT, .ref fN, .ref fW, .int be, .ref fO, .ref fB, .int bz, .ref fS, .ref fD, .int sz])), (fF, .inl (cI, 41, .inl (nF F))), (fG, .inl (cI, 41, .inl (nF G))), (fT, .inl (cZ, 41, .inl (bF P))), (fN, .inl (cI, 14, .inl N9_14))] H := hP
                have hD := hD.addr (ws' := [(o, .inr (7, [.int (nI 0), .int (nI nd), .int (nI ar), .ref fF, .ref fG, .ref fT, .ref fN, .ref fW, .int be, .ref fO, .ref fB, .int bz, .ref fS, .ref fD, .int sz])), (fF, .inl (cI, 41, .inl (nF F))), (fG, .inl (cI, 41, .inl (nF G))), (fT, .inl (cZ, 41, .inl (bF P))), (fN, .inl (cI, 14, .inl N9_14))]) rfl
                refine xe_i (y := (bI (!dc (Rc (ad (lkT ar 0 P (-1) (-1) (sb i) F G) F G) a b)))) hu_14 ?_
                refine x_if_eq (tgt := 85) hx hb d_MO_between_78 (by decide) (fun c_15 => ?_) (fun c_15 => ?_)
                · skip
                  refine lv_iconst (v := (nI 0)) hx hb d_MO_between_85 (by decide) ?_
                  refine lv_iadd hx hb d_MO_between_86 ?_
                  refine xe_i (nI_add _ _) ?_
                  refine lv_istore_n (lv' := [(3, .int (nI (q + 0))), (0, .ref o), (1, .int (nI a)), (2, .int (nI b)), (4, .int (nI i))]) hx hb d_MO_between_87 rfl hl (by decide) rfl (fun ls hl => ?_)
                  refine lv_iinc (v := (nI (i + 1))) (lv' := [(4, .int (nI (i + 1))), (3, .int (nI (q + 0))), (0, .ref o), (1, .int (nI a)), (2, .int (nI b))]) hx hb d_MO_between_88 hl (k := 4) rfl (nI_1 _) (by decide) rfl (fun ls hl => ?_)
                  refine lv_goto (tgt := 46) hx hb d_MO_between_91 (by decide) ?_
                  exact ih_46 N9_14 (q + 0) (i + 1) (by omega) (by first | assumption | omega) (show q + 0 = _ from cn_f hq (dc_f.mpr (fun z9 => by have y9 := c_15; rw [Bool.not_eq_false'] at y9; exact z9.2.2 (dc_t.mp y9)))) _ _ hP hD hS ls (lv_sub hl [2, 3, 4, 1, 0] rfl)
                · skip
                  refine lv_iconst (v := (nI 1)) hx hb d_MO_between_81 (by decide) ?_
                  refine lv_goto (tgt := 86) hx hb d_MO_between_82 (by decide) ?_
                  refine lv_iadd hx hb d_MO_between_86 ?_
                  refine xe_i (nI_add _ _) ?_
                  refine lv_istore_n (lv' := [(3, .int (nI (q + 1))), (0, .ref o), (1, .int (nI a)), (2, .int (nI b)), (4, .int (nI i))]) hx hb d_MO_between_87 rfl hl (by decide) rfl (fun ls hl => ?_)
                  refine lv_iinc (v := (nI (i + 1))) (lv' := [(4, .int (nI (i + 1))), (3, .int (nI (q + 1))), (0, .ref o), (1, .int (nI a)), (2, .int (nI b))]) hx hb d_MO_between_88 hl (k := 4) rfl (nI_1 _) (by decide) rfl (fun ls hl => ?_)
                  refine lv_goto (tgt := 46) hx hb d_MO_between_91 (by decide) ?_
                  exact ih_46 N9_14 (q + 1) (i + 1) (by omega) (by first | assumption | omega) (cn_t hq (dc_t.mpr ⟨c_12, c_13, by have y9 := c_15; rw [Bool.not_eq_true'] at y9; exact dc_f.mp y9⟩)) _ _ hP hD hS ls (lv_sub hl [2, 3, 4, 1, 0] rfl)
      exact L46_10 ((nd - 0) + 1) N9_8 0 0 (Nat.lt_succ_self _) (by first | assumption | omega) rfl _ _ hP hD hS ls (lv_sub hl [2, 3, 4, 1, 0] rfl)
    · skip
      have y9 := c_9; rw [Bool.not_eq_true'] at y9; exact absurd hnp (dc_f.mp y9)

set_option maxHeartbeats 4000000 in
set_option maxRecDepth 100000 in
theorem c_MO_mends_k (l : Launch) (dC : Nat → ClassId) (dI : Nat → Nat → Nat) (cI cJ cZ : ClassId) (o fF fG fT fN fW fO fB fS fD : Nat) (th be bz sz : Int32) (nd ar : Nat) (F G : Nat → Nat) (P : Nat → Bool) (hF : ∀ k, F k < 14) (hG : ∀ k, G k < 14) (hnd : nd ≤ 14) (har : ar ≤ 40) (hM : ∀ e, e < ar → F e < nd ∧ G e < nd) (W0 : Nat → Int32) (N0 : Nat → Int32) (a b : Nat) (ha : a < nd) (hb_ : b < nd) (hab : a ≠ b) : Met l ⟨"CutPointsModel", "mends", "(II)I"⟩ (Cond.code ⟨"CutPointsModel", "mends", "(II)I"⟩ prog_9_method_39_code 4 (some .int) :: TT) (rmk 3 75) (PM dC dI cI cJ cZ [.ref o, .int (nI a), .int (nI b)] [(o, .inr (7, [.int th, .int (nI nd), .int (nI ar), .ref fF, .ref fG, .ref fT, .ref fN, .ref fW, .int be, .ref fO, .ref fB, .int bz, .ref fS, .ref fD, .int sz])), (fF, .inl (cI, 41, .inl (nF F))), (fG, .inl (cI, 41, .inl (nF G))), (fT, .inl (cZ, 41, .inl (bF P))), (fN, .inl (cI, 14, .inl N0)), (fW, .inl (cI, 14, .inl W0))]) (va_Qi (S := (Nat → Int32) × (Nat → Int32)) (fun r u9 => ∃ v0 v1, neM ar 0 nd P F G v0 ∧ neM ar 1 nd P (va_up F ar a) (va_up G ar b) v1 ∧ r = bI (decide (v1 < v0))) (fun u9 t9 => va_P (dC, dI) cls ([(o, .inr (7, [.int (nI 0), .int (nI nd), .int (nI ar), .ref fF, .ref fG, .ref fT, .ref fN, .ref fW, .int be, .ref fO, .ref fB, .int bz, .ref fS, .ref fD, .int sz])), (fF, .inl (cI, 41, .inl (nF (va_up F ar a)))), (fG, .inl (cI, 41, .inl (nF (va_up G ar b)))), (fT, .inl (cZ, 41, .inl (bF P))), (fN, .inl (cI, 14, .inl u9.1)), (fW, .inl (cI, 14, .inl u9.2))]) t9.heap) (ow [(o, .inr (7, [.int th, .int (nI nd), .int (nI ar), .ref fF, .ref fG, .ref fT, .ref fN, .ref fW, .int be, .ref fO, .ref fB, .int bz, .ref fS, .ref fD, .int sz])), (fF, .inl (cI, 41, .inl (nF F))), (fG, .inl (cI, 41, .inl (nF G))), (fT, .inl (cZ, 41, .inl (bF P))), (fN, .inl (cI, 14, .inl N0)), (fW, .inl (cI, 14, .inl W0))])) 0 0 (ow [(o, .inr (7, [.int th, .int (nI nd), .int (nI ar), .ref fF, .ref fG, .ref fT, .ref fN, .ref fW, .int be, .ref fO, .ref fB, .int bz, .ref fS, .ref fD, .int sz])), (fF, .inl (cI, 41, .inl (nF F))), (fG, .inl (cI, 41, .inl (nF G))), (fT, .inl (cZ, 41, .inl (bF P))), (fN, .inl (cI, 14, .inl N0)), (fW, .inl (cI, 14, .inl W0))]) := by
  refine Met.ofW (cc := prog_9_method_39_code) (maxL := 4) (ret := (some .int)) (by decide) rfl ?_
  intro p e s m args below meth c s₁ BB9 hml hv
  obtain ⟨rfl, hP, hK, hD0⟩ := hv
  have hx := BB9.exec
  have hb := BB9.bytes
  have hr := BB9.returns
  have hts : ∀ w ∈ TT, w.before _ s = true := fun w h => atoms_spec (ws := (Cond.code ⟨"CutPointsModel", "mends", "(II)I"⟩ prog_9_method_39_code 4 (some .int) :: TT)) BB9.pre w (List.mem_cons_of_mem _ h)
  have hown : s.vm.findClass "CutPointsModel" = some m.cls := findClass_of_methodNamed BB9.named
  have hlocks := BB9.notSynchronized
  have hD := hD0.mine
  have hS : va_S (ow [(o, .inr (7, [.int th, .int (nI nd), .int (nI ar), .ref fF, .ref fG, .ref fT, .ref fN, .ref fW, .int be, .ref fO, .ref fB, .int bz, .ref fS, .ref fD, .int sz])), (fF, .inl (cI, 41, .inl (nF F))), (fG, .inl (cI, 41, .inl (nF G))), (fT, .inl (cZ, 41, .inl (bF P))), (fN, .inl (cI, 14, .inl N0)), (fW, .inl (cI, 14, .inl W0))]) s.heap s.heap [] := va_S.rf
  have hl := lv_entry ([.ref o, .int (nI a), .int (nI b)]) (n := 4) (Nat.le_of_ble_eq_true rfl)
  rw [lg_entry_eq]
  generalize (lg_sl ([.ref o, .int (nI a), .int (nI b)]) ++ List.replicate (4 - (lg_sl ([.ref o, .int (nI a), .int (nI b)])).length) Slot.unset).toArray = ls at hl ⊢
  have hl : lv_has ls 4 [(0, .ref o), (1, .int (nI a)), (2, .int (nI b))] := hl
  refine lv_aload_n hx hb d_MO_mends_0 rfl (lv_at hl 0 rfl) ?_
  refine lv_iconst (v := (nI 0)) hx hb d_MO_mends_1 (by decide) ?_
  refine va_put (D := (dC, dI)) (ci := 7) (v := .int (nI 0)) (ty := .int) (C := R_MO) (T := F_MO) (N := 15) hx hb hts in_MO t_MO t_MO_ok n_MO hown hK.1 hP hD hS 0 rfl rfl 0 (by decide) (hts _ wfl_MO_38) (fun _ h9 => h9) rfl (by decide +kernel) rfl rfl (Nat.le_of_ble_eq_true rfl) d_MO_mends_2 (fun H locs hP hD hS => ?_)
  have hP : va_P (dC, dI) cls [(o, .inr (7, [.int (nI 0), .int (nI nd), .int (nI ar), .ref fF, .ref fG, .ref fT, .ref fN, .ref fW, .int be, .ref fO, .ref fB, .int bz, .ref fS, .ref fD, .int sz])), (fF, .inl (cI, 41, .inl (nF F))), (fG, .inl (cI, 41, .inl (nF G))), (fT, .inl (cZ, 41, .inl (bF P))), (fN, .inl (cI, 14, .inl N0)), (fW, .inl (cI, 14, .inl W0))] H := hP
  have hD : va_D (ow [(o, .inr (7, [.int th, .int (nI nd), .int (nI ar), .ref fF, .ref fG, .ref fT, .ref fN, .ref fW, .int be, .ref fO, .ref fB, .int bz, .ref fS, .ref fD, .int sz])), (fF, .inl (cI, 41, .inl (nF F))), (fG, .inl (cI, 41, .inl (nF G))), (fT, .inl (cZ, 41, .inl (bF P))), (fN, .inl (cI, 14, .inl N0)), (fW, .inl (cI, 14, .inl W0))]) [(o, .inr (7, [.int (nI 0), .int (nI nd), .int (nI ar), .ref fF, .ref fG, .ref fT, .ref fN, .ref fW, .int be, .ref fO, .ref fB, .int bz, .ref fS, .ref fD, .int sz])), (fF, .inl (cI, 41, .inl (nF F))), (fG, .inl (cI, 41, .inl (nF G))), (fT, .inl (cZ, 41, .inl (bF P))), (fN, .inl (cI, 14, .inl N0)), (fW, .inl (cI, 14, .inl W0))] := hD
  refine lv_aload_n hx hb d_MO_mends_5 rfl (lv_at hl 0 rfl) ?_
  refine lv_iload_n hx hb d_MO_mends_6 rfl (lv_at hl 1 rfl) ?_
  refine vp_callSi (va_Run.run (k_V (n := 1) (C := R_MO) (rest := []) ⟨hx, hb, hml, hown, hts⟩ (c_MO_isNode l dC dI cI cJ cZ o fF fG fT fN fW fO fB fS fD (nI 0) be bz sz nd ar (nI a) (by first | assumption | omega)) wml_MO_52 wim_MO_isNode wsel_MO_isNode wini_MO wcode_MO_isNode (by decide +kernel) ⟨Nat.le_of_ble_eq_true rfl, Nat.le_of_ble_eq_true rfl⟩ (preV_R (q := (R_MO, F_MO, 15)) (ci := 7) (q0 := 0) (hP.sub (ws' := [(o, .inr (7, [.int (nI 0), .int (nI nd), .int (nI ar), .ref fF, .ref fG, .ref fT, .ref fN, .ref fW, .int be, .ref fO, .ref fB, .int bz, .ref fS, .ref fD, .int sz]))]) [0] rfl) hK rfl rfl) rfl hl.1 rfl (Nat.le_of_ble_eq_true rfl) d_MO_mends_7 ⟨Nat.zero_le _, Nat.zero_le _⟩)) (fun r_1 hr_2 => ?_)
  refine xe_i (y := (bI (vd (nI a) nd))) hr_2 ?_
  refine xe_i (y := (bI true)) (by rw [vd_tt (by omega) ha]) ?_
  refine lv_if_eq (tgt := 21) hx hb d_MO_mends_10 (by decide) (fun c9 => absurd c9 (by decide : ¬ ((bI true) : Int32) = 0)) (fun _ => ?_)
  refine lv_aload_n hx hb d_MO_mends_13 rfl (lv_at hl 0 rfl) ?_
  refine lv_iload_n hx hb d_MO_mends_14 rfl (lv_at hl 2 rfl) ?_
  refine vp_callSi (va_Run.run (k_V (n := 1) (C := R_MO) (rest := []) ⟨hx, hb, hml, hown, hts⟩ (c_MO_isNode l dC dI cI cJ cZ o fF fG fT fN fW fO fB fS fD (nI 0) be bz sz nd ar (nI b) (by first | assumption | omega)) wml_MO_52 wim_MO_isNode wsel_MO_isNode wini_MO wcode_MO_isNode (by decide +kernel) ⟨Nat.le_of_ble_eq_true rfl, Nat.le_of_ble_eq_true rfl⟩ (preV_R (q := (R_MO, F_MO, 15)) (ci := 7) (q0 := 0) (hP.sub (ws' := [(o, .inr (7, [.int (nI 0), .int (nI nd), .int (nI ar), .ref fF, .ref fG, .ref fT, .ref fN, .ref fW, .int be, .ref fO, .ref fB, .int bz, .ref fS, .ref fD, .int sz]))]) [0] rfl) hK rfl rfl) rfl hl.1 rfl (Nat.le_of_ble_eq_true rfl) d_MO_mends_15 ⟨Nat.zero_le _, Nat.zero_le _⟩)) (fun r_4 hr_5 => ?_)
  refine xe_i (y := (bI (vd (nI b) nd))) hr_5 ?_
  refine xe_i (y := (bI true)) (by rw [vd_tt (by omega) hb_]) ?_
  refine lv_if_ne (tgt := 23) hx hb d_MO_mends_18 (by decide) (fun _ => ?_) (fun c9 => absurd c9 (by decide : ¬ ((bI true) : Int32) = 0))
  refine lv_iload_n hx hb d_MO_mends_23 rfl (lv_at hl 1 rfl) ?_
  refine lv_iload_n hx hb d_MO_mends_24 rfl (lv_at hl 2 rfl) ?_
  refine x_cmp_ne (a := a) (b := b) (tgt := 31) hx hb (by omega) (by omega) d_MO_mends_25 (by decide) (fun c_7 => ?_) (fun c_7 => ?_)
  · skip
    refine lv_aload_n hx hb d_MO_mends_31 rfl (lv_at hl 0 rfl) ?_
    refine lv_iconst (v := (nI 0)) hx hb d_MO_mends_32 (by decide) ?_
    refine x_ci (k_V (n := 1) (C := R_MO) (rest := []) ⟨hx, hb, hml, hown, hts⟩ (c_MO_neededWith l dC dI cI cJ cZ o fF fG fT fN fW fO fB fS fD (nI 0) be bz sz nd ar F G P hF hG (by first | assumption | omega) (by first | assumption | omega) 0 (by first | assumption | omega) hM N0 W0) wml_MO_107 wim_MO_neededWith wsel_MO_neededWith wini_MO wcode_MO_neededWith (by decide +kernel) ⟨Nat.le_of_ble_eq_true rfl, Nat.le_of_ble_eq_true rfl⟩ (preV_M (q := (R_MO, F_MO, 15)) (ci := 7) (q0 := 0) (hP.sub (ws' := [(o, .inr (7, [.int (nI 0), .int (nI nd), .int (nI ar), .ref fF, .ref fG, .ref fT, .ref fN, .ref fW, .int be, .ref fO, .ref fB, .int bz, .ref fS, .ref fD, .int sz])), (fF, .inl (cI, 41, .inl (nF F))), (fG, .inl (cI, 41, .inl (nF G))), (fT, .inl (cZ, 41, .inl (bF P))), (fN, .inl (cI, 14, .inl N0)), (fW, .inl (cI, 14, .inl W0))]) [0, 1, 2, 3, 4, 5] rfl) hK (hD.sub (ws' := [(o, .inr (7, [.int (nI 0), .int (nI nd), .int (nI ar), .ref fF, .ref fG, .ref fT, .ref fN, .ref fW, .int be, .ref fO, .ref fB, .int bz, .ref fS, .ref fD, .int sz])), (fF, .inl (cI, 41, .inl (nF F))), (fG, .inl (cI, 41, .inl (nF G))), (fT, .inl (cZ, 41, .inl (bF P))), (fN, .inl (cI, 14, .inl N0)), (fW, .inl (cI, 14, .inl W0))]) [0, 1, 2, 3, 4, 5] (by decide) rfl) rfl rfl) rfl hl.1 rfl (Nat.le_of_ble_eq_true rfl) d_MO_mends_33 ⟨Nat.zero_le _, Nat.zero_le _⟩) hP hD hS [0, 1, 2, 3, 4, 5] rfl (fun _ => rfl) (fun r_8 u_8 H locs hu_8 hP hS => ?_)
    obtain ⟨N9_8, W9_8⟩ := u_8
    have hP : va_P (dC, dI) cls [(o, .inr (7, [.int (nI 0), .int (nI nd), .int (nI ar), .ref fF, .ref fG, .ref fT, .ref fN, .ref fW, .int be, .ref fO, .ref fB, .int bz, .ref fS, .ref fD, .int sz])), (fF, .inl (cI, 41, .inl (nF F))), (fG, .inl (cI, 41, .inl (nF G))), (fT, .inl (cZ, 41, .inl (bF P))), (fN, .inl (cI, 14, .inl N9_8)), (fW, .inl (cI, 14, .inl W9_8))] H := hP
    have hD := hD.addr (ws' := [(o, .inr (7, [.int (nI 0), .int (nI nd), .int (nI ar), .ref fF, .ref fG, .ref fT, .ref fN, .ref fW, .int be, .ref fO, .ref fB, .int bz, .ref fS, .ref fD, .int sz])), (fF, .inl (cI, 41, .inl (nF F))), (fG, .inl (cI, 41, .inl (nF G))), (fT, .inl (cZ, 41, .inl (bF P))), (fN, .inl (cI, 14, .inl N9_8)), (fW, .inl (cI, 14, .inl W9_8))]) rfl
    obtain ⟨kx_9, ek_9, hk_9⟩ := hu_8
    refine xe_i (y := (nI kx_9)) ek_9 ?_
    refine lv_istore_n (lv' := [(3, .int (nI kx_9)), (0, .ref o), (1, .int (nI a)), (2, .int (nI b))]) hx hb d_MO_mends_36 rfl hl (by decide) rfl (fun ls hl => ?_)
    refine lv_aload_n hx hb d_MO_mends_37 rfl (lv_at hl 1 rfl) ?_
    refine va_get (D := (dC, dI)) (ci := 7) (v := .ref fF) (C := R_MO) (T := F_MO) (N := 15) hx hb hts in_MO hown hK.1 hP 0 rfl rfl 3 (by decide) (hts _ wfl_MO_7) (fun _ h9 => h9) rfl d_MO_mends_38 ?_
    refine lv_aload_n hx hb d_MO_mends_41 rfl (lv_at hl 1 rfl) ?_
    refine va_get (D := (dC, dI)) (ci := 7) (v := .int (nI ar)) (C := R_MO) (T := F_MO) (N := 15) hx hb hts in_MO hown hK.1 hP 0 rfl rfl 2 (by decide) (hts _ wfl_MO_45) (fun _ h9 => h9) rfl d_MO_mends_42 ?_
    refine lv_iload_n hx hb d_MO_mends_45 rfl (lv_at hl 2 rfl) ?_
    refine x_iast (g := (nF (va_up F ar a))) hx hb hK.1 hP hD hS 1 0 rfl rfl (nF_up _ _ _) (by omega) (by omega) d_MO_mends_46 (fun H locs hP hD hS => ?_)
    have hP : va_P (dC, dI) cls [(o, .inr (7, [.int (nI 0), .int (nI nd), .int (nI ar), .ref fF, .ref fG, .ref fT, .ref fN, .ref fW, .int be, .ref fO, .ref fB, .int bz, .ref fS, .ref fD, .int sz])), (fF, .inl (cI, 41, .inl (nF (va_up F ar a)))), (fG, .inl (cI, 41, .inl (nF G))), (fT, .inl (cZ, 41, .inl (bF P))), (fN, .inl (cI, 14, .inl N9_8)), (fW, .inl (cI, 14, .inl W9_8))] H := hP
    have hD : va_D (ow [(o, .inr (7, [.int th, .int (nI nd), .int (nI ar), .ref fF, .ref fG, .ref fT, .ref fN, .ref fW, .int be, .ref fO, .ref fB, .int bz, .ref fS, .ref fD, .int sz])), (fF, .inl (cI, 41, .inl (nF F))), (fG, .inl (cI, 41, .inl (nF G))), (fT, .inl (cZ, 41, .inl (bF P))), (fN, .inl (cI, 14, .inl N0)), (fW, .inl (cI, 14, .inl W0))]) [(o, .inr (7, [.int (nI 0), .int (nI nd), .int (nI ar), .ref fF, .ref fG, .ref fT, .ref fN, .ref fW, .int be, .ref fO, .ref fB, .int bz, .ref fS, .ref fD, .int sz])), (fF, .inl (cI, 41, .inl (nF (va_up F ar a)))), (fG, .inl (cI, 41, .inl (nF G))), (fT, .inl (cZ, 41, .inl (bF P))), (fN, .inl (cI, 14, .inl N9_8)), (fW, .inl (cI, 14, .inl W9_8))] := hD
    refine lv_aload_n hx hb d_MO_mends_47 rfl (lv_at hl 1 rfl) ?_
    refine va_get (D := (dC, dI)) (ci := 7) (v := .ref fG) (C := R_MO) (T := F_MO) (N := 15) hx hb hts in_MO hown hK.1 hP 0 rfl rfl 4 (by decide) (hts _ wfl_MO_13) (fun _ h9 => h9) rfl d_MO_mends_48 ?_
    refine lv_aload_n hx hb d_MO_mends_51 rfl (lv_at hl 1 rfl) ?_
    refine va_get (D := (dC, dI)) (ci := 7) (v := .int (nI ar)) (C := R_MO) (T := F_MO) (N := 15) hx hb hts in_MO hown hK.1 hP 0 rfl rfl 2 (by decide) (hts _ wfl_MO_45) (fun _ h9 => h9) rfl d_MO_mends_52 ?_
    refine lv_iload_n hx hb d_MO_mends_55 rfl (lv_at hl 3 rfl) ?_
    refine x_iast (g := (nF (va_up G ar b))) hx hb hK.1 hP hD hS 2 0 rfl rfl (nF_up _ _ _) (by omega) (by omega) d_MO_mends_56 (fun H locs hP hD hS => ?_)
    have hP : va_P (dC, dI) cls [(o, .inr (7, [.int (nI 0), .int (nI nd), .int (nI ar), .ref fF, .ref fG, .ref fT, .ref fN, .ref fW, .int be, .ref fO, .ref fB, .int bz, .ref fS, .ref fD, .int sz])), (fF, .inl (cI, 41, .inl (nF (va_up F ar a)))), (fG, .inl (cI, 41, .inl (nF (va_up G ar b)))), (fT, .inl (cZ, 41, .inl (bF P))), (fN, .inl (cI, 14, .inl N9_8)), (fW, .inl (cI, 14, .inl W9_8))] H := hP
    have hD : va_D (ow [(o, .inr (7, [.int th, .int (nI nd), .int (nI ar), .ref fF, .ref fG, .ref fT, .ref fN, .ref fW, .int be, .ref fO, .ref fB, .int bz, .ref fS, .ref fD, .int sz])), (fF, .inl (cI, 41, .inl (nF F))), (fG, .inl (cI, 41, .inl (nF G))), (fT, .inl (cZ, 41, .inl (bF P))), (fN, .inl (cI, 14, .inl N0)), (fW, .inl (cI, 14, .inl W0))]) [(o, .inr (7, [.int (nI 0), .int (nI nd), .int (nI ar), .ref fF, .ref fG, .ref fT, .ref fN, .ref fW, .int be, .ref fO, .ref fB, .int bz, .ref fS, .ref fD, .int sz])), (fF, .inl (cI, 41, .inl (nF (va_up F ar a)))), (fG, .inl (cI, 41, .inl (nF (va_up G ar b)))), (fT, .inl (cZ, 41, .inl (bF P))), (fN, .inl (cI, 14, .inl N9_8)), (fW, .inl (cI, 14, .inl W9_8))] := hD
    refine lv_aload_n hx hb d_MO_mends_57 rfl (lv_at hl 1 rfl) ?_
    refine lv_iconst (v := (nI 1)) hx hb d_MO_mends_58 (by decide) ?_
    refine x_ci (k_V (n := 1) (C := R_MO) (rest := []) ⟨hx, hb, hml, hown, hts⟩ (c_MO_neededWith l dC dI cI cJ cZ o fF fG fT fN fW fO fB fS fD (nI 0) be bz sz nd ar (va_up F ar a) (va_up G ar b) P (upm_lt hF (by omega)) (upm_lt hG (by omega)) (by first | assumption | omega) (by first | assumption | omega) 1 (by first | assumption | omega) (up_M hM ha hb_) N9_8 W9_8) wml_MO_107 wim_MO_neededWith wsel_MO_neededWith wini_MO wcode_MO_neededWith (by decide +kernel) ⟨Nat.le_of_ble_eq_true rfl, Nat.le_of_ble_eq_true rfl⟩ (preV_M (q := (R_MO, F_MO, 15)) (ci := 7) (q0 := 0) (hP.sub (ws' := [(o, .inr (7, [.int (nI 0), .int (nI nd), .int (nI ar), .ref fF, .ref fG, .ref fT, .ref fN, .ref fW, .int be, .ref fO, .ref fB, .int bz, .ref fS, .ref fD, .int sz])), (fF, .inl (cI, 41, .inl (nF (va_up F ar a)))), (fG, .inl (cI, 41, .inl (nF (va_up G ar b)))), (fT, .inl (cZ, 41, .inl (bF P))), (fN, .inl (cI, 14, .inl N9_8)), (fW, .inl (cI, 14, .inl W9_8))]) [0, 1, 2, 3, 4, 5] rfl) hK (hD.sub (ws' := [(o, .inr (7, [.int (nI 0), .int (nI nd), .int (nI ar), .ref fF, .ref fG, .ref fT, .ref fN, .ref fW, .int be, .ref fO, .ref fB, .int bz, .ref fS, .ref fD, .int sz])), (fF, .inl (cI, 41, .inl (nF (va_up F ar a)))), (fG, .inl (cI, 41, .inl (nF (va_up G ar b)))), (fT, .inl (cZ, 41, .inl (bF P))), (fN, .inl (cI, 14, .inl N9_8)), (fW, .inl (cI, 14, .inl W9_8))]) [0, 1, 2, 3, 4, 5] (by decide) rfl) rfl rfl) rfl hl.1 rfl (Nat.le_of_ble_eq_true rfl) d_MO_mends_59 ⟨Nat.zero_le _, Nat.zero_le _⟩) hP hD hS [0, 1, 2, 3, 4, 5] rfl (fun _ => rfl) (fun r_10 u_10 H locs hu_10 hP hS => ?_)
    obtain ⟨N9_10, W9_10⟩ := u_10
    have hP : va_P (dC, dI) cls [(o, .inr (7, [.int (nI 0), .int (nI nd), .int (nI ar), .ref fF, .ref fG, .ref fT, .ref fN, .ref fW, .int be, .ref fO, .ref fB, .int bz, .ref fS, .ref fD, .int sz])), (fF, .inl (cI, 41, .inl (nF (va_up F ar a)))), (fG, .inl (cI, 41, .inl (nF (va_up G ar b)))), (fT, .inl (cZ, 41, .inl (bF P))), (fN, .inl (cI, 14, .inl N9_10)), (fW, .inl (cI, 14, .inl W9_10))] H := hP
    have hD := hD.addr (ws' := [(o, .inr (7, [.int (nI 0), .int (nI nd), .int (nI ar), .ref fF, .ref fG, .ref fT, .ref fN, .ref fW, .int be, .ref fO, .ref fB, .int bz, .ref fS, .ref fD, .int sz])), (fF, .inl (cI, 41, .inl (nF (va_up F ar a)))), (fG, .inl (cI, 41, .inl (nF (va_up G ar b)))), (fT, .inl (cZ, 41, .inl (bF P))), (fN, .inl (cI, 14, .inl N9_10)), (fW, .inl (cI, 14, .inl W9_10))]) rfl
    obtain ⟨kx_11, ek_11, hk_11⟩ := hu_10
    refine xe_i (y := (nI kx_11)) ek_11 ?_
    refine lv_iload_n hx hb d_MO_mends_62 rfl (lv_at hl 0 rfl) ?_
    refine x_cmp_ge (a := kx_11) (b := kx_9) (tgt := 70) hx hb (neM_lt hnd hk_11) (neM_lt hnd hk_9) d_MO_mends_63 (by decide) (fun c_12 => ?_) (fun c_12 => ?_)
    · skip
      refine lv_iconst (v := (nI 0)) hx hb d_MO_mends_70 (by decide) ?_
      exact W.iret (v := (nI 0)) hx hb hr (fun t9 ht9 _ => ⟨⟨_, (N9_10, W9_10), rfl, ⟨_, _, hk_9, hk_11, by rw [decide_eq_false (Nat.not_lt.mpr c_12)]; rfl⟩, by show va_P (dC, dI) cls _ t9.heap; rw [ht9]; exact hP⟩, hS.F ht9⟩) hS.2.2 d_MO_mends_71
    · skip
      refine lv_iconst (v := (nI 1)) hx hb d_MO_mends_66 (by decide) ?_
      refine lv_goto (tgt := 71) hx hb d_MO_mends_67 (by decide) ?_
      exact W.iret (v := (nI 1)) hx hb hr (fun t9 ht9 _ => ⟨⟨_, (N9_10, W9_10), rfl, ⟨_, _, hk_9, hk_11, by rw [decide_eq_true c_12]; rfl⟩, by show va_P (dC, dI) cls _ t9.heap; rw [ht9]; exact hP⟩, hS.F ht9⟩) hS.2.2 d_MO_mends_71
  · skip
    exact absurd c_7 hab

set_option maxHeartbeats 4000000 in
set_option maxRecDepth 100000 in
theorem c_MO_way_n (l : Launch) (dC : Nat → ClassId) (dI : Nat → Nat → Nat) (cI cJ cZ : ClassId) (o fF fG fT fN fW fO fB fS fD : Nat) (th be bz sz : Int32) (nd ar : Nat) (F G : Nat → Nat) (P : Nat → Bool) (hF : ∀ k, F k < 14) (hG : ∀ k, G k < 14) (hnd : nd ≤ 14) (har : ar ≤ 40) (hM : ∀ e, e < ar → F e < nd ∧ G e < nd) (N0 : Nat → Int32) (x : Nat) (hxa : x < ar) (hPx : P x = true) (hbr : ∀ pt, RcT (lkT ar 0 P (-1) (-1) (nI 0) F G) F G (sb (F x)) pt → hbR ar P F G pt) : Met l ⟨"CutPointsModel", "way", "(I)I"⟩ (Cond.code ⟨"CutPointsModel", "way", "(I)I"⟩ prog_9_method_42_code 5 (some .int) :: TT) (rmk 3 70) (PM dC dI cI cJ cZ [.ref o, .int (nI x)] [(o, .inr (7, [.int th, .int (nI nd), .int (nI ar), .ref fF, .ref fG, .ref fT, .ref fN, .ref fW, .int be, .ref fO, .ref fB, .int bz, .ref fS, .ref fD, .int sz])), (fF, .inl (cI, 41, .inl (nF F))), (fG, .inl (cI, 41, .inl (nF G))), (fT, .inl (cZ, 41, .inl (bF P))), (fN, .inl (cI, 14, .inl N0))]) (va_Qi (S := Nat → Int32) (fun r u9 => r = -3) (fun u9 t9 => va_P (dC, dI) cls ([(o, .inr (7, [.int (nI 0), .int (nI nd), .int (nI ar), .ref fF, .ref fG, .ref fT, .ref fN, .ref fW, .int be, .ref fO, .ref fB, .int bz, .ref fS, .ref fD, .int sz])), (fF, .inl (cI, 41, .inl (nF F))), (fG, .inl (cI, 41, .inl (nF G))), (fT, .inl (cZ, 41, .inl (bF P))), (fN, .inl (cI, 14, .inl u9))]) t9.heap) (ow [(o, .inr (7, [.int th, .int (nI nd), .int (nI ar), .ref fF, .ref fG, .ref fT, .ref fN, .ref fW, .int be, .ref fO, .ref fB, .int bz, .ref fS, .ref fD, .int sz])), (fF, .inl (cI, 41, .inl (nF F))), (fG, .inl (cI, 41, .inl (nF G))), (fT, .inl (cZ, 41, .inl (bF P))), (fN, .inl (cI, 14, .inl N0))])) 0 0 (ow [(o, .inr (7, [.int th, .int (nI nd), .int (nI ar), .ref fF, .ref fG, .ref fT, .ref fN, .ref fW, .int be, .ref fO, .ref fB, .int bz, .ref fS, .ref fD, .int sz])), (fF, .inl (cI, 41, .inl (nF F))), (fG, .inl (cI, 41, .inl (nF G))), (fT, .inl (cZ, 41, .inl (bF P))), (fN, .inl (cI, 14, .inl N0))]) := by
  refine Met.ofW (cc := prog_9_method_42_code) (maxL := 5) (ret := (some .int)) (by decide) rfl ?_
  intro p e s m args below meth c s₁ BB9 hml hv
  obtain ⟨rfl, hP, hK, hD0⟩ := hv
  have hx := BB9.exec
  have hb := BB9.bytes
  have hr := BB9.returns
  have hts : ∀ w ∈ TT, w.before _ s = true := fun w h => atoms_spec (ws := (Cond.code ⟨"CutPointsModel", "way", "(I)I"⟩ prog_9_method_42_code 5 (some .int) :: TT)) BB9.pre w (List.mem_cons_of_mem _ h)
  have hown : s.vm.findClass "CutPointsModel" = some m.cls := findClass_of_methodNamed BB9.named
  have hlocks := BB9.notSynchronized
  have hD := hD0.mine
  have hS : va_S (ow [(o, .inr (7, [.int th, .int (nI nd), .int (nI ar), .ref fF, .ref fG, .ref fT, .ref fN, .ref fW, .int be, .ref fO, .ref fB, .int bz, .ref fS, .ref fD, .int sz])), (fF, .inl (cI, 41, .inl (nF F))), (fG, .inl (cI, 41, .inl (nF G))), (fT, .inl (cZ, 41, .inl (bF P))), (fN, .inl (cI, 14, .inl N0))]) s.heap s.heap [] := va_S.rf
  have hl := lv_entry ([.ref o, .int (nI x)]) (n := 5) (Nat.le_of_ble_eq_true rfl)
  rw [lg_entry_eq]
  generalize (lg_sl ([.ref o, .int (nI x)]) ++ List.replicate (5 - (lg_sl ([.ref o, .int (nI x)])).length) Slot.unset).toArray = ls at hl ⊢
  have hl : lv_has ls 5 [(0, .ref o), (1, .int (nI x))] := hl
  refine lv_aload_n hx hb d_MO_way_0 rfl (lv_at hl 0 rfl) ?_
  refine lv_iconst (v := (nI 0)) hx hb d_MO_way_1 (by decide) ?_
  refine va_put (D := (dC, dI)) (ci := 7) (v := .int (nI 0)) (ty := .int) (C := R_MO) (T := F_MO) (N := 15) hx hb hts in_MO t_MO t_MO_ok n_MO hown hK.1 hP hD hS 0 rfl rfl 0 (by decide) (hts _ wfl_MO_38) (fun _ h9 => h9) rfl (by decide +kernel) rfl rfl (Nat.le_of_ble_eq_true rfl) d_MO_way_2 (fun H locs hP hD hS => ?_)
  have hP : va_P (dC, dI) cls [(o, .inr (7, [.int (nI 0), .int (nI nd), .int (nI ar), .ref fF, .ref fG, .ref fT, .ref fN, .ref fW, .int be, .ref fO, .ref fB, .int bz, .ref fS, .ref fD, .int sz])), (fF, .inl (cI, 41, .inl (nF F))), (fG, .inl (cI, 41, .inl (nF G))), (fT, .inl (cZ, 41, .inl (bF P))), (fN, .inl (cI, 14, .inl N0))] H := hP
  have hD : va_D (ow [(o, .inr (7, [.int th, .int (nI nd), .int (nI ar), .ref fF, .ref fG, .ref fT, .ref fN, .ref fW, .int be, .ref fO, .ref fB, .int bz, .ref fS, .ref fD, .int sz])), (fF, .inl (cI, 41, .inl (nF F))), (fG, .inl (cI, 41, .inl (nF G))), (fT, .inl (cZ, 41, .inl (bF P))), (fN, .inl (cI, 14, .inl N0))]) [(o, .inr (7, [.int (nI 0), .int (nI nd), .int (nI ar), .ref fF, .ref fG, .ref fT, .ref fN, .ref fW, .int be, .ref fO, .ref fB, .int bz, .ref fS, .ref fD, .int sz])), (fF, .inl (cI, 41, .inl (nF F))), (fG, .inl (cI, 41, .inl (nF G))), (fT, .inl (cZ, 41, .inl (bF P))), (fN, .inl (cI, 14, .inl N0))] := hD
  refine lv_aload_n hx hb d_MO_way_5 rfl (lv_at hl 0 rfl) ?_
  refine lv_iload_n hx hb d_MO_way_6 rfl (lv_at hl 1 rfl) ?_
  refine vp_callSi (va_Run.run (k_V (n := 1) (C := R_MO) (rest := []) ⟨hx, hb, hml, hown, hts⟩ (c_MO_isThere l dC dI cI cJ cZ o fF fG fT fN fW fO fB fS fD (nI 0) be bz sz nd ar P (nI x) (by first | assumption | omega)) wml_MO_113 wim_MO_isThere wsel_MO_isThere wini_MO wcode_MO_isThere (by decide +kernel) ⟨Nat.le_of_ble_eq_true rfl, Nat.le_of_ble_eq_true rfl⟩ (preV_R (q := (R_MO, F_MO, 15)) (ci := 7) (q0 := 0) (hP.sub (ws' := [(o, .inr (7, [.int (nI 0), .int (nI nd), .int (nI ar), .ref fF, .ref fG, .ref fT, .ref fN, .ref fW, .int be, .ref fO, .ref fB, .int bz, .ref fS, .ref fD, .int sz])), (fT, .inl (cZ, 41, .inl (bF P)))]) [0, 3] rfl) hK rfl rfl) rfl hl.1 rfl (Nat.le_of_ble_eq_true rfl) d_MO_way_7 ⟨Nat.zero_le _, Nat.zero_le _⟩)) (fun r_1 hr_2 => ?_)
  refine xe_i (y := (bI (vd (nI x) ar && P (nI x).toNatClampNeg))) hr_2 ?_
  refine xe_i (y := (bI true)) (by rw [tm_tt (by omega) hxa hPx]) ?_
  refine lv_if_ne (tgt := 15) hx hb d_MO_way_10 (by decide) (fun _ => ?_) (fun c9 => absurd c9 (by decide : ¬ ((bI true) : Int32) = 0))
  refine lv_aload_n hx hb d_MO_way_15 rfl (lv_at hl 0 rfl) ?_
  refine lv_aload_n hx hb d_MO_way_16 rfl (lv_at hl 0 rfl) ?_
  refine va_get (D := (dC, dI)) (ci := 7) (v := .ref fF) (C := R_MO) (T := F_MO) (N := 15) hx hb hts in_MO hown hK.1 hP 0 rfl rfl 3 (by decide) (hts _ wfl_MO_7) (fun _ h9 => h9) rfl d_MO_way_17 ?_
  refine lv_iload_n hx hb d_MO_way_20 rfl (lv_at hl 1 rfl) ?_
  refine x_iald (n := 41) (f := (nF F)) (j := x) hx hb hK.1 hP 1 0 rfl rfl (by omega) (by omega) d_MO_way_21 ?_
  refine xe_i (y := (nI (F x))) rfl ?_
  refine x_ci (k_V (n := 1) (C := R_MO) (rest := []) ⟨hx, hb, hml, hown, hts⟩ (c_MO_partSet l dC dI cI cJ cZ o fF fG fT fN fW fO fB fS fD (nI 0) be bz sz nd ar F G P hF hG (by first | assumption | omega) (by first | assumption | omega) hM N0 (F x) (hM x hxa).1) wml_MO_70 wim_MO_partSet wsel_MO_partSet wini_MO wcode_MO_partSet (by decide +kernel) ⟨Nat.le_of_ble_eq_true rfl, Nat.le_of_ble_eq_true rfl⟩ (preV_M (q := (R_MO, F_MO, 15)) (ci := 7) (q0 := 0) (hP.sub (ws' := [(o, .inr (7, [.int (nI 0), .int (nI nd), .int (nI ar), .ref fF, .ref fG, .ref fT, .ref fN, .ref fW, .int be, .ref fO, .ref fB, .int bz, .ref fS, .ref fD, .int sz])), (fF, .inl (cI, 41, .inl (nF F))), (fG, .inl (cI, 41, .inl (nF G))), (fT, .inl (cZ, 41, .inl (bF P))), (fN, .inl (cI, 14, .inl N0))]) [0, 1, 2, 3, 4] rfl) hK (hD.sub (ws' := [(o, .inr (7, [.int (nI 0), .int (nI nd), .int (nI ar), .ref fF, .ref fG, .ref fT, .ref fN, .ref fW, .int be, .ref fO, .ref fB, .int bz, .ref fS, .ref fD, .int sz])), (fF, .inl (cI, 41, .inl (nF F))), (fG, .inl (cI, 41, .inl (nF G))), (fT, .inl (cZ, 41, .inl (bF P))), (fN, .inl (cI, 14, .inl N0))]) [0, 1, 2, 3, 4] (by decide) rfl) rfl rfl) rfl hl.1 rfl (Nat.le_of_ble_eq_true rfl) d_MO_way_22 ⟨Nat.zero_le _, Nat.zero_le _⟩) hP hD hS [0, 1, 2, 3, 4] rfl (fun _ => rfl) (fun r_4 u_4 H locs hu_4 hP hS => ?_)
  obtain ⟨N9_4, rfl⟩ : ∃ z, z = u_4 := ⟨_, rfl⟩
  have hP : va_P (dC, dI) cls [(o, .inr (7, [.int (nI 0), .int (nI nd), .int (nI ar), .ref fF, .ref fG, .ref fT, .ref fN, .ref fW, .int be, .ref fO, .ref fB, .int bz, .ref fS, .ref fD, .int sz])), (fF, .inl (cI, 41, .inl (nF F))), (fG, .inl (cI, 41, .inl (nF G))), (fT, .inl (cZ, 41, .inl (bF P))), (fN, .inl (cI, 14, .inl N9_4))] H := hP
  have hD := hD.addr (ws' := [(o, .inr (7, [.int (nI 0), .int (nI nd), .int (nI ar), .ref fF, .ref fG, .ref fT, .ref fN, .ref fW, .int be, .ref fO, .ref fB, .int bz, .ref fS, .ref fD, .int sz])), (fF, .inl (cI, 41, .inl (nF F))), (fG, .inl (cI, 41, .inl (nF G))), (fT, .inl (cZ, 41, .inl (bF P))), (fN, .inl (cI, 14, .inl N9_4))]) rfl
  refine lv_istore_n (lv' := [(2, .int r_4), (0, .ref o), (1, .int (nI x))]) hx hb d_MO_way_25 rfl hl (by decide) rfl (fun ls hl => ?_)
  refine lv_aload_n hx hb d_MO_way_26 rfl (lv_at hl 1 rfl) ?_
  refine lv_iload_n hx hb d_MO_way_27 rfl (lv_at hl 0 rfl) ?_
  refine x_ci (k_V (n := 1) (C := R_MO) (rest := []) ⟨hx, hb, hml, hown, hts⟩ (c_MO_hasBridge l dC dI cI cJ cZ o fF fG fT fN fW fO fB fS fD (nI 0) be bz sz nd ar F G P hF hG (by first | assumption | omega) (by first | assumption | omega) hM N9_4 r_4) wml_MO_125 wim_MO_hasBridge wsel_MO_hasBridge wini_MO wcode_MO_hasBridge (by decide +kernel) ⟨Nat.le_of_ble_eq_true rfl, Nat.le_of_ble_eq_true rfl⟩ (preV_M (q := (R_MO, F_MO, 15)) (ci := 7) (q0 := 0) (hP.sub (ws' := [(o, .inr (7, [.int (nI 0), .int (nI nd), .int (nI ar), .ref fF, .ref fG, .ref fT, .ref fN, .ref fW, .int be, .ref fO, .ref fB, .int bz, .ref fS, .ref fD, .int sz])), (fF, .inl (cI, 41, .inl (nF F))), (fG, .inl (cI, 41, .inl (nF G))), (fT, .inl (cZ, 41, .inl (bF P))), (fN, .inl (cI, 14, .inl N9_4))]) [0, 1, 2, 3, 4] rfl) hK (hD.sub (ws' := [(o, .inr (7, [.int (nI 0), .int (nI nd), .int (nI ar), .ref fF, .ref fG, .ref fT, .ref fN, .ref fW, .int be, .ref fO, .ref fB, .int bz, .ref fS, .ref fD, .int sz])), (fF, .inl (cI, 41, .inl (nF F))), (fG, .inl (cI, 41, .inl (nF G))), (fT, .inl (cZ, 41, .inl (bF P))), (fN, .inl (cI, 14, .inl N9_4))]) [0, 1, 2, 3, 4] (by decide) rfl) rfl rfl) rfl hl.1 rfl (Nat.le_of_ble_eq_true rfl) d_MO_way_28 ⟨Nat.zero_le _, Nat.zero_le _⟩) hP hD hS [0, 1, 2, 3, 4] rfl (fun _ => rfl) (fun r_5 u_5 H locs hu_5 hP hS => ?_)
  obtain ⟨N9_5, rfl⟩ : ∃ z, z = u_5 := ⟨_, rfl⟩
  have hP : va_P (dC, dI) cls [(o, .inr (7, [.int (nI 0), .int (nI nd), .int (nI ar), .ref fF, .ref fG, .ref fT, .ref fN, .ref fW, .int be, .ref fO, .ref fB, .int bz, .ref fS, .ref fD, .int sz])), (fF, .inl (cI, 41, .inl (nF F))), (fG, .inl (cI, 41, .inl (nF G))), (fT, .inl (cZ, 41, .inl (bF P))), (fN, .inl (cI, 14, .inl N9_5))] H := hP
  have hD := hD.addr (ws' := [(o, .inr (7, [.int (nI 0), .int (nI nd), .int (nI ar), .ref fF, .ref fG, .ref fT, .ref fN, .ref fW, .int be, .ref fO, .ref fB, .int bz, .ref fS, .ref fD, .int sz])), (fF, .inl (cI, 41, .inl (nF F))), (fG, .inl (cI, 41, .inl (nF G))), (fT, .inl (cZ, 41, .inl (bF P))), (fN, .inl (cI, 14, .inl N9_5))]) rfl
  refine xe_i (y := (bI (dc (hbR ar P F G r_4)))) hu_5 ?_
  refine x_if_eq (tgt := 37) hx hb d_MO_way_31 (by decide) (fun c_6 => ?_) (fun c_6 => ?_)
  · skip
    exact absurd (hbr _ hu_4.1) (dc_f.mp c_6)
  · skip
    refine lv_bipush (v := (-3)) hx hb d_MO_way_34 (by decide) ?_
    exact W.iret (v := (-3)) hx hb hr (fun t9 ht9 _ => ⟨⟨_, (N9_5), rfl, rfl, by show va_P (dC, dI) cls _ t9.heap; rw [ht9]; exact hP⟩, hS.F ht9⟩) hS.2.2 d_MO_way_36

set_option maxHeartbeats 4000000 in
set_option maxRecDepth 100000 in
theorem c_MO_way_k (l : Launch) (dC : Nat → ClassId) (dI : Nat → Nat → Nat) (cI cJ cZ : ClassId) (o fF fG fT fN fW fO fB fS fD : Nat) (th be bz sz : Int32) (nd ar : Nat) (F G : Nat → Nat) (P : Nat → Bool) (hF : ∀ k, F k < 14) (hG : ∀ k, G k < 14) (hnd : nd ≤ 14) (har : ar ≤ 40) (hM : ∀ e, e < ar → F e < nd ∧ G e < nd) (Td0 : Nat → Nat) (hTd0 : ∀ k, Td0 k < 3) (N0 : Nat → Int32) (x : Nat) (hxa : x < ar) (hPx : P x = true) (hbr : ∀ pt, RcT (lkT ar 0 P (-1) (-1) (nI 0) F G) F G (sb (F x)) pt → ¬ hbR ar P F G pt) : Met l ⟨"CutPointsModel", "way", "(I)I"⟩ (Cond.code ⟨"CutPointsModel", "way", "(I)I"⟩ prog_9_method_42_code 5 (some .int) :: TT) (rmk 3 70) (PM dC dI cI cJ cZ [.ref o, .int (nI x)] [(o, .inr (7, [.int th, .int (nI nd), .int (nI ar), .ref fF, .ref fG, .ref fT, .ref fN, .ref fW, .int be, .ref fO, .ref fB, .int bz, .ref fS, .ref fD, .int sz])), (fF, .inl (cI, 41, .inl (nF F))), (fG, .inl (cI, 41, .inl (nF G))), (fT, .inl (cZ, 41, .inl (bF P))), (fN, .inl (cI, 14, .inl N0)), (fO, .inl (cI, 41, .inl (nF Td0)))]) (va_Qi (S := (Nat → Int32) × (Nat → Nat)) (fun r u9 => (∀ k, u9.2 k < 3) ∧ ∃ pt, RcT (lkT ar 0 P (-1) (-1) (nI 0) F G) F G (sb (F x)) pt ∧ wyI ar P F G pt u9.2 (x + 1) ∧ r = bI (decide (u9.2 x = 1))) (fun u9 t9 => va_P (dC, dI) cls ([(o, .inr (7, [.int (nI 0), .int (nI nd), .int (nI ar), .ref fF, .ref fG, .ref fT, .ref fN, .ref fW, .int be, .ref fO, .ref fB, .int bz, .ref fS, .ref fD, .int sz])), (fF, .inl (cI, 41, .inl (nF F))), (fG, .inl (cI, 41, .inl (nF G))), (fT, .inl (cZ, 41, .inl (bF P))), (fN, .inl (cI, 14, .inl u9.1)), (fO, .inl (cI, 41, .inl (nF u9.2)))]) t9.heap) (ow [(o, .inr (7, [.int th, .int (nI nd), .int (nI ar), .ref fF, .ref fG, .ref fT, .ref fN, .ref fW, .int be, .ref fO, .ref fB, .int bz, .ref fS, .ref fD, .int sz])), (fF, .inl (cI, 41, .inl (nF F))), (fG, .inl (cI, 41, .inl (nF G))), (fT, .inl (cZ, 41, .inl (bF P))), (fN, .inl (cI, 14, .inl N0)), (fO, .inl (cI, 41, .inl (nF Td0)))])) 0 0 (ow [(o, .inr (7, [.int th, .int (nI nd), .int (nI ar), .ref fF, .ref fG, .ref fT, .ref fN, .ref fW, .int be, .ref fO, .ref fB, .int bz, .ref fS, .ref fD, .int sz])), (fF, .inl (cI, 41, .inl (nF F))), (fG, .inl (cI, 41, .inl (nF G))), (fT, .inl (cZ, 41, .inl (bF P))), (fN, .inl (cI, 14, .inl N0)), (fO, .inl (cI, 41, .inl (nF Td0)))]) := by
  refine Met.ofW (cc := prog_9_method_42_code) (maxL := 5) (ret := (some .int)) (by decide) rfl ?_
  intro p e s m args below meth c s₁ BB9 hml hv
  obtain ⟨rfl, hP, hK, hD0⟩ := hv
  have hx := BB9.exec
  have hb := BB9.bytes
  have hr := BB9.returns
  have hts : ∀ w ∈ TT, w.before _ s = true := fun w h => atoms_spec (ws := (Cond.code ⟨"CutPointsModel", "way", "(I)I"⟩ prog_9_method_42_code 5 (some .int) :: TT)) BB9.pre w (List.mem_cons_of_mem _ h)
  have hown : s.vm.findClass "CutPointsModel" = some m.cls := findClass_of_methodNamed BB9.named
  have hlocks := BB9.notSynchronized
  have hD := hD0.mine
  have hS : va_S (ow [(o, .inr (7, [.int th, .int (nI nd), .int (nI ar), .ref fF, .ref fG, .ref fT, .ref fN, .ref fW, .int be, .ref fO, .ref fB, .int bz, .ref fS, .ref fD, .int sz])), (fF, .inl (cI, 41, .inl (nF F))), (fG, .inl (cI, 41, .inl (nF G))), (fT, .inl (cZ, 41, .inl (bF P))), (fN, .inl (cI, 14, .inl N0)), (fO, .inl (cI, 41, .inl (nF Td0)))]) s.heap s.heap [] := va_S.rf
  have hl := lv_entry ([.ref o, .int (nI x)]) (n := 5) (Nat.le_of_ble_eq_true rfl)
  rw [lg_entry_eq]
  generalize (lg_sl ([.ref o, .int (nI x)]) ++ List.replicate (5 - (lg_sl ([.ref o, .int (nI x)])).length) Slot.unset).toArray = ls at hl ⊢
  have hl : lv_has ls 5 [(0, .ref o), (1, .int (nI x))] := hl
  refine lv_aload_n hx hb d_MO_way_0 rfl (lv_at hl 0 rfl) ?_
  refine lv_iconst (v := (nI 0)) hx hb d_MO_way_1 (by decide) ?_
  refine va_put (D := (dC, dI)) (ci := 7) (v := .int (nI 0)) (ty := .int) (C := R_MO) (T := F_MO) (N := 15) hx hb hts in_MO t_MO t_MO_ok n_MO hown hK.1 hP hD hS 0 rfl rfl 0 (by decide) (hts _ wfl_MO_38) (fun _ h9 => h9) rfl (by decide +kernel) rfl rfl (Nat.le_of_ble_eq_true rfl) d_MO_way_2 (fun H locs hP hD hS => ?_)
  have hP : va_P (dC, dI) cls [(o, .inr (7, [.int (nI 0), .int (nI nd), .int (nI ar), .ref fF, .ref fG, .ref fT, .ref fN, .ref fW, .int be, .ref fO, .ref fB, .int bz, .ref fS, .ref fD, .int sz])), (fF, .inl (cI, 41, .inl (nF F))), (fG, .inl (cI, 41, .inl (nF G))), (fT, .inl (cZ, 41, .inl (bF P))), (fN, .inl (cI, 14, .inl N0)), (fO, .inl (cI, 41, .inl (nF Td0)))] H := hP
  have hD : va_D (ow [(o, .inr (7, [.int th, .int (nI nd), .int (nI ar), .ref fF, .ref fG, .ref fT, .ref fN, .ref fW, .int be, .ref fO, .ref fB, .int bz, .ref fS, .ref fD, .int sz])), (fF, .inl (cI, 41, .inl (nF F))), (fG, .inl (cI, 41, .inl (nF G))), (fT, .inl (cZ, 41, .inl (bF P))), (fN, .inl (cI, 14, .inl N0)), (fO, .inl (cI, 41, .inl (nF Td0)))]) [(o, .inr (7, [.int (nI 0), .int (nI nd), .int (nI ar), .ref fF, .ref fG, .ref fT, .ref fN, .ref fW, .int be, .ref fO, .ref fB, .int bz, .ref fS, .ref fD, .int sz])), (fF, .inl (cI, 41, .inl (nF F))), (fG, .inl (cI, 41, .inl (nF G))), (fT, .inl (cZ, 41, .inl (bF P))), (fN, .inl (cI, 14, .inl N0)), (fO, .inl (cI, 41, .inl (nF Td0)))] := hD
  refine lv_aload_n hx hb d_MO_way_5 rfl (lv_at hl 0 rfl) ?_
  refine lv_iload_n hx hb d_MO_way_6 rfl (lv_at hl 1 rfl) ?_
  refine vp_callSi (va_Run.run (k_V (n := 1) (C := R_MO) (rest := []) ⟨hx, hb, hml, hown, hts⟩ (c_MO_isThere l dC dI cI cJ cZ o fF fG fT fN fW fO fB fS fD (nI 0) be bz sz nd ar P (nI x) (by first | assumption | omega)) wml_MO_113 wim_MO_isThere wsel_MO_isThere wini_MO wcode_MO_isThere (by decide +kernel) ⟨Nat.le_of_ble_eq_true rfl, Nat.le_of_ble_eq_true rfl⟩ (preV_R (q := (R_MO, F_MO, 15)) (ci := 7) (q0 := 0) (hP.sub (ws' := [(o, .inr (7, [.int (nI 0), .int (nI nd), .int (nI ar), .ref fF, .ref fG, .ref fT, .ref fN, .ref fW, .int be, .ref fO, .ref fB, .int bz, .ref fS, .ref fD, .int sz])), (fT, .inl (cZ, 41, .inl (bF P)))]) [0, 3] rfl) hK rfl rfl) rfl hl.1 rfl (Nat.le_of_ble_eq_true rfl) d_MO_way_7 ⟨Nat.zero_le _, Nat.zero_le _⟩)) (fun r_1 hr_2 => ?_)
  refine xe_i (y := (bI (vd (nI x) ar && P (nI x).toNatClampNeg))) hr_2 ?_
  refine xe_i (y := (bI true)) (by rw [tm_tt (by omega) hxa hPx]) ?_
  refine lv_if_ne (tgt := 15) hx hb d_MO_way_10 (by decide) (fun _ => ?_) (fun c9 => absurd c9 (by decide : ¬ ((bI true) : Int32) = 0))
  refine lv_aload_n hx hb d_MO_way_15 rfl (lv_at hl 0 rfl) ?_
  refine lv_aload_n hx hb d_MO_way_16 rfl (lv_at hl 0 rfl) ?_
  refine va_get (D := (dC, dI)) (ci := 7) (v := .ref fF) (C := R_MO) (T := F_MO) (N := 15) hx hb hts in_MO hown hK.1 hP 0 rfl rfl 3 (by decide) (hts _ wfl_MO_7) (fun _ h9 => h9) rfl d_MO_way_17 ?_
  refine lv_iload_n hx hb d_MO_way_20 rfl (lv_at hl 1 rfl) ?_
  refine x_iald (n := 41) (f := (nF F)) (j := x) hx hb hK.1 hP 1 0 rfl rfl (by omega) (by omega) d_MO_way_21 ?_
  refine xe_i (y := (nI (F x))) rfl ?_
  refine x_ci (k_V (n := 1) (C := R_MO) (rest := []) ⟨hx, hb, hml, hown, hts⟩ (c_MO_partSet l dC dI cI cJ cZ o fF fG fT fN fW fO fB fS fD (nI 0) be bz sz nd ar F G P hF hG (by first | assumption | omega) (by first | assumption | omega) hM N0 (F x) (hM x hxa).1) wml_MO_70 wim_MO_partSet wsel_MO_partSet wini_MO wcode_MO_partSet (by decide +kernel) ⟨Nat.le_of_ble_eq_true rfl, Nat.le_of_ble_eq_true rfl⟩ (preV_M (q := (R_MO, F_MO, 15)) (ci := 7) (q0 := 0) (hP.sub (ws' := [(o, .inr (7, [.int (nI 0), .int (nI nd), .int (nI ar), .ref fF, .ref fG, .ref fT, .ref fN, .ref fW, .int be, .ref fO, .ref fB, .int bz, .ref fS, .ref fD, .int sz])), (fF, .inl (cI, 41, .inl (nF F))), (fG, .inl (cI, 41, .inl (nF G))), (fT, .inl (cZ, 41, .inl (bF P))), (fN, .inl (cI, 14, .inl N0))]) [0, 1, 2, 3, 4] rfl) hK (hD.sub (ws' := [(o, .inr (7, [.int (nI 0), .int (nI nd), .int (nI ar), .ref fF, .ref fG, .ref fT, .ref fN, .ref fW, .int be, .ref fO, .ref fB, .int bz, .ref fS, .ref fD, .int sz])), (fF, .inl (cI, 41, .inl (nF F))), (fG, .inl (cI, 41, .inl (nF G))), (fT, .inl (cZ, 41, .inl (bF P))), (fN, .inl (cI, 14, .inl N0))]) [0, 1, 2, 3, 4] (by decide) rfl) rfl rfl) rfl hl.1 rfl (Nat.le_of_ble_eq_true rfl) d_MO_way_22 ⟨Nat.zero_le _, Nat.zero_le _⟩) hP hD hS [0, 1, 2, 3, 4] rfl (fun _ => rfl) (fun r_4 u_4 H locs hu_4 hP hS => ?_)
  obtain ⟨N9_4, rfl⟩ : ∃ z, z = u_4 := ⟨_, rfl⟩
  have hP : va_P (dC, dI) cls [(o, .inr (7, [.int (nI 0), .int (nI nd), .int (nI ar), .ref fF, .ref fG, .ref fT, .ref fN, .ref fW, .int be, .ref fO, .ref fB, .int bz, .ref fS, .ref fD, .int sz])), (fF, .inl (cI, 41, .inl (nF F))), (fG, .inl (cI, 41, .inl (nF G))), (fT, .inl (cZ, 41, .inl (bF P))), (fN, .inl (cI, 14, .inl N9_4)), (fO, .inl (cI, 41, .inl (nF Td0)))] H := hP
  have hD := hD.addr (ws' := [(o, .inr (7, [.int (nI 0), .int (nI nd), .int (nI ar), .ref fF, .ref fG, .ref fT, .ref fN, .ref fW, .int be, .ref fO, .ref fB, .int bz, .ref fS, .ref fD, .int sz])), (fF, .inl (cI, 41, .inl (nF F))), (fG, .inl (cI, 41, .inl (nF G))), (fT, .inl (cZ, 41, .inl (bF P))), (fN, .inl (cI, 14, .inl N9_4)), (fO, .inl (cI, 41, .inl (nF Td0)))]) rfl
  refine lv_istore_n (lv' := [(2, .int r_4), (0, .ref o), (1, .int (nI x))]) hx hb d_MO_way_25 rfl hl (by decide) rfl (fun ls hl => ?_)
  refine lv_aload_n hx hb d_MO_way_26 rfl (lv_at hl 1 rfl) ?_
  refine lv_iload_n hx hb d_MO_way_27 rfl (lv_at hl 0 rfl) ?_
  refine x_ci (k_V (n := 1) (C := R_MO) (rest := []) ⟨hx, hb, hml, hown, hts⟩ (c_MO_hasBridge l dC dI cI cJ cZ o fF fG fT fN fW fO fB fS fD (nI 0) be bz sz nd ar F G P hF hG (by first | assumption | omega) (by first | assumption | omega) hM N9_4 r_4) wml_MO_125 wim_MO_hasBridge wsel_MO_hasBridge wini_MO wcode_MO_hasBridge (by decide +kernel) ⟨Nat.le_of_ble_eq_true rfl, Nat.le_of_ble_eq_true rfl⟩ (preV_M (q := (R_MO, F_MO, 15)) (ci := 7) (q0 := 0) (hP.sub (ws' := [(o, .inr (7, [.int (nI 0), .int (nI nd), .int (nI ar), .ref fF, .ref fG, .ref fT, .ref fN, .ref fW, .int be, .ref fO, .ref fB, .int bz, .ref fS, .ref fD, .int sz])), (fF, .inl (cI, 41, .inl (nF F))), (fG, .inl (cI, 41, .inl (nF G))), (fT, .inl (cZ, 41, .inl (bF P))), (fN, .inl (cI, 14, .inl N9_4))]) [0, 1, 2, 3, 4] rfl) hK (hD.sub (ws' := [(o, .inr (7, [.int (nI 0), .int (nI nd), .int (nI ar), .ref fF, .ref fG, .ref fT, .ref fN, .ref fW, .int be, .ref fO, .ref fB, .int bz, .ref fS, .ref fD, .int sz])), (fF, .inl (cI, 41, .inl (nF F))), (fG, .inl (cI, 41, .inl (nF G))), (fT, .inl (cZ, 41, .inl (bF P))), (fN, .inl (cI, 14, .inl N9_4))]) [0, 1, 2, 3, 4] (by decide) rfl) rfl rfl) rfl hl.1 rfl (Nat.le_of_ble_eq_true rfl) d_MO_way_28 ⟨Nat.zero_le _, Nat.zero_le _⟩) hP hD hS [0, 1, 2, 3, 4] rfl (fun _ => rfl) (fun r_5 u_5 H locs hu_5 hP hS => ?_)
  obtain ⟨N9_5, rfl⟩ : ∃ z, z = u_5 := ⟨_, rfl⟩
  have hP : va_P (dC, dI) cls [(o, .inr (7, [.int (nI 0), .int (nI nd), .int (nI ar), .ref fF, .ref fG, .ref fT, .ref fN, .ref fW, .int be, .ref fO, .ref fB, .int bz, .ref fS, .ref fD, .int sz])), (fF, .inl (cI, 41, .inl (nF F))), (fG, .inl (cI, 41, .inl (nF G))), (fT, .inl (cZ, 41, .inl (bF P))), (fN, .inl (cI, 14, .inl N9_5)), (fO, .inl (cI, 41, .inl (nF Td0)))] H := hP
  have hD := hD.addr (ws' := [(o, .inr (7, [.int (nI 0), .int (nI nd), .int (nI ar), .ref fF, .ref fG, .ref fT, .ref fN, .ref fW, .int be, .ref fO, .ref fB, .int bz, .ref fS, .ref fD, .int sz])), (fF, .inl (cI, 41, .inl (nF F))), (fG, .inl (cI, 41, .inl (nF G))), (fT, .inl (cZ, 41, .inl (bF P))), (fN, .inl (cI, 14, .inl N9_5)), (fO, .inl (cI, 41, .inl (nF Td0)))]) rfl
  refine xe_i (y := (bI (dc (hbR ar P F G r_4)))) hu_5 ?_
  refine x_if_eq (tgt := 37) hx hb d_MO_way_31 (by decide) (fun c_6 => ?_) (fun c_6 => ?_)
  · skip
    refine lv_iconst (v := (nI 0)) hx hb d_MO_way_37 (by decide) ?_
    refine lv_istore_n (lv' := [(3, .int (nI 0)), (2, .int r_4), (0, .ref o), (1, .int (nI x))]) hx hb d_MO_way_38 rfl hl (by decide) rfl (fun ls hl => ?_)
    have L39_7 : ∀ (n : Nat) (Td1 : Nat → Nat) (i : Nat) (hn : ar - i < n) (hi : i ≤ ar) (hT1 : ∀ k, Td1 k < 3) (hz : ∀ j, j < i → Td1 j = 0) (H : Heap) (locs : List Loc) (hP : va_P (dC, dI) cls [(o, .inr (7, [.int (nI 0), .int (nI nd), .int (nI ar), .ref fF, .ref fG, .ref fT, .ref fN, .ref fW, .int be, .ref fO, .ref fB, .int bz, .ref fS, .ref fD, .int sz])), (fF, .inl (cI, 41, .inl (nF F))), (fG, .inl (cI, 41, .inl (nF G))), (fT, .inl (cZ, 41, .inl (bF P))), (fN, .inl (cI, 14, .inl N9_5)), (fO, .inl (cI, 41, .inl (nF Td1)))] H) (hD : va_D (ow [(o, .inr (7, [.int th, .int (nI nd), .int (nI ar), .ref fF, .ref fG, .ref fT, .ref fN, .ref fW, .int be, .ref fO, .ref fB, .int bz, .ref fS, .ref fD, .int sz])), (fF, .inl (cI, 41, .inl (nF F))), (fG, .inl (cI, 41, .inl (nF G))), (fT, .inl (cZ, 41, .inl (bF P))), (fN, .inl (cI, 14, .inl N0)), (fO, .inl (cI, 41, .inl (nF Td0)))]) [(o, .inr (7, [.int (nI 0), .int (nI nd), .int (nI ar), .ref fF, .ref fG, .ref fT, .ref fN, .ref fW, .int be, .ref fO, .ref fB, .int bz, .ref fS, .ref fD, .int sz])), (fF, .inl (cI, 41, .inl (nF F))), (fG, .inl (cI, 41, .inl (nF G))), (fT, .inl (cZ, 41, .inl (bF P))), (fN, .inl (cI, 14, .inl N9_5)), (fO, .inl (cI, 41, .inl (nF Td1)))]) (hS : va_S (ow [(o, .inr (7, [.int th, .int (nI nd), .int (nI ar), .ref fF, .ref fG, .ref fT, .ref fN, .ref fW, .int be, .ref fO, .ref fB, .int bz, .ref fS, .ref fD, .int sz])), (fF, .inl (cI, 41, .inl (nF F))), (fG, .inl (cI, 41, .inl (nF G))), (fT, .inl (cZ, 41, .inl (bF P))), (fN, .inl (cI, 14, .inl N0)), (fO, .inl (cI, 41, .inl (nF Td0)))]) s.heap H locs) (ls : Array Slot) (hl : lv_has ls 5 [(0, .ref o), (1, .int (nI x)), (2, .int r_4), (3, .int (nI i))]), W p l e (headSpec (Cond.code ⟨"CutPointsModel", "way", "(I)I"⟩ prog_9_method_42_code 5 (some .int) :: TT) (rmk 3 70)).room s m ([.ref o, .int (nI x)] : List Value).toArray below meth c H locs 0 0 (MQ below (va_Qi (S := (Nat → Int32) × (Nat → Nat)) (fun r u9 => (∀ k, u9.2 k < 3) ∧ ∃ pt, RcT (lkT ar 0 P (-1) (-1) (nI 0) F G) F G (sb (F x)) pt ∧ wyI ar P F G pt u9.2 (x + 1) ∧ r = bI (decide (u9.2 x = 1))) (fun u9 t9 => va_P (dC, dI) cls ([(o, .inr (7, [.int (nI 0), .int (nI nd), .int (nI ar), .ref fF, .ref fG, .ref fT, .ref fN, .ref fW, .int be, .ref fO, .ref fB, .int bz, .ref fS, .ref fD, .int sz])), (fF, .inl (cI, 41, .inl (nF F))), (fG, .inl (cI, 41, .inl (nF G))), (fT, .inl (cZ, 41, .inl (bF P))), (fN, .inl (cI, 14, .inl u9.1)), (fO, .inl (cI, 41, .inl (nF u9.2)))]) t9.heap) (ow [(o, .inr (7, [.int th, .int (nI nd), .int (nI ar), .ref fF, .ref fG, .ref fT, .ref fN, .ref fW, .int be, .ref fO, .ref fB, .int bz, .ref fS, .ref fD, .int sz])), (fF, .inl (cI, 41, .inl (nF F))), (fG, .inl (cI, 41, .inl (nF G))), (fT, .inl (cZ, 41, .inl (bF P))), (fN, .inl (cI, 14, .inl N0)), (fO, .inl (cI, 41, .inl (nF Td0)))])) ([.ref o, .int (nI x)] : List Value).toArray s 0 0 (ow [(o, .inr (7, [.int th, .int (nI nd), .int (nI ar), .ref fF, .ref fG, .ref fT, .ref fN, .ref fW, .int be, .ref fO, .ref fB, .int bz, .ref fS, .ref fD, .int sz])), (fF, .inl (cI, 41, .inl (nF F))), (fG, .inl (cI, 41, .inl (nF G))), (fT, .inl (cZ, 41, .inl (bF P))), (fN, .inl (cI, 14, .inl N0)), (fO, .inl (cI, 41, .inl (nF Td0)))])) (F0 m 39 ls []) := by
      intro n_39
      induction n_39 with
      | zero =>
        intro Td1 i hn_39
        exact absurd hn_39 (Nat.not_lt_zero _)
      | succ n_39 ih_39 =>
        intro Td1 i hn_39 hi hT1 hz H locs hP hD hS ls hl
        refine lv_iload_n hx hb d_MO_way_39 rfl (lv_at hl 3 rfl) ?_
        refine lv_aload_n hx hb d_MO_way_40 rfl (lv_at hl 0 rfl) ?_
        refine va_get (D := (dC, dI)) (ci := 7) (v := .int (nI ar)) (C := R_MO) (T := F_MO) (N := 15) hx hb hts in_MO hown hK.1 hP 0 rfl rfl 2 (by decide) (hts _ wfl_MO_45) (fun _ h9 => h9) rfl d_MO_way_41 ?_
        refine x_cmp_ge (a := i) (b := ar) (tgt := 60) hx hb (by omega) (by omega) d_MO_way_44 (by decide) (fun c_8 => ?_) (fun c_8 => ?_)
        · skip
          refine lv_iconst (v := (nI 0)) hx hb d_MO_way_60 (by decide) ?_
          refine lv_istore_n (lv' := [(3, .int (nI 0)), (0, .ref o), (1, .int (nI x)), (2, .int r_4)]) hx hb d_MO_way_61 rfl hl (by decide) rfl (fun ls hl => ?_)
          have L62_9 : ∀ (n : Nat) (Td2 : Nat → Nat) (i : Nat) (hn : x + 1 - i < n) (hi2 : i ≤ x + 1) (hT2 : ∀ k, Td2 k < 3) (hw : wyI ar P F G r_4 Td2 i) (H : Heap) (locs : List Loc) (hP : va_P (dC, dI) cls [(o, .inr (7, [.int (nI 0), .int (nI nd), .int (nI ar), .ref fF, .ref fG, .ref fT, .ref fN, .ref fW, .int be, .ref fO, .ref fB, .int bz, .ref fS, .ref fD, .int sz])), (fF, .inl (cI, 41, .inl (nF F))), (fG, .inl (cI, 41, .inl (nF G))), (fT, .inl (cZ, 41, .inl (bF P))), (fN, .inl (cI, 14, .inl N9_5)), (fO, .inl (cI, 41, .inl (nF Td2)))] H) (hD : va_D (ow [(o, .inr (7, [.int th, .int (nI nd), .int (nI ar), .ref fF, .ref fG, .ref fT, .ref fN, .ref fW, .int be, .ref fO, .ref fB, .int bz, .ref fS, .ref fD, .int sz])), (fF, .inl (cI, 41, .inl (nF F))), (fG, .inl (cI, 41, .inl (nF G))), (fT, .inl (cZ, 41, .inl (bF P))), (fN, .inl (cI, 14, .inl N0)), (fO, .inl (cI, 41, .inl (nF Td0)))]) [(o, .inr (7, [.int (nI 0), .int (nI nd), .int (nI ar), .ref fF, .ref fG, .ref fT, .ref fN, .ref fW, .int be, .ref fO, .ref fB, .int bz, .ref fS, .ref fD, .int sz])), (fF, .inl (cI, 41, .inl (nF F))), (fG, .inl (cI, 41, .inl (nF G))), (fT, .inl (cZ, 41, .inl (bF P))), (fN, .inl (cI, 14, .inl N9_5)), (fO, .inl (cI, 41, .inl (nF Td2)))]) (hS : va_S (ow [(o, .inr (7, [.int th, .int (nI nd), .int (nI ar), .ref fF, .ref fG, .ref fT, .ref fN, .ref fW, .int be, .ref fO, .ref fB, .int bz, .ref fS, .ref fD, .int sz])), (fF, .inl (cI, 41, .inl (nF F))), (fG, .inl (cI, 41, .inl (nF G))), (fT, .inl (cZ, 41, .inl (bF P))), (fN, .inl (cI, 14, .inl N0)), (fO, .inl (cI, 41, .inl (nF Td0)))]) s.heap H locs) (ls : Array Slot) (hl : lv_has ls 5 [(0, .ref o), (1, .int (nI x)), (2, .int r_4), (3, .int (nI i))]), W p l e (headSpec (Cond.code ⟨"CutPointsModel", "way", "(I)I"⟩ prog_9_method_42_code 5 (some .int) :: TT) (rmk 3 70)).room s m ([.ref o, .int (nI x)] : List Value).toArray below meth c H locs 0 0 (MQ below (va_Qi (S := (Nat → Int32) × (Nat → Nat)) (fun r u9 => (∀ k, u9.2 k < 3) ∧ ∃ pt, RcT (lkT ar 0 P (-1) (-1) (nI 0) F G) F G (sb (F x)) pt ∧ wyI ar P F G pt u9.2 (x + 1) ∧ r = bI (decide (u9.2 x = 1))) (fun u9 t9 => va_P (dC, dI) cls ([(o, .inr (7, [.int (nI 0), .int (nI nd), .int (nI ar), .ref fF, .ref fG, .ref fT, .ref fN, .ref fW, .int be, .ref fO, .ref fB, .int bz, .ref fS, .ref fD, .int sz])), (fF, .inl (cI, 41, .inl (nF F))), (fG, .inl (cI, 41, .inl (nF G))), (fT, .inl (cZ, 41, .inl (bF P))), (fN, .inl (cI, 14, .inl u9.1)), (fO, .inl (cI, 41, .inl (nF u9.2)))]) t9.heap) (ow [(o, .inr (7, [.int th, .int (nI nd), .int (nI ar), .ref fF, .ref fG, .ref fT, .ref fN, .ref fW, .int be, .ref fO, .ref fB, .int bz, .ref fS, .ref fD, .int sz])), (fF, .inl (cI, 41, .inl (nF F))), (fG, .inl (cI, 41, .inl (nF G))), (fT, .inl (cZ, 41, .inl (bF P))), (fN, .inl (cI, 14, .inl N0)), (fO, .inl (cI, 41, .inl (nF Td0)))])) ([.ref o, .int (nI x)] : List Value).toArray s 0 0 (ow [(o, .inr (7, [.int th, .int (nI nd), .int (nI ar), .ref fF, .ref fG, .ref fT, .ref fN, .ref fW, .int be, .ref fO, .ref fB, .int bz, .ref fS, .ref fD, .int sz])), (fF, .inl (cI, 41, .inl (nF F))), (fG, .inl (cI, 41, .inl (nF G))), (fT, .inl (cZ, 41, .inl (bF P))), (fN, .inl (cI, 14, .inl N0)), (fO, .inl (cI, 41, .inl (nF Td0)))])) (F0 m 62 ls []) := by
            intro n_62
            induction n_62 with
            | zero =>
              intro Td2 i hn_62
              exact absurd hn_62 (Nat.not_lt_zero _)
            | succ n_62 ih_62 =>
              intro Td2 i hn_62 hi2 hT2 hw H locs hP hD hS ls hl
              refine lv_iload_n hx hb d_MO_way_62 rfl (lv_at hl 3 rfl) ?_
              refine lv_iload_n hx hb d_MO_way_63 rfl (lv_at hl 1 rfl) ?_
              refine x_cmp_gt (a := i) (b := x) (tgt := 156) hx hb (by omega) (by omega) d_MO_way_64 (by decide) (fun c_10 => ?_) (fun c_10 => ?_)
              · skip
                refine lv_aload_n hx hb d_MO_way_156 rfl (lv_at hl 0 rfl) ?_
                refine va_get (D := (dC, dI)) (ci := 7) (v := .ref fO) (C := R_MO) (T := F_MO) (N := 15) hx hb hts in_MO hown hK.1 hP 0 rfl rfl 9 (by decide) (hts _ wfl_MO_26) (fun _ h9 => h9) rfl d_MO_way_157 ?_
                refine lv_iload_n hx hb d_MO_way_160 rfl (lv_at hl 1 rfl) ?_
                refine x_iald (n := 41) (f := (nF Td2)) (j := x) hx hb hK.1 hP 5 0 rfl rfl (by omega) (by omega) d_MO_way_161 ?_
                refine xe_i (y := (nI (Td2 x))) rfl ?_
                refine lv_iconst (v := (nI 1)) hx hb d_MO_way_162 (by decide) ?_
                refine x_cmp_ne (a := (Td2 x)) (b := 1) (tgt := 170) hx hb (Nat.lt_trans (hT2 _) (by decide)) (by omega) d_MO_way_163 (by decide) (fun c_11 => ?_) (fun c_11 => ?_)
                · skip
                  refine lv_iconst (v := (nI 0)) hx hb d_MO_way_170 (by decide) ?_
                  exact W.iret (v := (nI 0)) hx hb hr (fun t9 ht9 _ => ⟨⟨_, (N9_5, Td2), rfl, ⟨hT2, _, hu_4.1, by have e9 : i = x + 1 := (by omega); subst e9; exact hw, by rw [decide_eq_false c_11]; rfl⟩, by show va_P (dC, dI) cls _ t9.heap; rw [ht9]; exact hP⟩, hS.F ht9⟩) hS.2.2 d_MO_way_171
                · skip
                  refine lv_iconst (v := (nI 1)) hx hb d_MO_way_166 (by decide) ?_
                  refine lv_goto (tgt := 171) hx hb d_MO_way_167 (by decide) ?_
                  exact W.iret (v := (nI 1)) hx hb hr (fun t9 ht9 _ => ⟨⟨_, (N9_5, Td2), rfl, ⟨hT2, _, hu_4.1, by have e9 : i = x + 1 := (by omega); subst e9; exact hw, by rw [decide_eq_true c_11]; rfl⟩, by show va_P (dC, dI) cls _ t9.heap; rw [ht9]; exact hP⟩, hS.F ht9⟩) hS.2.2 d_MO_way_171
              · skip
                refine lv_aload_n hx hb d_MO_way_67 rfl (lv_at hl 0 rfl) ?_
                refine va_get (D := (dC, dI)) (ci := 7) (v := .ref fT) (C := R_MO) (T := F_MO) (N := 15) hx hb hts in_MO hown hK.1 hP 0 rfl rfl 5 (by decide) (hts _ wfl_MO_16) (fun _ h9 => h9) rfl d_MO_way_68 ?_
                refine lv_iload_n hx hb d_MO_way_71 rfl (lv_at hl 3 rfl) ?_
                refine x_zald (n := 41) (f := (bF P)) (j := i) hx hb hK.1 hP 3 2 rfl rfl (by omega) (by omega) d_MO_way_72 ?_
                refine xe_i (y := (bI (P i))) rfl ?_
                refine x_if_eq (tgt := 150) hx hb d_MO_way_73 (by decide) (fun c_12 => ?_) (fun c_12 => ?_)
                · skip
                  refine lv_iinc (v := (nI (i + 1))) (lv' := [(3, .int (nI (i + 1))), (0, .ref o), (1, .int (nI x)), (2, .int r_4)]) hx hb d_MO_way_150 hl (k := 3) rfl (nI_1 _) (by decide) rfl (fun ls hl => ?_)
                  refine lv_goto (tgt := 62) hx hb d_MO_way_153 (by decide) ?_
                  exact ih_62 Td2 (i + 1) (by omega) (by first | assumption | omega) hT2 (wyI_f (by omega) hw (fun z9 => by have y9 := z9.1; rw [c_12] at y9; cases y9)) _ _ hP hD hS ls (lv_sub hl [1, 2, 3, 0] rfl)
                · skip
                  refine lv_iload_n hx hb d_MO_way_76 rfl (lv_at hl 2 rfl) ?_
                  refine lv_aload_n hx hb d_MO_way_77 rfl (lv_at hl 0 rfl) ?_
                  refine va_get (D := (dC, dI)) (ci := 7) (v := .ref fF) (C := R_MO) (T := F_MO) (N := 15) hx hb hts in_MO hown hK.1 hP 0 rfl rfl 3 (by decide) (hts _ wfl_MO_7) (fun _ h9 => h9) rfl d_MO_way_78 ?_
                  refine lv_iload_n hx hb d_MO_way_81 rfl (lv_at hl 3 rfl) ?_
                  refine x_iald (n := 41) (f := (nF F)) (j := i) hx hb hK.1 hP 1 0 rfl rfl (by omega) (by omega) d_MO_way_82 ?_
                  refine xe_i (y := (nI (F i))) rfl ?_
                  refine lv_ishr hx hb d_MO_way_83 ?_
                  refine lv_iconst (v := (nI 1)) hx hb d_MO_way_84 (by decide) ?_
                  refine lv_iand hx hb d_MO_way_85 ?_
                  refine xe_i (y := (bI (bt r_4 (F i)))) (sh1 (Nat.lt_trans (hF _) (by decide))) ?_
                  refine lv_iconst (v := (nI 1)) hx hb d_MO_way_86 (by decide) ?_
                  refine x_cmp1_ne (tgt := 150) hx hb d_MO_way_87 (by decide) (fun c_13 => ?_) (fun c_13 => ?_)
                  · skip
                    refine lv_iinc (v := (nI (i + 1))) (lv' := [(3, .int (nI (i + 1))), (0, .ref o), (1, .int (nI x)), (2, .int r_4)]) hx hb d_MO_way_150 hl (k := 3) rfl (nI_1 _) (by decide) rfl (fun ls hl => ?_)
                    refine lv_goto (tgt := 62) hx hb d_MO_way_153 (by decide) ?_
                    exact ih_62 Td2 (i + 1) (by omega) (by first | assumption | omega) hT2 (wyI_f (by omega) hw (fun z9 => by have y9 := z9.2; rw [c_13] at y9; cases y9)) _ _ hP hD hS ls (lv_sub hl [1, 2, 3, 0] rfl)
                  · skip
                    refine lv_aload_n hx hb d_MO_way_90 rfl (lv_at hl 0 rfl) ?_
                    refine va_get (D := (dC, dI)) (ci := 7) (v := .ref fO) (C := R_MO) (T := F_MO) (N := 15) hx hb hts in_MO hown hK.1 hP 0 rfl rfl 9 (by decide) (hts _ wfl_MO_26) (fun _ h9 => h9) rfl d_MO_way_91 ?_
                    refine lv_iload_n hx hb d_MO_way_94 rfl (lv_at hl 3 rfl) ?_
                    refine lv_iconst (v := (nI 1)) hx hb d_MO_way_95 (by decide) ?_
                    refine x_iast (g := (nF (va_up Td2 i 1))) hx hb hK.1 hP hD hS 5 0 rfl rfl (nF_up _ _ _) (by omega) (by omega) d_MO_way_96 (fun H locs hP hD hS => ?_)
                    have hP : va_P (dC, dI) cls [(o, .inr (7, [.int (nI 0), .int (nI nd), .int (nI ar), .ref fF, .ref fG, .ref fT, .ref fN, .ref fW, .int be, .ref fO, .ref fB, .int bz, .ref fS, .ref fD, .int sz])), (fF, .inl (cI, 41, .inl (nF F))), (fG, .inl (cI, 41, .inl (nF G))), (fT, .inl (cZ, 41, .inl (bF P))), (fN, .inl (cI, 14, .inl N9_5)), (fO, .inl (cI, 41, .inl (nF (va_up Td2 i 1))))] H := hP
                    have hD : va_D (ow [(o, .inr (7, [.int th, .int (nI nd), .int (nI ar), .ref fF, .ref fG, .ref fT, .ref fN, .ref fW, .int be, .ref fO, .ref fB, .int bz, .ref fS, .ref fD, .int sz])), (fF, .inl (cI, 41, .inl (nF F))), (fG, .inl (cI, 41, .inl (nF G))), (fT, .inl (cZ, 41, .inl (bF P))), (fN, .inl (cI, 14, .inl N0)), (fO, .inl (cI, 41, .inl (nF Td0)))]) [(o, .inr (7, [.int (nI 0), .int (nI nd), .int (nI ar), .ref fF, .ref fG, .ref fT, .ref fN, .ref fW, .int be, .ref fO, .ref fB, .int bz, .ref fS, .ref fD, .int sz])), (fF, .inl (cI, 41, .inl (nF F))), (fG, .inl (cI, 41, .inl (nF G))), (fT, .inl (cZ, 41, .inl (bF P))), (fN, .inl (cI, 14, .inl N9_5)), (fO, .inl (cI, 41, .inl (nF (va_up Td2 i 1))))] := hD
                    refine lv_aload_n hx hb d_MO_way_97 rfl (lv_at hl 0 rfl) ?_
                    refine lv_aload_n hx hb d_MO_way_98 rfl (lv_at hl 0 rfl) ?_
                    refine va_get (D := (dC, dI)) (ci := 7) (v := .ref fF) (C := R_MO) (T := F_MO) (N := 15) hx hb hts in_MO hown hK.1 hP 0 rfl rfl 3 (by decide) (hts _ wfl_MO_7) (fun _ h9 => h9) rfl d_MO_way_99 ?_
                    refine lv_iload_n hx hb d_MO_way_102 rfl (lv_at hl 3 rfl) ?_
                    refine x_iald (n := 41) (f := (nF F)) (j := i) hx hb hK.1 hP 1 0 rfl rfl (by omega) (by omega) d_MO_way_103 ?_
                    refine xe_i (y := (nI (F i))) rfl ?_
                    refine lv_iload_n hx hb d_MO_way_104 rfl (lv_at hl 2 rfl) ?_
                    refine lv_iconst (v := (nI 0)) hx hb d_MO_way_105 (by decide) ?_
                    refine vp_callSi (va_Run.run (k_V (n := 3) (C := R_MO) (rest := []) ⟨hx, hb, hml, hown, hts⟩ (c_MO_comesToAll_f l dC dI cI cJ cZ o fF fG fT fN fW fO fB fS fD (nI 0) be bz sz nd ar F G P hF hG (by first | assumption | omega) (by first | assumption | omega) (va_up Td2 i 1) (upm_lt hT2 (by decide)) (F i) (hF _) r_4) wml_MO_128 wim_MO_comesToAll wsel_MO_comesToAll wini_MO wcode_MO_comesToAll (by decide +kernel) ⟨Nat.le_of_ble_eq_true rfl, Nat.le_of_ble_eq_true rfl⟩ (preV_R (q := (R_MO, F_MO, 15)) (ci := 7) (q0 := 0) (hP.sub (ws' := [(o, .inr (7, [.int (nI 0), .int (nI nd), .int (nI ar), .ref fF, .ref fG, .ref fT, .ref fN, .ref fW, .int be, .ref fO, .ref fB, .int bz, .ref fS, .ref fD, .int sz])), (fF, .inl (cI, 41, .inl (nF F))), (fG, .inl (cI, 41, .inl (nF G))), (fT, .inl (cZ, 41, .inl (bF P))), (fO, .inl (cI, 41, .inl (nF (va_up Td2 i 1))))]) [0, 1, 2, 3, 5] rfl) hK rfl rfl) rfl hl.1 rfl (Nat.le_of_ble_eq_true rfl) d_MO_way_106 ⟨Nat.zero_le _, Nat.zero_le _⟩)) (fun r_14 hr_15 => ?_)
                    refine xe_i (y := (bI (dc (ctR (dE ar P (va_up Td2 i 1) F G) (F i) r_4)))) hr_15 ?_
                    refine x_if_eq (tgt := 131) hx hb d_MO_way_109 (by decide) (fun c_16 => ?_) (fun c_16 => ?_)
                    · skip
                      refine lv_iconst (v := (nI 0)) hx hb d_MO_way_131 (by decide) ?_
                      refine lv_istore (lv' := [(4, .int (nI 0)), (0, .ref o), (1, .int (nI x)), (2, .int r_4), (3, .int (nI i))]) hx hb d_MO_way_132 hl (by decide) rfl (fun ls hl => ?_)
                      refine lv_aload_n hx hb d_MO_way_134 rfl (lv_at hl 1 rfl) ?_
                      refine va_get (D := (dC, dI)) (ci := 7) (v := .ref fO) (C := R_MO) (T := F_MO) (N := 15) hx hb hts in_MO hown hK.1 hP 0 rfl rfl 9 (by decide) (hts _ wfl_MO_26) (fun _ h9 => h9) rfl d_MO_way_135 ?_
                      refine lv_iload_n hx hb d_MO_way_138 rfl (lv_at hl 4 rfl) ?_
                      refine lv_iload hx hb d_MO_way_139 (lv_at hl 0 rfl) ?_
                      refine lv_if_eq (tgt := 148) hx hb d_MO_way_141 (by decide) (fun _ => ?_) (fun c9 => absurd (by decide : ((nI 0) : Int32) = 0) c9)
                      refine lv_iconst (v := (nI 2)) hx hb d_MO_way_148 (by decide) ?_
                      refine x_iast (g := (nF (va_up (va_up Td2 i 1) i 2))) hx hb hK.1 hP hD hS 5 0 rfl rfl (nF_up _ _ _) (by omega) (by omega) d_MO_way_149 (fun H locs hP hD hS => ?_)
                      have hP : va_P (dC, dI) cls [(o, .inr (7, [.int (nI 0), .int (nI nd), .int (nI ar), .ref fF, .ref fG, .ref fT, .ref fN, .ref fW, .int be, .ref fO, .ref fB, .int bz, .ref fS, .ref fD, .int sz])), (fF, .inl (cI, 41, .inl (nF F))), (fG, .inl (cI, 41, .inl (nF G))), (fT, .inl (cZ, 41, .inl (bF P))), (fN, .inl (cI, 14, .inl N9_5)), (fO, .inl (cI, 41, .inl (nF (va_up (va_up Td2 i 1) i 2))))] H := hP
                      have hD : va_D (ow [(o, .inr (7, [.int th, .int (nI nd), .int (nI ar), .ref fF, .ref fG, .ref fT, .ref fN, .ref fW, .int be, .ref fO, .ref fB, .int bz, .ref fS, .ref fD, .int sz])), (fF, .inl (cI, 41, .inl (nF F))), (fG, .inl (cI, 41, .inl (nF G))), (fT, .inl (cZ, 41, .inl (bF P))), (fN, .inl (cI, 14, .inl N0)), (fO, .inl (cI, 41, .inl (nF Td0)))]) [(o, .inr (7, [.int (nI 0), .int (nI nd), .int (nI ar), .ref fF, .ref fG, .ref fT, .ref fN, .ref fW, .int be, .ref fO, .ref fB, .int bz, .ref fS, .ref fD, .int sz])), (fF, .inl (cI, 41, .inl (nF F))), (fG, .inl (cI, 41, .inl (nF G))), (fT, .inl (cZ, 41, .inl (bF P))), (fN, .inl (cI, 14, .inl N9_5)), (fO, .inl (cI, 41, .inl (nF (va_up (va_up Td2 i 1) i 2))))] := hD
                      refine lv_iinc (v := (nI (i + 1))) (lv' := [(3, .int (nI (i + 1))), (4, .int (nI 0)), (0, .ref o), (1, .int (nI x)), (2, .int r_4)]) hx hb d_MO_way_150 hl (k := 4) rfl (nI_1 _) (by decide) rfl (fun ls hl => ?_)
                      refine lv_goto (tgt := 62) hx hb d_MO_way_153 (by decide) ?_
                      exact ih_62 (va_up (va_up Td2 i 1) i 2) (i + 1) (by omega) (by first | assumption | omega) (upm_lt (upm_lt hT2 (by decide)) (by decide)) (wyI_n hw ⟨c_12, c_13⟩ (Or.inr ⟨rfl, fun z9 => dc_f.mp c_16 ((wy_g hw).mp z9).1⟩)) _ _ hP hD hS ls (lv_sub hl [2, 3, 4, 0] rfl)
                    · skip
                      refine lv_aload_n hx hb d_MO_way_112 rfl (lv_at hl 0 rfl) ?_
                      refine lv_aload_n hx hb d_MO_way_113 rfl (lv_at hl 0 rfl) ?_
                      refine va_get (D := (dC, dI)) (ci := 7) (v := .ref fF) (C := R_MO) (T := F_MO) (N := 15) hx hb hts in_MO hown hK.1 hP 0 rfl rfl 3 (by decide) (hts _ wfl_MO_7) (fun _ h9 => h9) rfl d_MO_way_114 ?_
                      refine lv_iload_n hx hb d_MO_way_117 rfl (lv_at hl 3 rfl) ?_
                      refine x_iald (n := 41) (f := (nF F)) (j := i) hx hb hK.1 hP 1 0 rfl rfl (by omega) (by omega) d_MO_way_118 ?_
                      refine xe_i (y := (nI (F i))) rfl ?_
                      refine lv_iload_n hx hb d_MO_way_119 rfl (lv_at hl 2 rfl) ?_
                      refine lv_iconst (v := (nI 1)) hx hb d_MO_way_120 (by decide) ?_
                      refine vp_callSi (va_Run.run (k_V (n := 3) (C := R_MO) (rest := []) ⟨hx, hb, hml, hown, hts⟩ (c_MO_comesToAll_b l dC dI cI cJ cZ o fF fG fT fN fW fO fB fS fD (nI 0) be bz sz nd ar F G P hF hG (by first | assumption | omega) (by first | assumption | omega) (va_up Td2 i 1) (upm_lt hT2 (by decide)) (F i) (hF _) r_4) wml_MO_128 wim_MO_comesToAll wsel_MO_comesToAll wini_MO wcode_MO_comesToAll (by decide +kernel) ⟨Nat.le_of_ble_eq_true rfl, Nat.le_of_ble_eq_true rfl⟩ (preV_R (q := (R_MO, F_MO, 15)) (ci := 7) (q0 := 0) (hP.sub (ws' := [(o, .inr (7, [.int (nI 0), .int (nI nd), .int (nI ar), .ref fF, .ref fG, .ref fT, .ref fN, .ref fW, .int be, .ref fO, .ref fB, .int bz, .ref fS, .ref fD, .int sz])), (fF, .inl (cI, 41, .inl (nF F))), (fG, .inl (cI, 41, .inl (nF G))), (fT, .inl (cZ, 41, .inl (bF P))), (fO, .inl (cI, 41, .inl (nF (va_up Td2 i 1))))]) [0, 1, 2, 3, 5] rfl) hK rfl rfl) rfl hl.1 rfl (Nat.le_of_ble_eq_true rfl) d_MO_way_121 ⟨Nat.zero_le _, Nat.zero_le _⟩)) (fun r_18 hr_19 => ?_)
                      refine xe_i (y := (bI (dc (ctR (dE ar P (va_up Td2 i 1) G F) (F i) r_4)))) hr_19 ?_
                      refine x_if_eq (tgt := 131) hx hb d_MO_way_124 (by decide) (fun c_20 => ?_) (fun c_20 => ?_)
                      · skip
                        refine lv_iconst (v := (nI 0)) hx hb d_MO_way_131 (by decide) ?_
                        refine lv_istore (lv' := [(4, .int (nI 0)), (0, .ref o), (1, .int (nI x)), (2, .int r_4), (3, .int (nI i))]) hx hb d_MO_way_132 hl (by decide) rfl (fun ls hl => ?_)
                        refine lv_aload_n hx hb d_MO_way_134 rfl (lv_at hl 1 rfl) ?_
                        refine va_get (D := (dC, dI)) (ci := 7) (v := .ref fO) (C := R_MO) (T := F_MO) (N := 15) hx hb hts in_MO hown hK.1 hP 0 rfl rfl 9 (by decide) (hts _ wfl_MO_26) (fun _ h9 => h9) rfl d_MO_way_135 ?_
                        refine lv_iload_n hx hb d_MO_way_138 rfl (lv_at hl 4 rfl) ?_
                        refine lv_iload hx hb d_MO_way_139 (lv_at hl 0 rfl) ?_
                        refine lv_if_eq (tgt := 148) hx hb d_MO_way_141 (by decide) (fun _ => ?_) (fun c9 => absurd (by decide : ((nI 0) : Int32) = 0) c9)
                        refine lv_iconst (v := (nI 2)) hx hb d_MO_way_148 (by decide) ?_
                        refine x_iast (g := (nF (va_up (va_up Td2 i 1) i 2))) hx hb hK.1 hP hD hS 5 0 rfl rfl (nF_up _ _ _) (by omega) (by omega) d_MO_way_149 (fun H locs hP hD hS => ?_)
                        have hP : va_P (dC, dI) cls [(o, .inr (7, [.int (nI 0), .int (nI nd), .int (nI ar), .ref fF, .ref fG, .ref fT, .ref fN, .ref fW, .int be, .ref fO, .ref fB, .int bz, .ref fS, .ref fD, .int sz])), (fF, .inl (cI, 41, .inl (nF F))), (fG, .inl (cI, 41, .inl (nF G))), (fT, .inl (cZ, 41, .inl (bF P))), (fN, .inl (cI, 14, .inl N9_5)), (fO, .inl (cI, 41, .inl (nF (va_up (va_up Td2 i 1) i 2))))] H := hP
                        have hD : va_D (ow [(o, .inr (7, [.int th, .int (nI nd), .int (nI ar), .ref fF, .ref fG, .ref fT, .ref fN, .ref fW, .int be, .ref fO, .ref fB, .int bz, .ref fS, .ref fD, .int sz])), (fF, .inl (cI, 41, .inl (nF F))), (fG, .inl (cI, 41, .inl (nF G))), (fT, .inl (cZ, 41, .inl (bF P))), (fN, .inl (cI, 14, .inl N0)), (fO, .inl (cI, 41, .inl (nF Td0)))]) [(o, .inr (7, [.int (nI 0), .int (nI nd), .int (nI ar), .ref fF, .ref fG, .ref fT, .ref fN, .ref fW, .int be, .ref fO, .ref fB, .int bz, .ref fS, .ref fD, .int sz])), (fF, .inl (cI, 41, .inl (nF F))), (fG, .inl (cI, 41, .inl (nF G))), (fT, .inl (cZ, 41, .inl (bF P))), (fN, .inl (cI, 14, .inl N9_5)), (fO, .inl (cI, 41, .inl (nF (va_up (va_up Td2 i 1) i 2))))] := hD
                        refine lv_iinc (v := (nI (i + 1))) (lv' := [(3, .int (nI (i + 1))), (4, .int (nI 0)), (0, .ref o), (1, .int (nI x)), (2, .int r_4)]) hx hb d_MO_way_150 hl (k := 4) rfl (nI_1 _) (by decide) rfl (fun ls hl => ?_)
                        refine lv_goto (tgt := 62) hx hb d_MO_way_153 (by decide) ?_
                        exact ih_62 (va_up (va_up Td2 i 1) i 2) (i + 1) (by omega) (by first | assumption | omega) (upm_lt (upm_lt hT2 (by decide)) (by decide)) (wyI_n hw ⟨c_12, c_13⟩ (Or.inr ⟨rfl, fun z9 => dc_f.mp c_20 ((wy_g hw).mp z9).2⟩)) _ _ hP hD hS ls (lv_sub hl [2, 3, 4, 0] rfl)
                      · skip
                        refine lv_iconst (v := (nI 1)) hx hb d_MO_way_127 (by decide) ?_
                        refine lv_goto (tgt := 132) hx hb d_MO_way_128 (by decide) ?_
                        refine lv_istore (lv' := [(4, .int (nI 1)), (0, .ref o), (1, .int (nI x)), (2, .int r_4), (3, .int (nI i))]) hx hb d_MO_way_132 hl (by decide) rfl (fun ls hl => ?_)
                        refine lv_aload_n hx hb d_MO_way_134 rfl (lv_at hl 1 rfl) ?_
                        refine va_get (D := (dC, dI)) (ci := 7) (v := .ref fO) (C := R_MO) (T := F_MO) (N := 15) hx hb hts in_MO hown hK.1 hP 0 rfl rfl 9 (by decide) (hts _ wfl_MO_26) (fun _ h9 => h9) rfl d_MO_way_135 ?_
                        refine lv_iload_n hx hb d_MO_way_138 rfl (lv_at hl 4 rfl) ?_
                        refine lv_iload hx hb d_MO_way_139 (lv_at hl 0 rfl) ?_
                        refine lv_if_eq (tgt := 148) hx hb d_MO_way_141 (by decide) (fun c9 => absurd c9 (by decide : ¬ ((nI 1) : Int32) = 0)) (fun _ => ?_)
                        refine lv_iconst (v := (nI 1)) hx hb d_MO_way_144 (by decide) ?_
                        refine lv_goto (tgt := 149) hx hb d_MO_way_145 (by decide) ?_
                        refine x_iast (g := (nF (va_up (va_up Td2 i 1) i 1))) hx hb hK.1 hP hD hS 5 0 rfl rfl (nF_up _ _ _) (by omega) (by omega) d_MO_way_149 (fun H locs hP hD hS => ?_)
                        have hP : va_P (dC, dI) cls [(o, .inr (7, [.int (nI 0), .int (nI nd), .int (nI ar), .ref fF, .ref fG, .ref fT, .ref fN, .ref fW, .int be, .ref fO, .ref fB, .int bz, .ref fS, .ref fD, .int sz])), (fF, .inl (cI, 41, .inl (nF F))), (fG, .inl (cI, 41, .inl (nF G))), (fT, .inl (cZ, 41, .inl (bF P))), (fN, .inl (cI, 14, .inl N9_5)), (fO, .inl (cI, 41, .inl (nF (va_up (va_up Td2 i 1) i 1))))] H := hP
                        have hD : va_D (ow [(o, .inr (7, [.int th, .int (nI nd), .int (nI ar), .ref fF, .ref fG, .ref fT, .ref fN, .ref fW, .int be, .ref fO, .ref fB, .int bz, .ref fS, .ref fD, .int sz])), (fF, .inl (cI, 41, .inl (nF F))), (fG, .inl (cI, 41, .inl (nF G))), (fT, .inl (cZ, 41, .inl (bF P))), (fN, .inl (cI, 14, .inl N0)), (fO, .inl (cI, 41, .inl (nF Td0)))]) [(o, .inr (7, [.int (nI 0), .int (nI nd), .int (nI ar), .ref fF, .ref fG, .ref fT, .ref fN, .ref fW, .int be, .ref fO, .ref fB, .int bz, .ref fS, .ref fD, .int sz])), (fF, .inl (cI, 41, .inl (nF F))), (fG, .inl (cI, 41, .inl (nF G))), (fT, .inl (cZ, 41, .inl (bF P))), (fN, .inl (cI, 14, .inl N9_5)), (fO, .inl (cI, 41, .inl (nF (va_up (va_up Td2 i 1) i 1))))] := hD
                        refine lv_iinc (v := (nI (i + 1))) (lv' := [(3, .int (nI (i + 1))), (4, .int (nI 1)), (0, .ref o), (1, .int (nI x)), (2, .int r_4)]) hx hb d_MO_way_150 hl (k := 4) rfl (nI_1 _) (by decide) rfl (fun ls hl => ?_)
                        refine lv_goto (tgt := 62) hx hb d_MO_way_153 (by decide) ?_
                        exact ih_62 (va_up (va_up Td2 i 1) i 1) (i + 1) (by omega) (by first | assumption | omega) (upm_lt (upm_lt hT2 (by decide)) (by decide)) (wyI_n hw ⟨c_12, c_13⟩ (Or.inl ⟨rfl, (wy_g hw).mpr ⟨dc_t.mp c_16, dc_t.mp c_20⟩⟩)) _ _ hP hD hS ls (lv_sub hl [2, 3, 4, 0] rfl)
          exact L62_9 ((x + 1 - 0) + 1) Td1 0 (Nat.lt_succ_self _) (by first | assumption | omega) hT1 (wyI_0 (fun j hj => hz j (by omega))) _ _ hP hD hS ls (lv_sub hl [1, 2, 3, 0] rfl)
        · skip
          refine lv_aload_n hx hb d_MO_way_47 rfl (lv_at hl 0 rfl) ?_
          refine va_get (D := (dC, dI)) (ci := 7) (v := .ref fO) (C := R_MO) (T := F_MO) (N := 15) hx hb hts in_MO hown hK.1 hP 0 rfl rfl 9 (by decide) (hts _ wfl_MO_26) (fun _ h9 => h9) rfl d_MO_way_48 ?_
          refine lv_iload_n hx hb d_MO_way_51 rfl (lv_at hl 3 rfl) ?_
          refine lv_iconst (v := (nI 0)) hx hb d_MO_way_52 (by decide) ?_
          refine x_iast (g := (nF (va_up Td1 i 0))) hx hb hK.1 hP hD hS 5 0 rfl rfl (nF_up _ _ _) (by omega) (by omega) d_MO_way_53 (fun H locs hP hD hS => ?_)
          have hP : va_P (dC, dI) cls [(o, .inr (7, [.int (nI 0), .int (nI nd), .int (nI ar), .ref fF, .ref fG, .ref fT, .ref fN, .ref fW, .int be, .ref fO, .ref fB, .int bz, .ref fS, .ref fD, .int sz])), (fF, .inl (cI, 41, .inl (nF F))), (fG, .inl (cI, 41, .inl (nF G))), (fT, .inl (cZ, 41, .inl (bF P))), (fN, .inl (cI, 14, .inl N9_5)), (fO, .inl (cI, 41, .inl (nF (va_up Td1 i 0))))] H := hP
          have hD : va_D (ow [(o, .inr (7, [.int th, .int (nI nd), .int (nI ar), .ref fF, .ref fG, .ref fT, .ref fN, .ref fW, .int be, .ref fO, .ref fB, .int bz, .ref fS, .ref fD, .int sz])), (fF, .inl (cI, 41, .inl (nF F))), (fG, .inl (cI, 41, .inl (nF G))), (fT, .inl (cZ, 41, .inl (bF P))), (fN, .inl (cI, 14, .inl N0)), (fO, .inl (cI, 41, .inl (nF Td0)))]) [(o, .inr (7, [.int (nI 0), .int (nI nd), .int (nI ar), .ref fF, .ref fG, .ref fT, .ref fN, .ref fW, .int be, .ref fO, .ref fB, .int bz, .ref fS, .ref fD, .int sz])), (fF, .inl (cI, 41, .inl (nF F))), (fG, .inl (cI, 41, .inl (nF G))), (fT, .inl (cZ, 41, .inl (bF P))), (fN, .inl (cI, 14, .inl N9_5)), (fO, .inl (cI, 41, .inl (nF (va_up Td1 i 0))))] := hD
          refine lv_iinc (v := (nI (i + 1))) (lv' := [(3, .int (nI (i + 1))), (0, .ref o), (1, .int (nI x)), (2, .int r_4)]) hx hb d_MO_way_54 hl (k := 3) rfl (nI_1 _) (by decide) rfl (fun ls hl => ?_)
          refine lv_goto (tgt := 39) hx hb d_MO_way_57 (by decide) ?_
          exact ih_39 (va_up Td1 i 0) (i + 1) (by omega) (by first | assumption | omega) (upm_lt hT1 (by decide)) (fillN_s hz) _ _ hP hD hS ls (lv_sub hl [1, 2, 3, 0] rfl)
    exact L39_7 ((ar - 0) + 1) Td0 0 (Nat.lt_succ_self _) (by first | assumption | omega) hTd0 (fun n hn => absurd hn (Nat.not_lt_zero _)) _ _ hP hD hS ls (lv_sub hl [2, 3, 1, 0] rfl)
  · skip
    exact absurd (dc_t.mp c_6) (hbr _ hu_4.1)

theorem d_MO_together_0 : decode prog_9_method_48_code 0 = .ok (.aload_n 0, 1) := by decide +kernel
theorem d_MO_together_1 : decode prog_9_method_48_code 1 = .ok (.iconst 0, 1) := by decide +kernel
theorem d_MO_together_2 : decode prog_9_method_48_code 2 = .ok (.putfield 38, 3) := by decide +kernel
theorem d_MO_together_5 : decode prog_9_method_48_code 5 = .ok (.aload_n 0, 1) := by decide +kernel
theorem d_MO_together_6 : decode prog_9_method_48_code 6 = .ok (.iload_n 1, 1) := by decide +kernel
theorem d_MO_together_7 : decode prog_9_method_48_code 7 = .ok (.invokevirtual 113, 3) := by decide +kernel
theorem d_MO_together_10 : decode prog_9_method_48_code 10 = .ok (.ifCond .eq 11, 3) := by decide +kernel
theorem d_MO_together_13 : decode prog_9_method_48_code 13 = .ok (.aload_n 0, 1) := by decide +kernel
theorem d_MO_together_14 : decode prog_9_method_48_code 14 = .ok (.iload_n 2, 1) := by decide +kernel
theorem d_MO_together_15 : decode prog_9_method_48_code 15 = .ok (.invokevirtual 113, 3) := by decide +kernel
theorem d_MO_together_18 : decode prog_9_method_48_code 18 = .ok (.ifCond .ne 5, 3) := by decide +kernel
theorem d_MO_together_21 : decode prog_9_method_48_code 21 = .ok (.iconst (-1), 1) := by decide +kernel
theorem d_MO_together_22 : decode prog_9_method_48_code 22 = .ok (.ireturn, 1) := by decide +kernel
theorem d_MO_together_23 : decode prog_9_method_48_code 23 = .ok (.aload_n 0, 1) := by decide +kernel
theorem d_MO_together_24 : decode prog_9_method_48_code 24 = .ok (.iload_n 1, 1) := by decide +kernel
theorem d_MO_together_25 : decode prog_9_method_48_code 25 = .ok (.iload_n 2, 1) := by decide +kernel
theorem d_MO_together_26 : decode prog_9_method_48_code 26 = .ok (.invokevirtual 76, 3) := by decide +kernel
theorem d_MO_together_29 : decode prog_9_method_48_code 29 = .ok (.ifCond .ne 6, 3) := by decide +kernel
theorem d_MO_together_32 : decode prog_9_method_48_code 32 = .ok (.bipush (-3), 2) := by decide +kernel
theorem d_MO_together_34 : decode prog_9_method_48_code 34 = .ok (.ireturn, 1) := by decide +kernel
theorem d_MO_together_35 : decode prog_9_method_48_code 35 = .ok (.aload_n 0, 1) := by decide +kernel
theorem d_MO_together_36 : decode prog_9_method_48_code 36 = .ok (.iload_n 1, 1) := by decide +kernel
theorem d_MO_together_37 : decode prog_9_method_48_code 37 = .ok (.invokevirtual 141, 3) := by decide +kernel
theorem d_MO_together_40 : decode prog_9_method_48_code 40 = .ok (.aload_n 0, 1) := by decide +kernel
theorem d_MO_together_41 : decode prog_9_method_48_code 41 = .ok (.getfield 132, 3) := by decide +kernel
theorem d_MO_together_44 : decode prog_9_method_48_code 44 = .ok (.bipush 14, 2) := by decide +kernel
theorem d_MO_together_46 : decode prog_9_method_48_code 46 = .ok (.if_icmp .le 6, 3) := by decide +kernel
theorem d_MO_together_49 : decode prog_9_method_48_code 49 = .ok (.bipush (-4), 2) := by decide +kernel
theorem d_MO_together_51 : decode prog_9_method_48_code 51 = .ok (.ireturn, 1) := by decide +kernel
theorem d_MO_together_52 : decode prog_9_method_48_code 52 = .ok (.aload_n 0, 1) := by decide +kernel
theorem d_MO_together_53 : decode prog_9_method_48_code 53 = .ok (.invokevirtual 144, 3) := by decide +kernel
theorem d_MO_together_56 : decode prog_9_method_48_code 56 = .ok (.aload_n 0, 1) := by decide +kernel
theorem d_MO_together_57 : decode prog_9_method_48_code 57 = .ok (.aload_n 0, 1) := by decide +kernel
theorem d_MO_together_58 : decode prog_9_method_48_code 58 = .ok (.iload_n 1, 1) := by decide +kernel
theorem d_MO_together_59 : decode prog_9_method_48_code 59 = .ok (.invokevirtual 147, 3) := by decide +kernel
theorem d_MO_together_62 : decode prog_9_method_48_code 62 = .ok (.aload_n 0, 1) := by decide +kernel
theorem d_MO_together_63 : decode prog_9_method_48_code 63 = .ok (.iload_n 2, 1) := by decide +kernel
theorem d_MO_together_64 : decode prog_9_method_48_code 64 = .ok (.invokevirtual 147, 3) := by decide +kernel
theorem d_MO_together_67 : decode prog_9_method_48_code 67 = .ok (.invokevirtual 150, 3) := by decide +kernel
theorem d_MO_together_70 : decode prog_9_method_48_code 70 = .ok (.ifCond .eq 7, 3) := by decide +kernel
theorem d_MO_together_73 : decode prog_9_method_48_code 73 = .ok (.iconst 1, 1) := by decide +kernel
theorem d_MO_together_74 : decode prog_9_method_48_code 74 = .ok (.goto 4, 3) := by decide +kernel
theorem d_MO_together_77 : decode prog_9_method_48_code 77 = .ok (.iconst 0, 1) := by decide +kernel
theorem d_MO_together_78 : decode prog_9_method_48_code 78 = .ok (.ireturn, 1) := by decide +kernel
set_option maxHeartbeats 4000000 in
set_option maxRecDepth 100000 in
theorem c_MO_together_b (l : Launch) (dC : Nat → ClassId) (dI : Nat → Nat → Nat) (cI cJ cZ : ClassId) (o fF fG fT fN fW fO fB fS fD : Nat) (th be bz sz : Int32) (nd ar : Nat) (P : Nat → Bool) (x y : Int32) (har : ar ≤ 40) (hbad : (vd x ar && P x.toNatClampNeg) = false) : Met l ⟨"CutPointsModel", "together", "(II)I"⟩ (Cond.code ⟨"CutPointsModel", "together", "(II)I"⟩ prog_9_method_48_code 3 (some .int) :: TT) (rmk 2 43) (PM dC dI cI cJ cZ [.ref o, .int x, .int y] [(o, .inr (7, [.int th, .int (nI nd), .int (nI ar), .ref fF, .ref fG, .ref fT, .ref fN, .ref fW, .int be, .ref fO, .ref fB, .int bz, .ref fS, .ref fD, .int sz])), (fT, .inl (cZ, 41, .inl (bF P)))]) (va_Qi (S := Unit) (fun r u9 => r = -1) (fun u9 t9 => va_P (dC, dI) cls ([(o, .inr (7, [.int (nI 0), .int (nI nd), .int (nI ar), .ref fF, .ref fG, .ref fT, .ref fN, .ref fW, .int be, .ref fO, .ref fB, .int bz, .ref fS, .ref fD, .int sz])), (fT, .inl (cZ, 41, .inl (bF P)))]) t9.heap) (ow [(o, .inr (7, [.int th, .int (nI nd), .int (nI ar), .ref fF, .ref fG, .ref fT, .ref fN, .ref fW, .int be, .ref fO, .ref fB, .int bz, .ref fS, .ref fD, .int sz])), (fT, .inl (cZ, 41, .inl (bF P)))])) 0 0 (ow [(o, .inr (7, [.int th, .int (nI nd), .int (nI ar), .ref fF, .ref fG, .ref fT, .ref fN, .ref fW, .int be, .ref fO, .ref fB, .int bz, .ref fS, .ref fD, .int sz])), (fT, .inl (cZ, 41, .inl (bF P)))]) := by
  refine Met.ofW (cc := prog_9_method_48_code) (maxL := 3) (ret := (some .int)) (by decide) rfl ?_
  intro p e s m args below meth c s₁ BB9 hml hv
  obtain ⟨rfl, hP, hK, hD0⟩ := hv
  have hx := BB9.exec
  have hb := BB9.bytes
  have hr := BB9.returns
  have hts : ∀ w ∈ TT, w.before _ s = true := fun w h => atoms_spec (ws := (Cond.code ⟨"CutPointsModel", "together", "(II)I"⟩ prog_9_method_48_code 3 (some .int) :: TT)) BB9.pre w (List.mem_cons_of_mem _ h)
  have hown : s.vm.findClass "CutPointsModel" = some m.cls := findClass_of_methodNamed BB9.named
  have hlocks := BB9.notSynchronized
  have hD := hD0.mine
  have hS : va_S (ow [(o, .inr (7, [.int th, .int (nI nd), .int (nI ar), .ref fF, .ref fG, .ref fT, .ref fN, .ref fW, .int be, .ref fO, .ref fB, .int bz, .ref fS, .ref fD, .int sz])), (fT, .inl (cZ, 41, .inl (bF P)))]) s.heap s.heap [] := va_S.rf
  have hl := lv_entry ([.ref o, .int x, .int y]) (n := 3) (Nat.le_of_ble_eq_true rfl)
  rw [lg_entry_eq]
  generalize (lg_sl ([.ref o, .int x, .int y]) ++ List.replicate (3 - (lg_sl ([.ref o, .int x, .int y])).length) Slot.unset).toArray = ls at hl ⊢
  have hl : lv_has ls 3 [(0, .ref o), (1, .int x), (2, .int y)] := hl
  refine lv_aload_n hx hb d_MO_together_0 rfl (lv_at hl 0 rfl) ?_
  refine lv_iconst (v := (nI 0)) hx hb d_MO_together_1 (by decide) ?_
  refine va_put (D := (dC, dI)) (ci := 7) (v := .int (nI 0)) (ty := .int) (C := R_MO) (T := F_MO) (N := 15) hx hb hts in_MO t_MO t_MO_ok n_MO hown hK.1 hP hD hS 0 rfl rfl 0 (by decide) (hts _ wfl_MO_38) (fun _ h9 => h9) rfl (by decide +kernel) rfl rfl (Nat.le_of_ble_eq_true rfl) d_MO_together_2 (fun H locs hP hD hS => ?_)
  have hP : va_P (dC, dI) cls [(o, .inr (7, [.int (nI 0), .int (nI nd), .int (nI ar), .ref fF, .ref fG, .ref fT, .ref fN, .ref fW, .int be, .ref fO, .ref fB, .int bz, .ref fS, .ref fD, .int sz])), (fT, .inl (cZ, 41, .inl (bF P)))] H := hP
  have hD : va_D (ow [(o, .inr (7, [.int th, .int (nI nd), .int (nI ar), .ref fF, .ref fG, .ref fT, .ref fN, .ref fW, .int be, .ref fO, .ref fB, .int bz, .ref fS, .ref fD, .int sz])), (fT, .inl (cZ, 41, .inl (bF P)))]) [(o, .inr (7, [.int (nI 0), .int (nI nd), .int (nI ar), .ref fF, .ref fG, .ref fT, .ref fN, .ref fW, .int be, .ref fO, .ref fB, .int bz, .ref fS, .ref fD, .int sz])), (fT, .inl (cZ, 41, .inl (bF P)))] := hD
  refine lv_aload_n hx hb d_MO_together_5 rfl (lv_at hl 0 rfl) ?_
  refine lv_iload_n hx hb d_MO_together_6 rfl (lv_at hl 1 rfl) ?_
  refine vp_callSi (va_Run.run (k_V (n := 1) (C := R_MO) (rest := []) ⟨hx, hb, hml, hown, hts⟩ (c_MO_isThere l dC dI cI cJ cZ o fF fG fT fN fW fO fB fS fD (nI 0) be bz sz nd ar P x (by first | assumption | omega)) wml_MO_113 wim_MO_isThere wsel_MO_isThere wini_MO wcode_MO_isThere (by decide +kernel) ⟨Nat.le_of_ble_eq_true rfl, Nat.le_of_ble_eq_true rfl⟩ (preV_R (q := (R_MO, F_MO, 15)) (ci := 7) (q0 := 0) (hP.sub (ws' := [(o, .inr (7, [.int (nI 0), .int (nI nd), .int (nI ar), .ref fF, .ref fG, .ref fT, .ref fN, .ref fW, .int be, .ref fO, .ref fB, .int bz, .ref fS, .ref fD, .int sz])), (fT, .inl (cZ, 41, .inl (bF P)))]) [0, 1] rfl) hK rfl rfl) rfl hl.1 rfl (Nat.le_of_ble_eq_true rfl) d_MO_together_7 ⟨Nat.zero_le _, Nat.zero_le _⟩)) (fun r_1 hr_2 => ?_)
  refine xe_i (y := (bI (vd x ar && P x.toNatClampNeg))) hr_2 ?_
  refine xe_i (y := (bI false)) (by rw [hbad]) ?_
  refine lv_if_eq (tgt := 21) hx hb d_MO_together_10 (by decide) (fun _ => ?_) (fun c9 => absurd (by decide : ((bI false) : Int32) = 0) c9)
  refine lv_iconst (v := (-1)) hx hb d_MO_together_21 (by decide) ?_
  exact W.iret (v := (-1)) hx hb hr (fun t9 ht9 _ => ⟨⟨_, (), rfl, rfl, by show va_P (dC, dI) cls _ t9.heap; rw [ht9]; exact hP⟩, hS.F ht9⟩) hS.2.2 d_MO_together_22

set_option maxHeartbeats 4000000 in
set_option maxRecDepth 100000 in
theorem c_MO_together_c (l : Launch) (dC : Nat → ClassId) (dI : Nat → Nat → Nat) (cI cJ cZ : ClassId) (o fF fG fT fN fW fO fB fS fD : Nat) (th be bz sz : Int32) (nd ar : Nat) (P : Nat → Bool) (har : ar ≤ 40) (x : Nat) (hxa : x < ar) (hPx : P x = true) (y : Int32) (hbad : (vd y ar && P y.toNatClampNeg) = false) : Met l ⟨"CutPointsModel", "together", "(II)I"⟩ (Cond.code ⟨"CutPointsModel", "together", "(II)I"⟩ prog_9_method_48_code 3 (some .int) :: TT) (rmk 2 43) (PM dC dI cI cJ cZ [.ref o, .int (nI x), .int y] [(o, .inr (7, [.int th, .int (nI nd), .int (nI ar), .ref fF, .ref fG, .ref fT, .ref fN, .ref fW, .int be, .ref fO, .ref fB, .int bz, .ref fS, .ref fD, .int sz])), (fT, .inl (cZ, 41, .inl (bF P)))]) (va_Qi (S := Unit) (fun r u9 => r = -1) (fun u9 t9 => va_P (dC, dI) cls ([(o, .inr (7, [.int (nI 0), .int (nI nd), .int (nI ar), .ref fF, .ref fG, .ref fT, .ref fN, .ref fW, .int be, .ref fO, .ref fB, .int bz, .ref fS, .ref fD, .int sz])), (fT, .inl (cZ, 41, .inl (bF P)))]) t9.heap) (ow [(o, .inr (7, [.int th, .int (nI nd), .int (nI ar), .ref fF, .ref fG, .ref fT, .ref fN, .ref fW, .int be, .ref fO, .ref fB, .int bz, .ref fS, .ref fD, .int sz])), (fT, .inl (cZ, 41, .inl (bF P)))])) 0 0 (ow [(o, .inr (7, [.int th, .int (nI nd), .int (nI ar), .ref fF, .ref fG, .ref fT, .ref fN, .ref fW, .int be, .ref fO, .ref fB, .int bz, .ref fS, .ref fD, .int sz])), (fT, .inl (cZ, 41, .inl (bF P)))]) := by
  refine Met.ofW (cc := prog_9_method_48_code) (maxL := 3) (ret := (some .int)) (by decide) rfl ?_
  intro p e s m args below meth c s₁ BB9 hml hv
  obtain ⟨rfl, hP, hK, hD0⟩ := hv
  have hx := BB9.exec
  have hb := BB9.bytes
  have hr := BB9.returns
  have hts : ∀ w ∈ TT, w.before _ s = true := fun w h => atoms_spec (ws := (Cond.code ⟨"CutPointsModel", "together", "(II)I"⟩ prog_9_method_48_code 3 (some .int) :: TT)) BB9.pre w (List.mem_cons_of_mem _ h)
  have hown : s.vm.findClass "CutPointsModel" = some m.cls := findClass_of_methodNamed BB9.named
  have hlocks := BB9.notSynchronized
  have hD := hD0.mine
  have hS : va_S (ow [(o, .inr (7, [.int th, .int (nI nd), .int (nI ar), .ref fF, .ref fG, .ref fT, .ref fN, .ref fW, .int be, .ref fO, .ref fB, .int bz, .ref fS, .ref fD, .int sz])), (fT, .inl (cZ, 41, .inl (bF P)))]) s.heap s.heap [] := va_S.rf
  have hl := lv_entry ([.ref o, .int (nI x), .int y]) (n := 3) (Nat.le_of_ble_eq_true rfl)
  rw [lg_entry_eq]
  generalize (lg_sl ([.ref o, .int (nI x), .int y]) ++ List.replicate (3 - (lg_sl ([.ref o, .int (nI x), .int y])).length) Slot.unset).toArray = ls at hl ⊢
  have hl : lv_has ls 3 [(0, .ref o), (1, .int (nI x)), (2, .int y)] := hl
  refine lv_aload_n hx hb d_MO_together_0 rfl (lv_at hl 0 rfl) ?_
  refine lv_iconst (v := (nI 0)) hx hb d_MO_together_1 (by decide) ?_
  refine va_put (D := (dC, dI)) (ci := 7) (v := .int (nI 0)) (ty := .int) (C := R_MO) (T := F_MO) (N := 15) hx hb hts in_MO t_MO t_MO_ok n_MO hown hK.1 hP hD hS 0 rfl rfl 0 (by decide) (hts _ wfl_MO_38) (fun _ h9 => h9) rfl (by decide +kernel) rfl rfl (Nat.le_of_ble_eq_true rfl) d_MO_together_2 (fun H locs hP hD hS => ?_)
  have hP : va_P (dC, dI) cls [(o, .inr (7, [.int (nI 0), .int (nI nd), .int (nI ar), .ref fF, .ref fG, .ref fT, .ref fN, .ref fW, .int be, .ref fO, .ref fB, .int bz, .ref fS, .ref fD, .int sz])), (fT, .inl (cZ, 41, .inl (bF P)))] H := hP
  have hD : va_D (ow [(o, .inr (7, [.int th, .int (nI nd), .int (nI ar), .ref fF, .ref fG, .ref fT, .ref fN, .ref fW, .int be, .ref fO, .ref fB, .int bz, .ref fS, .ref fD, .int sz])), (fT, .inl (cZ, 41, .inl (bF P)))]) [(o, .inr (7, [.int (nI 0), .int (nI nd), .int (nI ar), .ref fF, .ref fG, .ref fT, .ref fN, .ref fW, .int be, .ref fO, .ref fB, .int bz, .ref fS, .ref fD, .int sz])), (fT, .inl (cZ, 41, .inl (bF P)))] := hD
  refine lv_aload_n hx hb d_MO_together_5 rfl (lv_at hl 0 rfl) ?_
  refine lv_iload_n hx hb d_MO_together_6 rfl (lv_at hl 1 rfl) ?_
  refine vp_callSi (va_Run.run (k_V (n := 1) (C := R_MO) (rest := []) ⟨hx, hb, hml, hown, hts⟩ (c_MO_isThere l dC dI cI cJ cZ o fF fG fT fN fW fO fB fS fD (nI 0) be bz sz nd ar P (nI x) (by first | assumption | omega)) wml_MO_113 wim_MO_isThere wsel_MO_isThere wini_MO wcode_MO_isThere (by decide +kernel) ⟨Nat.le_of_ble_eq_true rfl, Nat.le_of_ble_eq_true rfl⟩ (preV_R (q := (R_MO, F_MO, 15)) (ci := 7) (q0 := 0) (hP.sub (ws' := [(o, .inr (7, [.int (nI 0), .int (nI nd), .int (nI ar), .ref fF, .ref fG, .ref fT, .ref fN, .ref fW, .int be, .ref fO, .ref fB, .int bz, .ref fS, .ref fD, .int sz])), (fT, .inl (cZ, 41, .inl (bF P)))]) [0, 1] rfl) hK rfl rfl) rfl hl.1 rfl (Nat.le_of_ble_eq_true rfl) d_MO_together_7 ⟨Nat.zero_le _, Nat.zero_le _⟩)) (fun r_1 hr_2 => ?_)
  refine xe_i (y := (bI (vd (nI x) ar && P (nI x).toNatClampNeg))) hr_2 ?_
  refine xe_i (y := (bI true)) (by rw [tm_tt (by omega) hxa hPx]) ?_
  refine lv_if_eq (tgt := 21) hx hb d_MO_together_10 (by decide) (fun c9 => absurd c9 (by decide : ¬ ((bI true) : Int32) = 0)) (fun _ => ?_)
  refine lv_aload_n hx hb d_MO_together_13 rfl (lv_at hl 0 rfl) ?_
  refine lv_iload_n hx hb d_MO_together_14 rfl (lv_at hl 2 rfl) ?_
  refine vp_callSi (va_Run.run (k_V (n := 1) (C := R_MO) (rest := []) ⟨hx, hb, hml, hown, hts⟩ (c_MO_isThere l dC dI cI cJ cZ o fF fG fT fN fW fO fB fS fD (nI 0) be bz sz nd ar P y (by first | assumption | omega)) wml_MO_113 wim_MO_isThere wsel_MO_isThere wini_MO wcode_MO_isThere (by decide +kernel) ⟨Nat.le_of_ble_eq_true rfl, Nat.le_of_ble_eq_true rfl⟩ (preV_R (q := (R_MO, F_MO, 15)) (ci := 7) (q0 := 0) (hP.sub (ws' := [(o, .inr (7, [.int (nI 0), .int (nI nd), .int (nI ar), .ref fF, .ref fG, .ref fT, .ref fN, .ref fW, .int be, .ref fO, .ref fB, .int bz, .ref fS, .ref fD, .int sz])), (fT, .inl (cZ, 41, .inl (bF P)))]) [0, 1] rfl) hK rfl rfl) rfl hl.1 rfl (Nat.le_of_ble_eq_true rfl) d_MO_together_15 ⟨Nat.zero_le _, Nat.zero_le _⟩)) (fun r_4 hr_5 => ?_)
  refine xe_i (y := (bI (vd y ar && P y.toNatClampNeg))) hr_5 ?_
  refine xe_i (y := (bI false)) (by rw [hbad]) ?_
  refine lv_if_ne (tgt := 23) hx hb d_MO_together_18 (by decide) (fun c9 => absurd (by decide : ((bI false) : Int32) = 0) c9) (fun _ => ?_)
  refine lv_iconst (v := (-1)) hx hb d_MO_together_21 (by decide) ?_
  exact W.iret (v := (-1)) hx hb hr (fun t9 ht9 _ => ⟨⟨_, (), rfl, rfl, by show va_P (dC, dI) cls _ t9.heap; rw [ht9]; exact hP⟩, hS.F ht9⟩) hS.2.2 d_MO_together_22

set_option maxHeartbeats 4000000 in
set_option maxRecDepth 100000 in
theorem c_MO_together_n (l : Launch) (dC : Nat → ClassId) (dI : Nat → Nat → Nat) (cI cJ cZ : ClassId) (o fF fG fT fN fW fO fB fS fD : Nat) (th be bz sz : Int32) (nd ar : Nat) (F G : Nat → Nat) (P : Nat → Bool) (hF : ∀ k, F k < 14) (hG : ∀ k, G k < 14) (hnd : nd ≤ 14) (har : ar ≤ 40) (hM : ∀ e, e < ar → F e < nd ∧ G e < nd) (N0 : Nat → Int32) (x : Nat) (hxa : x < ar) (hPx : P x = true) (y : Nat) (hya : y < ar) (hPy : P y = true) (hnb : ¬ (abR ar nd P F G x y)) : Met l ⟨"CutPointsModel", "together", "(II)I"⟩ (Cond.code ⟨"CutPointsModel", "together", "(II)I"⟩ prog_9_method_48_code 3 (some .int) :: TT) (rmk 2 52) (PM dC dI cI cJ cZ [.ref o, .int (nI x), .int (nI y)] [(o, .inr (7, [.int th, .int (nI nd), .int (nI ar), .ref fF, .ref fG, .ref fT, .ref fN, .ref fW, .int be, .ref fO, .ref fB, .int bz, .ref fS, .ref fD, .int sz])), (fF, .inl (cI, 41, .inl (nF F))), (fG, .inl (cI, 41, .inl (nF G))), (fT, .inl (cZ, 41, .inl (bF P))), (fN, .inl (cI, 14, .inl N0))]) (va_Qi (S := Nat → Int32) (fun r u9 => r = -3) (fun u9 t9 => va_P (dC, dI) cls ([(o, .inr (7, [.int (nI 0), .int (nI nd), .int (nI ar), .ref fF, .ref fG, .ref fT, .ref fN, .ref fW, .int be, .ref fO, .ref fB, .int bz, .ref fS, .ref fD, .int sz])), (fF, .inl (cI, 41, .inl (nF F))), (fG, .inl (cI, 41, .inl (nF G))), (fT, .inl (cZ, 41, .inl (bF P))), (fN, .inl (cI, 14, .inl u9))]) t9.heap) (ow [(o, .inr (7, [.int th, .int (nI nd), .int (nI ar), .ref fF, .ref fG, .ref fT, .ref fN, .ref fW, .int be, .ref fO, .ref fB, .int bz, .ref fS, .ref fD, .int sz])), (fF, .inl (cI, 41, .inl (nF F))), (fG, .inl (cI, 41, .inl (nF G))), (fT, .inl (cZ, 41, .inl (bF P))), (fN, .inl (cI, 14, .inl N0))])) 0 0 (ow [(o, .inr (7, [.int th, .int (nI nd), .int (nI ar), .ref fF, .ref fG, .ref fT, .ref fN, .ref fW, .int be, .ref fO, .ref fB, .int bz, .ref fS, .ref fD, .int sz])), (fF, .inl (cI, 41, .inl (nF F))), (fG, .inl (cI, 41, .inl (nF G))), (fT, .inl (cZ, 41, .inl (bF P))), (fN, .inl (cI, 14, .inl N0))]) := by
  refine Met.ofW (cc := prog_9_method_48_code) (maxL := 3) (ret := (some .int)) (by decide) rfl ?_
  intro p e s m args below meth c s₁ BB9 hml hv
  obtain ⟨rfl, hP, hK, hD0⟩ := hv
  have hx := BB9.exec
  have hb := BB9.bytes
  have hr := BB9.returns
  have hts : ∀ w ∈ TT, w.before _ s = true := fun w h => atoms_spec (ws := (Cond.code ⟨"CutPointsModel", "together", "(II)I"⟩ prog_9_method_48_code 3 (some .int) :: TT)) BB9.pre w (List.mem_cons_of_mem _ h)
  have hown : s.vm.findClass "CutPointsModel" = some m.cls := findClass_of_methodNamed BB9.named
  have hlocks := BB9.notSynchronized
  have hD := hD0.mine
  have hS : va_S (ow [(o, .inr (7, [.int th, .int (nI nd), .int (nI ar), .ref fF, .ref fG, .ref fT, .ref fN, .ref fW, .int be, .ref fO, .ref fB, .int bz, .ref fS, .ref fD, .int sz])), (fF, .inl (cI, 41, .inl (nF F))), (fG, .inl (cI, 41, .inl (nF G))), (fT, .inl (cZ, 41, .inl (bF P))), (fN, .inl (cI, 14, .inl N0))]) s.heap s.heap [] := va_S.rf
  have hl := lv_entry ([.ref o, .int (nI x), .int (nI y)]) (n := 3) (Nat.le_of_ble_eq_true rfl)
  rw [lg_entry_eq]
  generalize (lg_sl ([.ref o, .int (nI x), .int (nI y)]) ++ List.replicate (3 - (lg_sl ([.ref o, .int (nI x), .int (nI y)])).length) Slot.unset).toArray = ls at hl ⊢
  have hl : lv_has ls 3 [(0, .ref o), (1, .int (nI x)), (2, .int (nI y))] := hl
  refine lv_aload_n hx hb d_MO_together_0 rfl (lv_at hl 0 rfl) ?_
  refine lv_iconst (v := (nI 0)) hx hb d_MO_together_1 (by decide) ?_
  refine va_put (D := (dC, dI)) (ci := 7) (v := .int (nI 0)) (ty := .int) (C := R_MO) (T := F_MO) (N := 15) hx hb hts in_MO t_MO t_MO_ok n_MO hown hK.1 hP hD hS 0 rfl rfl 0 (by decide) (hts _ wfl_MO_38) (fun _ h9 => h9) rfl (by decide +kernel) rfl rfl (Nat.le_of_ble_eq_true rfl) d_MO_together_2 (fun H locs hP hD hS => ?_)
  have hP : va_P (dC, dI) cls [(o, .inr (7, [.int (nI 0), .int (nI nd), .int (nI ar), .ref fF, .ref fG, .ref fT, .ref fN, .ref fW, .int be, .ref fO, .ref fB, .int bz, .ref fS, .ref fD, .int sz])), (fF, .inl (cI, 41, .inl (nF F))), (fG, .inl (cI, 41, .inl (nF G))), (fT, .inl (cZ, 41, .inl (bF P))), (fN, .inl (cI, 14, .inl N0))] H := hP
  have hD : va_D (ow [(o, .inr (7, [.int th, .int (nI nd), .int (nI ar), .ref fF, .ref fG, .ref fT, .ref fN, .ref fW, .int be, .ref fO, .ref fB, .int bz, .ref fS, .ref fD, .int sz])), (fF, .inl (cI, 41, .inl (nF F))), (fG, .inl (cI, 41, .inl (nF G))), (fT, .inl (cZ, 41, .inl (bF P))), (fN, .inl (cI, 14, .inl N0))]) [(o, .inr (7, [.int (nI 0), .int (nI nd), .int (nI ar), .ref fF, .ref fG, .ref fT, .ref fN, .ref fW, .int be, .ref fO, .ref fB, .int bz, .ref fS, .ref fD, .int sz])), (fF, .inl (cI, 41, .inl (nF F))), (fG, .inl (cI, 41, .inl (nF G))), (fT, .inl (cZ, 41, .inl (bF P))), (fN, .inl (cI, 14, .inl N0))] := hD
  refine lv_aload_n hx hb d_MO_together_5 rfl (lv_at hl 0 rfl) ?_
  refine lv_iload_n hx hb d_MO_together_6 rfl (lv_at hl 1 rfl) ?_
  refine vp_callSi (va_Run.run (k_V (n := 1) (C := R_MO) (rest := []) ⟨hx, hb, hml, hown, hts⟩ (c_MO_isThere l dC dI cI cJ cZ o fF fG fT fN fW fO fB fS fD (nI 0) be bz sz nd ar P (nI x) (by first | assumption | omega)) wml_MO_113 wim_MO_isThere wsel_MO_isThere wini_MO wcode_MO_isThere (by decide +kernel) ⟨Nat.le_of_ble_eq_true rfl, Nat.le_of_ble_eq_true rfl⟩ (preV_R (q := (R_MO, F_MO, 15)) (ci := 7) (q0 := 0) (hP.sub (ws' := [(o, .inr (7, [.int (nI 0), .int (nI nd), .int (nI ar), .ref fF, .ref fG, .ref fT, .ref fN, .ref fW, .int be, .ref fO, .ref fB, .int bz, .ref fS, .ref fD, .int sz])), (fT, .inl (cZ, 41, .inl (bF P)))]) [0, 3] rfl) hK rfl rfl) rfl hl.1 rfl (Nat.le_of_ble_eq_true rfl) d_MO_together_7 ⟨Nat.zero_le _, Nat.zero_le _⟩)) (fun r_1 hr_2 => ?_)
  refine xe_i (y := (bI (vd (nI x) ar && P (nI x).toNatClampNeg))) hr_2 ?_
  refine xe_i (y := (bI true)) (by rw [tm_tt (by omega) hxa hPx]) ?_
  refine lv_if_eq (tgt := 21) hx hb d_MO_together_10 (by decide) (fun c9 => absurd c9 (by decide : ¬ ((bI true) : Int32) = 0)) (fun _ => ?_)
  refine lv_aload_n hx hb d_MO_together_13 rfl (lv_at hl 0 rfl) ?_
  refine lv_iload_n hx hb d_MO_together_14 rfl (lv_at hl 2 rfl) ?_
  refine vp_callSi (va_Run.run (k_V (n := 1) (C := R_MO) (rest := []) ⟨hx, hb, hml, hown, hts⟩ (c_MO_isThere l dC dI cI cJ cZ o fF fG fT fN fW fO fB fS fD (nI 0) be bz sz nd ar P (nI y) (by first | assumption | omega)) wml_MO_113 wim_MO_isThere wsel_MO_isThere wini_MO wcode_MO_isThere (by decide +kernel) ⟨Nat.le_of_ble_eq_true rfl, Nat.le_of_ble_eq_true rfl⟩ (preV_R (q := (R_MO, F_MO, 15)) (ci := 7) (q0 := 0) (hP.sub (ws' := [(o, .inr (7, [.int (nI 0), .int (nI nd), .int (nI ar), .ref fF, .ref fG, .ref fT, .ref fN, .ref fW, .int be, .ref fO, .ref fB, .int bz, .ref fS, .ref fD, .int sz])), (fT, .inl (cZ, 41, .inl (bF P)))]) [0, 3] rfl) hK rfl rfl) rfl hl.1 rfl (Nat.le_of_ble_eq_true rfl) d_MO_together_15 ⟨Nat.zero_le _, Nat.zero_le _⟩)) (fun r_4 hr_5 => ?_)
  refine xe_i (y := (bI (vd (nI y) ar && P (nI y).toNatClampNeg))) hr_5 ?_
  refine xe_i (y := (bI true)) (by rw [tm_tt (by omega) hya hPy]) ?_
  refine lv_if_ne (tgt := 23) hx hb d_MO_together_18 (by decide) (fun _ => ?_) (fun c9 => absurd c9 (by decide : ¬ ((bI true) : Int32) = 0))
  refine lv_aload_n hx hb d_MO_together_23 rfl (lv_at hl 0 rfl) ?_
  refine lv_iload_n hx hb d_MO_together_24 rfl (lv_at hl 1 rfl) ?_
  refine lv_iload_n hx hb d_MO_together_25 rfl (lv_at hl 2 rfl) ?_
  refine x_ci (k_V (n := 2) (C := R_MO) (rest := []) ⟨hx, hb, hml, hown, hts⟩ (c_MO_areBlock l dC dI cI cJ cZ o fF fG fT fN fW fO fB fS fD (nI 0) be bz sz nd ar F G P hF hG (by first | assumption | omega) (by first | assumption | omega) hM N0 x y (by first | assumption | omega) (by first | assumption | omega)) wml_MO_76 wim_MO_areBlock wsel_MO_areBlock wini_MO wcode_MO_areBlock (by decide +kernel) ⟨Nat.le_of_ble_eq_true rfl, Nat.le_of_ble_eq_true rfl⟩ (preV_M (q := (R_MO, F_MO, 15)) (ci := 7) (q0 := 0) (hP.sub (ws' := [(o, .inr (7, [.int (nI 0), .int (nI nd), .int (nI ar), .ref fF, .ref fG, .ref fT, .ref fN, .ref fW, .int be, .ref fO, .ref fB, .int bz, .ref fS, .ref fD, .int sz])), (fF, .inl (cI, 41, .inl (nF F))), (fG, .inl (cI, 41, .inl (nF G))), (fT, .inl (cZ, 41, .inl (bF P))), (fN, .inl (cI, 14, .inl N0))]) [0, 1, 2, 3, 4] rfl) hK (hD.sub (ws' := [(o, .inr (7, [.int (nI 0), .int (nI nd), .int (nI ar), .ref fF, .ref fG, .ref fT, .ref fN, .ref fW, .int be, .ref fO, .ref fB, .int bz, .ref fS, .ref fD, .int sz])), (fF, .inl (cI, 41, .inl (nF F))), (fG, .inl (cI, 41, .inl (nF G))), (fT, .inl (cZ, 41, .inl (bF P))), (fN, .inl (cI, 14, .inl N0))]) [0, 1, 2, 3, 4] (by decide) rfl) rfl rfl) rfl hl.1 rfl (Nat.le_of_ble_eq_true rfl) d_MO_together_26 ⟨Nat.zero_le _, Nat.zero_le _⟩) hP hD hS [0, 1, 2, 3, 4] rfl (fun _ => rfl) (fun r_7 u_7 H locs hu_7 hP hS => ?_)
  obtain ⟨N9_7, rfl⟩ : ∃ z, z = u_7 := ⟨_, rfl⟩
  have hP : va_P (dC, dI) cls [(o, .inr (7, [.int (nI 0), .int (nI nd), .int (nI ar), .ref fF, .ref fG, .ref fT, .ref fN, .ref fW, .int be, .ref fO, .ref fB, .int bz, .ref fS, .ref fD, .int sz])), (fF, .inl (cI, 41, .inl (nF F))), (fG, .inl (cI, 41, .inl (nF G))), (fT, .inl (cZ, 41, .inl (bF P))), (fN, .inl (cI, 14, .inl N9_7))] H := hP
  have hD := hD.addr (ws' := [(o, .inr (7, [.int (nI 0), .int (nI nd), .int (nI ar), .ref fF, .ref fG, .ref fT, .ref fN, .ref fW, .int be, .ref fO, .ref fB, .int bz, .ref fS, .ref fD, .int sz])), (fF, .inl (cI, 41, .inl (nF F))), (fG, .inl (cI, 41, .inl (nF G))), (fT, .inl (cZ, 41, .inl (bF P))), (fN, .inl (cI, 14, .inl N9_7))]) rfl
  refine xe_i (y := (bI (dc (abR ar nd P F G x y)))) hu_7 ?_
  refine x_if_ne (tgt := 35) hx hb d_MO_together_29 (by decide) (fun c_8 => ?_) (fun c_8 => ?_)
  · skip
    exact absurd (dc_t.mp c_8) hnb
  · skip
    refine lv_bipush (v := (-3)) hx hb d_MO_together_32 (by decide) ?_
    exact W.iret (v := (-3)) hx hb hr (fun t9 ht9 _ => ⟨⟨_, (N9_7), rfl, rfl, by show va_P (dC, dI) cls _ t9.heap; rw [ht9]; exact hP⟩, hS.F ht9⟩) hS.2.2 d_MO_together_34

set_option maxHeartbeats 4000000 in
set_option maxRecDepth 100000 in
theorem c_MO_together_l (l : Launch) (dC : Nat → ClassId) (dI : Nat → Nat → Nat) (cI cJ cZ : ClassId) (o fF fG fT fN fW fO fB fS fD : Nat) (th be bz sz : Int32) (nd ar : Nat) (F G : Nat → Nat) (P : Nat → Bool) (hF : ∀ k, F k < 14) (hG : ∀ k, G k < 14) (hnd : nd ≤ 14) (har : ar ≤ 40) (hM : ∀ e, e < ar → F e < nd ∧ G e < nd) (Ob0 : Nat → Nat) (N0 : Nat → Int32) (x : Nat) (hxa : x < ar) (hPx : P x = true) (y : Nat) (hya : y < ar) (hPy : P y = true) (hnb : (abR ar nd P F G x y)) (h14 : 14 < cn (fun f => dc (P f = true ∧ abR ar nd P F G x f)) ar) : Met l ⟨"CutPointsModel", "together", "(II)I"⟩ (Cond.code ⟨"CutPointsModel", "together", "(II)I"⟩ prog_9_method_48_code 3 (some .int) :: TT) (rmk 3 74) (PM dC dI cI cJ cZ [.ref o, .int (nI x), .int (nI y)] [(o, .inr (7, [.int th, .int (nI nd), .int (nI ar), .ref fF, .ref fG, .ref fT, .ref fN, .ref fW, .int be, .ref fO, .ref fB, .int bz, .ref fS, .ref fD, .int sz])), (fF, .inl (cI, 41, .inl (nF F))), (fG, .inl (cI, 41, .inl (nF G))), (fT, .inl (cZ, 41, .inl (bF P))), (fN, .inl (cI, 14, .inl N0)), (fB, .inl (cI, 41, .inl (nF Ob0)))]) (va_Qi (S := Nat × (Nat → Int32) × (Nat → Nat)) (fun r u9 => r = -4) (fun u9 t9 => va_P (dC, dI) cls ([(o, .inr (7, [.int (nI 0), .int (nI nd), .int (nI ar), .ref fF, .ref fG, .ref fT, .ref fN, .ref fW, .int be, .ref fO, .ref fB, .int (nI u9.1), .ref fS, .ref fD, .int sz])), (fF, .inl (cI, 41, .inl (nF F))), (fG, .inl (cI, 41, .inl (nF G))), (fT, .inl (cZ, 41, .inl (bF P))), (fN, .inl (cI, 14, .inl u9.2.1)), (fB, .inl (cI, 41, .inl (nF u9.2.2)))]) t9.heap) (ow [(o, .inr (7, [.int th, .int (nI nd), .int (nI ar), .ref fF, .ref fG, .ref fT, .ref fN, .ref fW, .int be, .ref fO, .ref fB, .int bz, .ref fS, .ref fD, .int sz])), (fF, .inl (cI, 41, .inl (nF F))), (fG, .inl (cI, 41, .inl (nF G))), (fT, .inl (cZ, 41, .inl (bF P))), (fN, .inl (cI, 14, .inl N0)), (fB, .inl (cI, 41, .inl (nF Ob0)))])) 0 0 (ow [(o, .inr (7, [.int th, .int (nI nd), .int (nI ar), .ref fF, .ref fG, .ref fT, .ref fN, .ref fW, .int be, .ref fO, .ref fB, .int bz, .ref fS, .ref fD, .int sz])), (fF, .inl (cI, 41, .inl (nF F))), (fG, .inl (cI, 41, .inl (nF G))), (fT, .inl (cZ, 41, .inl (bF P))), (fN, .inl (cI, 14, .inl N0)), (fB, .inl (cI, 41, .inl (nF Ob0)))]) := by
  refine Met.ofW (cc := prog_9_method_48_code) (maxL := 3) (ret := (some .int)) (by decide) rfl ?_
  intro p e s m args below meth c s₁ BB9 hml hv
  obtain ⟨rfl, hP, hK, hD0⟩ := hv
  have hx := BB9.exec
  have hb := BB9.bytes
  have hr := BB9.returns
  have hts : ∀ w ∈ TT, w.before _ s = true := fun w h => atoms_spec (ws := (Cond.code ⟨"CutPointsModel", "together", "(II)I"⟩ prog_9_method_48_code 3 (some .int) :: TT)) BB9.pre w (List.mem_cons_of_mem _ h)
  have hown : s.vm.findClass "CutPointsModel" = some m.cls := findClass_of_methodNamed BB9.named
  have hlocks := BB9.notSynchronized
  have hD := hD0.mine
  have hS : va_S (ow [(o, .inr (7, [.int th, .int (nI nd), .int (nI ar), .ref fF, .ref fG, .ref fT, .ref fN, .ref fW, .int be, .ref fO, .ref fB, .int bz, .ref fS, .ref fD, .int sz])), (fF, .inl (cI, 41, .inl (nF F))), (fG, .inl (cI, 41, .inl (nF G))), (fT, .inl (cZ, 41, .inl (bF P))), (fN, .inl (cI, 14, .inl N0)), (fB, .inl (cI, 41, .inl (nF Ob0)))]) s.heap s.heap [] := va_S.rf
  have hl := lv_entry ([.ref o, .int (nI x), .int (nI y)]) (n := 3) (Nat.le_of_ble_eq_true rfl)
  rw [lg_entry_eq]
  generalize (lg_sl ([.ref o, .int (nI x), .int (nI y)]) ++ List.replicate (3 - (lg_sl ([.ref o, .int (nI x), .int (nI y)])).length) Slot.unset).toArray = ls at hl ⊢
  have hl : lv_has ls 3 [(0, .ref o), (1, .int (nI x)), (2, .int (nI y))] := hl
  refine lv_aload_n hx hb d_MO_together_0 rfl (lv_at hl 0 rfl) ?_
  refine lv_iconst (v := (nI 0)) hx hb d_MO_together_1 (by decide) ?_
  refine va_put (D := (dC, dI)) (ci := 7) (v := .int (nI 0)) (ty := .int) (C := R_MO) (T := F_MO) (N := 15) hx hb hts in_MO t_MO t_MO_ok n_MO hown hK.1 hP hD hS 0 rfl rfl 0 (by decide) (hts _ wfl_MO_38) (fun _ h9 => h9) rfl (by decide +kernel) rfl rfl (Nat.le_of_ble_eq_true rfl) d_MO_together_2 (fun H locs hP hD hS => ?_)
  have hP : va_P (dC, dI) cls [(o, .inr (7, [.int (nI 0), .int (nI nd), .int (nI ar), .ref fF, .ref fG, .ref fT, .ref fN, .ref fW, .int be, .ref fO, .ref fB, .int bz, .ref fS, .ref fD, .int sz])), (fF, .inl (cI, 41, .inl (nF F))), (fG, .inl (cI, 41, .inl (nF G))), (fT, .inl (cZ, 41, .inl (bF P))), (fN, .inl (cI, 14, .inl N0)), (fB, .inl (cI, 41, .inl (nF Ob0)))] H := hP
  have hD : va_D (ow [(o, .inr (7, [.int th, .int (nI nd), .int (nI ar), .ref fF, .ref fG, .ref fT, .ref fN, .ref fW, .int be, .ref fO, .ref fB, .int bz, .ref fS, .ref fD, .int sz])), (fF, .inl (cI, 41, .inl (nF F))), (fG, .inl (cI, 41, .inl (nF G))), (fT, .inl (cZ, 41, .inl (bF P))), (fN, .inl (cI, 14, .inl N0)), (fB, .inl (cI, 41, .inl (nF Ob0)))]) [(o, .inr (7, [.int (nI 0), .int (nI nd), .int (nI ar), .ref fF, .ref fG, .ref fT, .ref fN, .ref fW, .int be, .ref fO, .ref fB, .int bz, .ref fS, .ref fD, .int sz])), (fF, .inl (cI, 41, .inl (nF F))), (fG, .inl (cI, 41, .inl (nF G))), (fT, .inl (cZ, 41, .inl (bF P))), (fN, .inl (cI, 14, .inl N0)), (fB, .inl (cI, 41, .inl (nF Ob0)))] := hD
  refine lv_aload_n hx hb d_MO_together_5 rfl (lv_at hl 0 rfl) ?_
  refine lv_iload_n hx hb d_MO_together_6 rfl (lv_at hl 1 rfl) ?_
  refine vp_callSi (va_Run.run (k_V (n := 1) (C := R_MO) (rest := []) ⟨hx, hb, hml, hown, hts⟩ (c_MO_isThere l dC dI cI cJ cZ o fF fG fT fN fW fO fB fS fD (nI 0) be bz sz nd ar P (nI x) (by first | assumption | omega)) wml_MO_113 wim_MO_isThere wsel_MO_isThere wini_MO wcode_MO_isThere (by decide +kernel) ⟨Nat.le_of_ble_eq_true rfl, Nat.le_of_ble_eq_true rfl⟩ (preV_R (q := (R_MO, F_MO, 15)) (ci := 7) (q0 := 0) (hP.sub (ws' := [(o, .inr (7, [.int (nI 0), .int (nI nd), .int (nI ar), .ref fF, .ref fG, .ref fT, .ref fN, .ref fW, .int be, .ref fO, .ref fB, .int bz, .ref fS, .ref fD, .int sz])), (fT, .inl (cZ, 41, .inl (bF P)))]) [0, 3] rfl) hK rfl rfl) rfl hl.1 rfl (Nat.le_of_ble_eq_true rfl) d_MO_together_7 ⟨Nat.zero_le _, Nat.zero_le _⟩)) (fun r_1 hr_2 => ?_)
  refine xe_i (y := (bI (vd (nI x) ar && P (nI x).toNatClampNeg))) hr_2 ?_
  refine xe_i (y := (bI true)) (by rw [tm_tt (by omega) hxa hPx]) ?_
  refine lv_if_eq (tgt := 21) hx hb d_MO_together_10 (by decide) (fun c9 => absurd c9 (by decide : ¬ ((bI true) : Int32) = 0)) (fun _ => ?_)
  refine lv_aload_n hx hb d_MO_together_13 rfl (lv_at hl 0 rfl) ?_
  refine lv_iload_n hx hb d_MO_together_14 rfl (lv_at hl 2 rfl) ?_
  refine vp_callSi (va_Run.run (k_V (n := 1) (C := R_MO) (rest := []) ⟨hx, hb, hml, hown, hts⟩ (c_MO_isThere l dC dI cI cJ cZ o fF fG fT fN fW fO fB fS fD (nI 0) be bz sz nd ar P (nI y) (by first | assumption | omega)) wml_MO_113 wim_MO_isThere wsel_MO_isThere wini_MO wcode_MO_isThere (by decide +kernel) ⟨Nat.le_of_ble_eq_true rfl, Nat.le_of_ble_eq_true rfl⟩ (preV_R (q := (R_MO, F_MO, 15)) (ci := 7) (q0 := 0) (hP.sub (ws' := [(o, .inr (7, [.int (nI 0), .int (nI nd), .int (nI ar), .ref fF, .ref fG, .ref fT, .ref fN, .ref fW, .int be, .ref fO, .ref fB, .int bz, .ref fS, .ref fD, .int sz])), (fT, .inl (cZ, 41, .inl (bF P)))]) [0, 3] rfl) hK rfl rfl) rfl hl.1 rfl (Nat.le_of_ble_eq_true rfl) d_MO_together_15 ⟨Nat.zero_le _, Nat.zero_le _⟩)) (fun r_4 hr_5 => ?_)
  refine xe_i (y := (bI (vd (nI y) ar && P (nI y).toNatClampNeg))) hr_5 ?_
  refine xe_i (y := (bI true)) (by rw [tm_tt (by omega) hya hPy]) ?_
  refine lv_if_ne (tgt := 23) hx hb d_MO_together_18 (by decide) (fun _ => ?_) (fun c9 => absurd c9 (by decide : ¬ ((bI true) : Int32) = 0))
  refine lv_aload_n hx hb d_MO_together_23 rfl (lv_at hl 0 rfl) ?_
  refine lv_iload_n hx hb d_MO_together_24 rfl (lv_at hl 1 rfl) ?_
  refine lv_iload_n hx hb d_MO_together_25 rfl (lv_at hl 2 rfl) ?_
  refine x_ci (k_V (n := 2) (C := R_MO) (rest := []) ⟨hx, hb, hml, hown, hts⟩ (c_MO_areBlock l dC dI cI cJ cZ o fF fG fT fN fW fO fB fS fD (nI 0) be bz sz nd ar F G P hF hG (by first | assumption | omega) (by first | assumption | omega) hM N0 x y (by first | assumption | omega) (by first | assumption | omega)) wml_MO_76 wim_MO_areBlock wsel_MO_areBlock wini_MO wcode_MO_areBlock (by decide +kernel) ⟨Nat.le_of_ble_eq_true rfl, Nat.le_of_ble_eq_true rfl⟩ (preV_M (q := (R_MO, F_MO, 15)) (ci := 7) (q0 := 0) (hP.sub (ws' := [(o, .inr (7, [.int (nI 0), .int (nI nd), .int (nI ar), .ref fF, .ref fG, .ref fT, .ref fN, .ref fW, .int be, .ref fO, .ref fB, .int bz, .ref fS, .ref fD, .int sz])), (fF, .inl (cI, 41, .inl (nF F))), (fG, .inl (cI, 41, .inl (nF G))), (fT, .inl (cZ, 41, .inl (bF P))), (fN, .inl (cI, 14, .inl N0))]) [0, 1, 2, 3, 4] rfl) hK (hD.sub (ws' := [(o, .inr (7, [.int (nI 0), .int (nI nd), .int (nI ar), .ref fF, .ref fG, .ref fT, .ref fN, .ref fW, .int be, .ref fO, .ref fB, .int bz, .ref fS, .ref fD, .int sz])), (fF, .inl (cI, 41, .inl (nF F))), (fG, .inl (cI, 41, .inl (nF G))), (fT, .inl (cZ, 41, .inl (bF P))), (fN, .inl (cI, 14, .inl N0))]) [0, 1, 2, 3, 4] (by decide) rfl) rfl rfl) rfl hl.1 rfl (Nat.le_of_ble_eq_true rfl) d_MO_together_26 ⟨Nat.zero_le _, Nat.zero_le _⟩) hP hD hS [0, 1, 2, 3, 4] rfl (fun _ => rfl) (fun r_7 u_7 H locs hu_7 hP hS => ?_)
  obtain ⟨N9_7, rfl⟩ : ∃ z, z = u_7 := ⟨_, rfl⟩
  have hP : va_P (dC, dI) cls [(o, .inr (7, [.int (nI 0), .int (nI nd), .int (nI ar), .ref fF, .ref fG, .ref fT, .ref fN, .ref fW, .int be, .ref fO, .ref fB, .int bz, .ref fS, .ref fD, .int sz])), (fF, .inl (cI, 41, .inl (nF F))), (fG, .inl (cI, 41, .inl (nF G))), (fT, .inl (cZ, 41, .inl (bF P))), (fN, .inl (cI, 14, .inl N9_7)), (fB, .inl (cI, 41, .inl (nF Ob0)))] H := hP
  have hD := hD.addr (ws' := [(o, .inr (7, [.int (nI 0), .int (nI nd), .int (nI ar), .ref fF, .ref fG, .ref fT, .ref fN, .ref fW, .int be, .ref fO, .ref fB, .int bz, .ref fS, .ref fD, .int sz])), (fF, .inl (cI, 41, .inl (nF F))), (fG, .inl (cI, 41, .inl (nF G))), (fT, .inl (cZ, 41, .inl (bF P))), (fN, .inl (cI, 14, .inl N9_7)), (fB, .inl (cI, 41, .inl (nF Ob0)))]) rfl
  refine xe_i (y := (bI (dc (abR ar nd P F G x y)))) hu_7 ?_
  refine x_if_ne (tgt := 35) hx hb d_MO_together_29 (by decide) (fun c_8 => ?_) (fun c_8 => ?_)
  · skip
    refine lv_aload_n hx hb d_MO_together_35 rfl (lv_at hl 0 rfl) ?_
    refine lv_iload_n hx hb d_MO_together_36 rfl (lv_at hl 1 rfl) ?_
    refine x_cv (k_V (n := 1) (C := R_MO) (rest := []) ⟨hx, hb, hml, hown, hts⟩ (c_MO_layBlock l dC dI cI cJ cZ o fF fG fT fN fW fO fB fS fD (nI 0) be bz sz nd ar F G P hF hG (by first | assumption | omega) (by first | assumption | omega) hM N9_7 Ob0 x (by first | assumption | omega)) wml_MO_141 wim_MO_layBlock wsel_MO_layBlock wini_MO wcode_MO_layBlock (by decide +kernel) ⟨Nat.le_of_ble_eq_true rfl, Nat.le_of_ble_eq_true rfl⟩ (preV_M (q := (R_MO, F_MO, 15)) (ci := 7) (q0 := 0) (hP.sub (ws' := [(o, .inr (7, [.int (nI 0), .int (nI nd), .int (nI ar), .ref fF, .ref fG, .ref fT, .ref fN, .ref fW, .int be, .ref fO, .ref fB, .int bz, .ref fS, .ref fD, .int sz])), (fF, .inl (cI, 41, .inl (nF F))), (fG, .inl (cI, 41, .inl (nF G))), (fT, .inl (cZ, 41, .inl (bF P))), (fN, .inl (cI, 14, .inl N9_7)), (fB, .inl (cI, 41, .inl (nF Ob0)))]) [0, 1, 2, 3, 4, 5] rfl) hK (hD.sub (ws' := [(o, .inr (7, [.int (nI 0), .int (nI nd), .int (nI ar), .ref fF, .ref fG, .ref fT, .ref fN, .ref fW, .int be, .ref fO, .ref fB, .int bz, .ref fS, .ref fD, .int sz])), (fF, .inl (cI, 41, .inl (nF F))), (fG, .inl (cI, 41, .inl (nF G))), (fT, .inl (cZ, 41, .inl (bF P))), (fN, .inl (cI, 14, .inl N9_7)), (fB, .inl (cI, 41, .inl (nF Ob0)))]) [0, 1, 2, 3, 4, 5] (by decide) rfl) rfl rfl) rfl hl.1 rfl (Nat.le_of_ble_eq_true rfl) d_MO_together_37 ⟨Nat.zero_le _, Nat.zero_le _⟩) hP hD hS [0, 1, 2, 3, 4, 5] rfl (fun _ => rfl) (fun u_9 H locs hu_9 hP hS => ?_)
    obtain ⟨bz9_9, N9_9, Ob9_9⟩ := u_9
    have hP : va_P (dC, dI) cls [(o, .inr (7, [.int (nI 0), .int (nI nd), .int (nI ar), .ref fF, .ref fG, .ref fT, .ref fN, .ref fW, .int be, .ref fO, .ref fB, .int (nI bz9_9), .ref fS, .ref fD, .int sz])), (fF, .inl (cI, 41, .inl (nF F))), (fG, .inl (cI, 41, .inl (nF G))), (fT, .inl (cZ, 41, .inl (bF P))), (fN, .inl (cI, 14, .inl N9_9)), (fB, .inl (cI, 41, .inl (nF Ob9_9)))] H := hP
    have hD := hD.addr (ws' := [(o, .inr (7, [.int (nI 0), .int (nI nd), .int (nI ar), .ref fF, .ref fG, .ref fT, .ref fN, .ref fW, .int be, .ref fO, .ref fB, .int (nI bz9_9), .ref fS, .ref fD, .int sz])), (fF, .inl (cI, 41, .inl (nF F))), (fG, .inl (cI, 41, .inl (nF G))), (fT, .inl (cZ, 41, .inl (bF P))), (fN, .inl (cI, 14, .inl N9_9)), (fB, .inl (cI, 41, .inl (nF Ob9_9)))]) rfl
    dsimp only at hu_9
    have hbn := lb_cn hu_9
    have hb40 := cn_le (fun f => dc (P f = true ∧ abR ar nd P F G x f)) ar
    refine lv_aload_n hx hb d_MO_together_40 rfl (lv_at hl 0 rfl) ?_
    refine va_get (D := (dC, dI)) (ci := 7) (v := .int (nI bz9_9)) (C := R_MO) (T := F_MO) (N := 15) hx hb hts in_MO hown hK.1 hP 0 rfl rfl 11 (by decide) (hts _ wfl_MO_132) (fun _ h9 => h9) rfl d_MO_together_41 ?_
    refine lv_bipush (v := (nI 14)) hx hb d_MO_together_44 (by decide) ?_
    refine x_cmp_le (a := bz9_9) (b := 14) (tgt := 52) hx hb (by omega) (by omega) d_MO_together_46 (by decide) (fun c_10 => ?_) (fun c_10 => ?_)
    · skip
      omega
    · skip
      refine lv_bipush (v := (-4)) hx hb d_MO_together_49 (by decide) ?_
      exact W.iret (v := (-4)) hx hb hr (fun t9 ht9 _ => ⟨⟨_, (bz9_9, N9_9, Ob9_9), rfl, rfl, by show va_P (dC, dI) cls _ t9.heap; rw [ht9]; exact hP⟩, hS.F ht9⟩) hS.2.2 d_MO_together_51
  · skip
    exact absurd hnb (dc_f.mp c_8)

set_option maxHeartbeats 4000000 in
set_option maxRecDepth 100000 in
theorem c_MO_together_k (l : Launch) (dC : Nat → ClassId) (dI : Nat → Nat → Nat) (cI cJ cZ : ClassId) (o fF fG fT fN fW fO fB fS fD : Nat) (th be bz sz : Int32) (nd ar : Nat) (F G : Nat → Nat) (P : Nat → Bool) (hF : ∀ k, F k < 14) (hG : ∀ k, G k < 14) (hnd : nd ≤ 14) (har : ar ≤ 40) (hM : ∀ e, e < ar → F e < nd ∧ G e < nd) (Ob0 Sp0 : Nat → Nat) (D0 : Nat → Bool) (N0 : Nat → Int32) (x : Nat) (hxa : x < ar) (hPx : P x = true) (y : Nat) (hya : y < ar) (hPy : P y = true) (hnb : (abR ar nd P F G x y)) (h14 : cn (fun f => dc (P f = true ∧ abR ar nd P F G x f)) ar ≤ 14) : Met l ⟨"CutPointsModel", "together", "(II)I"⟩ (Cond.code ⟨"CutPointsModel", "together", "(II)I"⟩ prog_9_method_48_code 3 (some .int) :: TT) (rmk 3 74) (PM dC dI cI cJ cZ [.ref o, .int (nI x), .int (nI y)] [(o, .inr (7, [.int th, .int (nI nd), .int (nI ar), .ref fF, .ref fG, .ref fT, .ref fN, .ref fW, .int be, .ref fO, .ref fB, .int bz, .ref fS, .ref fD, .int sz])), (fF, .inl (cI, 41, .inl (nF F))), (fG, .inl (cI, 41, .inl (nF G))), (fT, .inl (cZ, 41, .inl (bF P))), (fN, .inl (cI, 14, .inl N0)), (fB, .inl (cI, 41, .inl (nF Ob0))), (fS, .inl (cI, 8192, .inl (nF Sp0))), (fD, .inl (cZ, 8192, .inl (bF D0)))]) (va_Qi (S := Nat × Nat × (Nat → Int32) × (Nat → Nat) × (Nat → Nat) × (Nat → Bool)) (fun r u9 => (lbI (fun f => P f = true ∧ abR ar nd P F G x f) u9.2.2.2.1 u9.1 ar ∧ u9.1 ≤ 14 ∧ lbI (spQ F G u9.2.2.2.1 u9.1) u9.2.2.2.2.1 u9.2.1 (2 ^ u9.1 - 1) ∧ gdO u9.1 u9.2.2.2.2.1 u9.2.2.2.2.2 u9.2.1 u9.2.1) ∧ ∃ q1 q2, q1 < u9.1 ∧ u9.2.2.2.1 q1 = x ∧ q2 < u9.1 ∧ u9.2.2.2.1 q2 = y ∧ r = bI (dc (tgR u9.2.2.2.2.1 u9.2.2.2.2.2 u9.2.1 q1 q2))) (fun u9 t9 => va_P (dC, dI) cls ([(o, .inr (7, [.int (nI 0), .int (nI nd), .int (nI ar), .ref fF, .ref fG, .ref fT, .ref fN, .ref fW, .int be, .ref fO, .ref fB, .int (nI u9.1), .ref fS, .ref fD, .int (nI u9.2.1)])), (fF, .inl (cI, 41, .inl (nF F))), (fG, .inl (cI, 41, .inl (nF G))), (fT, .inl (cZ, 41, .inl (bF P))), (fN, .inl (cI, 14, .inl u9.2.2.1)), (fB, .inl (cI, 41, .inl (nF u9.2.2.2.1))), (fS, .inl (cI, 8192, .inl (nF u9.2.2.2.2.1))), (fD, .inl (cZ, 8192, .inl (bF u9.2.2.2.2.2)))]) t9.heap) (ow [(o, .inr (7, [.int th, .int (nI nd), .int (nI ar), .ref fF, .ref fG, .ref fT, .ref fN, .ref fW, .int be, .ref fO, .ref fB, .int bz, .ref fS, .ref fD, .int sz])), (fF, .inl (cI, 41, .inl (nF F))), (fG, .inl (cI, 41, .inl (nF G))), (fT, .inl (cZ, 41, .inl (bF P))), (fN, .inl (cI, 14, .inl N0)), (fB, .inl (cI, 41, .inl (nF Ob0))), (fS, .inl (cI, 8192, .inl (nF Sp0))), (fD, .inl (cZ, 8192, .inl (bF D0)))])) 0 0 (ow [(o, .inr (7, [.int th, .int (nI nd), .int (nI ar), .ref fF, .ref fG, .ref fT, .ref fN, .ref fW, .int be, .ref fO, .ref fB, .int bz, .ref fS, .ref fD, .int sz])), (fF, .inl (cI, 41, .inl (nF F))), (fG, .inl (cI, 41, .inl (nF G))), (fT, .inl (cZ, 41, .inl (bF P))), (fN, .inl (cI, 14, .inl N0)), (fB, .inl (cI, 41, .inl (nF Ob0))), (fS, .inl (cI, 8192, .inl (nF Sp0))), (fD, .inl (cZ, 8192, .inl (bF D0)))]) := by
  refine Met.ofW (cc := prog_9_method_48_code) (maxL := 3) (ret := (some .int)) (by decide) rfl ?_
  intro p e s m args below meth c s₁ BB9 hml hv
  obtain ⟨rfl, hP, hK, hD0⟩ := hv
  have hx := BB9.exec
  have hb := BB9.bytes
  have hr := BB9.returns
  have hts : ∀ w ∈ TT, w.before _ s = true := fun w h => atoms_spec (ws := (Cond.code ⟨"CutPointsModel", "together", "(II)I"⟩ prog_9_method_48_code 3 (some .int) :: TT)) BB9.pre w (List.mem_cons_of_mem _ h)
  have hown : s.vm.findClass "CutPointsModel" = some m.cls := findClass_of_methodNamed BB9.named
  have hlocks := BB9.notSynchronized
  have hD := hD0.mine
  have hS : va_S (ow [(o, .inr (7, [.int th, .int (nI nd), .int (nI ar), .ref fF, .ref fG, .ref fT, .ref fN, .ref fW, .int be, .ref fO, .ref fB, .int bz, .ref fS, .ref fD, .int sz])), (fF, .inl (cI, 41, .inl (nF F))), (fG, .inl (cI, 41, .inl (nF G))), (fT, .inl (cZ, 41, .inl (bF P))), (fN, .inl (cI, 14, .inl N0)), (fB, .inl (cI, 41, .inl (nF Ob0))), (fS, .inl (cI, 8192, .inl (nF Sp0))), (fD, .inl (cZ, 8192, .inl (bF D0)))]) s.heap s.heap [] := va_S.rf
  have hpw : ∀ n, n < 15 → 2 ^ n ≤ 16384 := pow_le
  have hl := lv_entry ([.ref o, .int (nI x), .int (nI y)]) (n := 3) (Nat.le_of_ble_eq_true rfl)
  rw [lg_entry_eq]
  generalize (lg_sl ([.ref o, .int (nI x), .int (nI y)]) ++ List.replicate (3 - (lg_sl ([.ref o, .int (nI x), .int (nI y)])).length) Slot.unset).toArray = ls at hl ⊢
  have hl : lv_has ls 3 [(0, .ref o), (1, .int (nI x)), (2, .int (nI y))] := hl
  refine lv_aload_n hx hb d_MO_together_0 rfl (lv_at hl 0 rfl) ?_
  refine lv_iconst (v := (nI 0)) hx hb d_MO_together_1 (by decide) ?_
  refine va_put (D := (dC, dI)) (ci := 7) (v := .int (nI 0)) (ty := .int) (C := R_MO) (T := F_MO) (N := 15) hx hb hts in_MO t_MO t_MO_ok n_MO hown hK.1 hP hD hS 0 rfl rfl 0 (by decide) (hts _ wfl_MO_38) (fun _ h9 => h9) rfl (by decide +kernel) rfl rfl (Nat.le_of_ble_eq_true rfl) d_MO_together_2 (fun H locs hP hD hS => ?_)
  have hP : va_P (dC, dI) cls [(o, .inr (7, [.int (nI 0), .int (nI nd), .int (nI ar), .ref fF, .ref fG, .ref fT, .ref fN, .ref fW, .int be, .ref fO, .ref fB, .int bz, .ref fS, .ref fD, .int sz])), (fF, .inl (cI, 41, .inl (nF F))), (fG, .inl (cI, 41, .inl (nF G))), (fT, .inl (cZ, 41, .inl (bF P))), (fN, .inl (cI, 14, .inl N0)), (fB, .inl (cI, 41, .inl (nF Ob0))), (fS, .inl (cI, 8192, .inl (nF Sp0))), (fD, .inl (cZ, 8192, .inl (bF D0)))] H := hP
  have hD : va_D (ow [(o, .inr (7, [.int th, .int (nI nd), .int (nI ar), .ref fF, .ref fG, .ref fT, .ref fN, .ref fW, .int be, .ref fO, .ref fB, .int bz, .ref fS, .ref fD, .int sz])), (fF, .inl (cI, 41, .inl (nF F))), (fG, .inl (cI, 41, .inl (nF G))), (fT, .inl (cZ, 41, .inl (bF P))), (fN, .inl (cI, 14, .inl N0)), (fB, .inl (cI, 41, .inl (nF Ob0))), (fS, .inl (cI, 8192, .inl (nF Sp0))), (fD, .inl (cZ, 8192, .inl (bF D0)))]) [(o, .inr (7, [.int (nI 0), .int (nI nd), .int (nI ar), .ref fF, .ref fG, .ref fT, .ref fN, .ref fW, .int be, .ref fO, .ref fB, .int bz, .ref fS, .ref fD, .int sz])), (fF, .inl (cI, 41, .inl (nF F))), (fG, .inl (cI, 41, .inl (nF G))), (fT, .inl (cZ, 41, .inl (bF P))), (fN, .inl (cI, 14, .inl N0)), (fB, .inl (cI, 41, .inl (nF Ob0))), (fS, .inl (cI, 8192, .inl (nF Sp0))), (fD, .inl (cZ, 8192, .inl (bF D0)))] := hD
  refine lv_aload_n hx hb d_MO_together_5 rfl (lv_at hl 0 rfl) ?_
  refine lv_iload_n hx hb d_MO_together_6 rfl (lv_at hl 1 rfl) ?_
  refine vp_callSi (va_Run.run (k_V (n := 1) (C := R_MO) (rest := []) ⟨hx, hb, hml, hown, hts⟩ (c_MO_isThere l dC dI cI cJ cZ o fF fG fT fN fW fO fB fS fD (nI 0) be bz sz nd ar P (nI x) (by first | assumption | omega)) wml_MO_113 wim_MO_isThere wsel_MO_isThere wini_MO wcode_MO_isThere (by decide +kernel) ⟨Nat.le_of_ble_eq_true rfl, Nat.le_of_ble_eq_true rfl⟩ (preV_R (q := (R_MO, F_MO, 15)) (ci := 7) (q0 := 0) (hP.sub (ws' := [(o, .inr (7, [.int (nI 0), .int (nI nd), .int (nI ar), .ref fF, .ref fG, .ref fT, .ref fN, .ref fW, .int be, .ref fO, .ref fB, .int bz, .ref fS, .ref fD, .int sz])), (fT, .inl (cZ, 41, .inl (bF P)))]) [0, 3] rfl) hK rfl rfl) rfl hl.1 rfl (Nat.le_of_ble_eq_true rfl) d_MO_together_7 ⟨Nat.zero_le _, Nat.zero_le _⟩)) (fun r_1 hr_2 => ?_)
  refine xe_i (y := (bI (vd (nI x) ar && P (nI x).toNatClampNeg))) hr_2 ?_
  refine xe_i (y := (bI true)) (by rw [tm_tt (by omega) hxa hPx]) ?_
  refine lv_if_eq (tgt := 21) hx hb d_MO_together_10 (by decide) (fun c9 => absurd c9 (by decide : ¬ ((bI true) : Int32) = 0)) (fun _ => ?_)
  refine lv_aload_n hx hb d_MO_together_13 rfl (lv_at hl 0 rfl) ?_
  refine lv_iload_n hx hb d_MO_together_14 rfl (lv_at hl 2 rfl) ?_
  refine vp_callSi (va_Run.run (k_V (n := 1) (C := R_MO) (rest := []) ⟨hx, hb, hml, hown, hts⟩ (c_MO_isThere l dC dI cI cJ cZ o fF fG fT fN fW fO fB fS fD (nI 0) be bz sz nd ar P (nI y) (by first | assumption | omega)) wml_MO_113 wim_MO_isThere wsel_MO_isThere wini_MO wcode_MO_isThere (by decide +kernel) ⟨Nat.le_of_ble_eq_true rfl, Nat.le_of_ble_eq_true rfl⟩ (preV_R (q := (R_MO, F_MO, 15)) (ci := 7) (q0 := 0) (hP.sub (ws' := [(o, .inr (7, [.int (nI 0), .int (nI nd), .int (nI ar), .ref fF, .ref fG, .ref fT, .ref fN, .ref fW, .int be, .ref fO, .ref fB, .int bz, .ref fS, .ref fD, .int sz])), (fT, .inl (cZ, 41, .inl (bF P)))]) [0, 3] rfl) hK rfl rfl) rfl hl.1 rfl (Nat.le_of_ble_eq_true rfl) d_MO_together_15 ⟨Nat.zero_le _, Nat.zero_le _⟩)) (fun r_4 hr_5 => ?_)
  refine xe_i (y := (bI (vd (nI y) ar && P (nI y).toNatClampNeg))) hr_5 ?_
  refine xe_i (y := (bI true)) (by rw [tm_tt (by omega) hya hPy]) ?_
  refine lv_if_ne (tgt := 23) hx hb d_MO_together_18 (by decide) (fun _ => ?_) (fun c9 => absurd c9 (by decide : ¬ ((bI true) : Int32) = 0))
  refine lv_aload_n hx hb d_MO_together_23 rfl (lv_at hl 0 rfl) ?_
  refine lv_iload_n hx hb d_MO_together_24 rfl (lv_at hl 1 rfl) ?_
  refine lv_iload_n hx hb d_MO_together_25 rfl (lv_at hl 2 rfl) ?_
  refine x_ci (k_V (n := 2) (C := R_MO) (rest := []) ⟨hx, hb, hml, hown, hts⟩ (c_MO_areBlock l dC dI cI cJ cZ o fF fG fT fN fW fO fB fS fD (nI 0) be bz sz nd ar F G P hF hG (by first | assumption | omega) (by first | assumption | omega) hM N0 x y (by first | assumption | omega) (by first | assumption | omega)) wml_MO_76 wim_MO_areBlock wsel_MO_areBlock wini_MO wcode_MO_areBlock (by decide +kernel) ⟨Nat.le_of_ble_eq_true rfl, Nat.le_of_ble_eq_true rfl⟩ (preV_M (q := (R_MO, F_MO, 15)) (ci := 7) (q0 := 0) (hP.sub (ws' := [(o, .inr (7, [.int (nI 0), .int (nI nd), .int (nI ar), .ref fF, .ref fG, .ref fT, .ref fN, .ref fW, .int be, .ref fO, .ref fB, .int bz, .ref fS, .ref fD, .int sz])), (fF, .inl (cI, 41, .inl (nF F))), (fG, .inl (cI, 41, .inl (nF G))), (fT, .inl (cZ, 41, .inl (bF P))), (fN, .inl (cI, 14, .inl N0))]) [0, 1, 2, 3, 4] rfl) hK (hD.sub (ws' := [(o, .inr (7, [.int (nI 0), .int (nI nd), .int (nI ar), .ref fF, .ref fG, .ref fT, .ref fN, .ref fW, .int be, .ref fO, .ref fB, .int bz, .ref fS, .ref fD, .int sz])), (fF, .inl (cI, 41, .inl (nF F))), (fG, .inl (cI, 41, .inl (nF G))), (fT, .inl (cZ, 41, .inl (bF P))), (fN, .inl (cI, 14, .inl N0))]) [0, 1, 2, 3, 4] (by decide) rfl) rfl rfl) rfl hl.1 rfl (Nat.le_of_ble_eq_true rfl) d_MO_together_26 ⟨Nat.zero_le _, Nat.zero_le _⟩) hP hD hS [0, 1, 2, 3, 4] rfl (fun _ => rfl) (fun r_7 u_7 H locs hu_7 hP hS => ?_)
  obtain ⟨N9_7, rfl⟩ : ∃ z, z = u_7 := ⟨_, rfl⟩
  have hP : va_P (dC, dI) cls [(o, .inr (7, [.int (nI 0), .int (nI nd), .int (nI ar), .ref fF, .ref fG, .ref fT, .ref fN, .ref fW, .int be, .ref fO, .ref fB, .int bz, .ref fS, .ref fD, .int sz])), (fF, .inl (cI, 41, .inl (nF F))), (fG, .inl (cI, 41, .inl (nF G))), (fT, .inl (cZ, 41, .inl (bF P))), (fN, .inl (cI, 14, .inl N9_7)), (fB, .inl (cI, 41, .inl (nF Ob0))), (fS, .inl (cI, 8192, .inl (nF Sp0))), (fD, .inl (cZ, 8192, .inl (bF D0)))] H := hP
  have hD := hD.addr (ws' := [(o, .inr (7, [.int (nI 0), .int (nI nd), .int (nI ar), .ref fF, .ref fG, .ref fT, .ref fN, .ref fW, .int be, .ref fO, .ref fB, .int bz, .ref fS, .ref fD, .int sz])), (fF, .inl (cI, 41, .inl (nF F))), (fG, .inl (cI, 41, .inl (nF G))), (fT, .inl (cZ, 41, .inl (bF P))), (fN, .inl (cI, 14, .inl N9_7)), (fB, .inl (cI, 41, .inl (nF Ob0))), (fS, .inl (cI, 8192, .inl (nF Sp0))), (fD, .inl (cZ, 8192, .inl (bF D0)))]) rfl
  refine xe_i (y := (bI (dc (abR ar nd P F G x y)))) hu_7 ?_
  refine x_if_ne (tgt := 35) hx hb d_MO_together_29 (by decide) (fun c_8 => ?_) (fun c_8 => ?_)
  · skip
    refine lv_aload_n hx hb d_MO_together_35 rfl (lv_at hl 0 rfl) ?_
    refine lv_iload_n hx hb d_MO_together_36 rfl (lv_at hl 1 rfl) ?_
    refine x_cv (k_V (n := 1) (C := R_MO) (rest := []) ⟨hx, hb, hml, hown, hts⟩ (c_MO_layBlock l dC dI cI cJ cZ o fF fG fT fN fW fO fB fS fD (nI 0) be bz sz nd ar F G P hF hG (by first | assumption | omega) (by first | assumption | omega) hM N9_7 Ob0 x (by first | assumption | omega)) wml_MO_141 wim_MO_layBlock wsel_MO_layBlock wini_MO wcode_MO_layBlock (by decide +kernel) ⟨Nat.le_of_ble_eq_true rfl, Nat.le_of_ble_eq_true rfl⟩ (preV_M (q := (R_MO, F_MO, 15)) (ci := 7) (q0 := 0) (hP.sub (ws' := [(o, .inr (7, [.int (nI 0), .int (nI nd), .int (nI ar), .ref fF, .ref fG, .ref fT, .ref fN, .ref fW, .int be, .ref fO, .ref fB, .int bz, .ref fS, .ref fD, .int sz])), (fF, .inl (cI, 41, .inl (nF F))), (fG, .inl (cI, 41, .inl (nF G))), (fT, .inl (cZ, 41, .inl (bF P))), (fN, .inl (cI, 14, .inl N9_7)), (fB, .inl (cI, 41, .inl (nF Ob0)))]) [0, 1, 2, 3, 4, 5] rfl) hK (hD.sub (ws' := [(o, .inr (7, [.int (nI 0), .int (nI nd), .int (nI ar), .ref fF, .ref fG, .ref fT, .ref fN, .ref fW, .int be, .ref fO, .ref fB, .int bz, .ref fS, .ref fD, .int sz])), (fF, .inl (cI, 41, .inl (nF F))), (fG, .inl (cI, 41, .inl (nF G))), (fT, .inl (cZ, 41, .inl (bF P))), (fN, .inl (cI, 14, .inl N9_7)), (fB, .inl (cI, 41, .inl (nF Ob0)))]) [0, 1, 2, 3, 4, 5] (by decide) rfl) rfl rfl) rfl hl.1 rfl (Nat.le_of_ble_eq_true rfl) d_MO_together_37 ⟨Nat.zero_le _, Nat.zero_le _⟩) hP hD hS [0, 1, 2, 3, 4, 5] rfl (fun _ => rfl) (fun u_9 H locs hu_9 hP hS => ?_)
    obtain ⟨bz9_9, N9_9, Ob9_9⟩ := u_9
    have hP : va_P (dC, dI) cls [(o, .inr (7, [.int (nI 0), .int (nI nd), .int (nI ar), .ref fF, .ref fG, .ref fT, .ref fN, .ref fW, .int be, .ref fO, .ref fB, .int (nI bz9_9), .ref fS, .ref fD, .int sz])), (fF, .inl (cI, 41, .inl (nF F))), (fG, .inl (cI, 41, .inl (nF G))), (fT, .inl (cZ, 41, .inl (bF P))), (fN, .inl (cI, 14, .inl N9_9)), (fB, .inl (cI, 41, .inl (nF Ob9_9))), (fS, .inl (cI, 8192, .inl (nF Sp0))), (fD, .inl (cZ, 8192, .inl (bF D0)))] H := hP
    have hD := hD.addr (ws' := [(o, .inr (7, [.int (nI 0), .int (nI nd), .int (nI ar), .ref fF, .ref fG, .ref fT, .ref fN, .ref fW, .int be, .ref fO, .ref fB, .int (nI bz9_9), .ref fS, .ref fD, .int sz])), (fF, .inl (cI, 41, .inl (nF F))), (fG, .inl (cI, 41, .inl (nF G))), (fT, .inl (cZ, 41, .inl (bF P))), (fN, .inl (cI, 14, .inl N9_9)), (fB, .inl (cI, 41, .inl (nF Ob9_9))), (fS, .inl (cI, 8192, .inl (nF Sp0))), (fD, .inl (cZ, 8192, .inl (bF D0)))]) rfl
    dsimp only at hu_9
    have hbn := lb_cn hu_9
    have hb40 := cn_le (fun f => dc (P f = true ∧ abR ar nd P F G x f)) ar
    obtain ⟨q1, hq1, hq1x⟩ := hu_9.2.2.1 x hxa ⟨hPx, Or.inl rfl⟩
    obtain ⟨q2, hq2, hq2x⟩ := hu_9.2.2.1 y hya ⟨hPy, hnb⟩
    refine lv_aload_n hx hb d_MO_together_40 rfl (lv_at hl 0 rfl) ?_
    refine va_get (D := (dC, dI)) (ci := 7) (v := .int (nI bz9_9)) (C := R_MO) (T := F_MO) (N := 15) hx hb hts in_MO hown hK.1 hP 0 rfl rfl 11 (by decide) (hts _ wfl_MO_132) (fun _ h9 => h9) rfl d_MO_together_41 ?_
    refine lv_bipush (v := (nI 14)) hx hb d_MO_together_44 (by decide) ?_
    refine x_cmp_le (a := bz9_9) (b := 14) (tgt := 52) hx hb (by omega) (by omega) d_MO_together_46 (by decide) (fun c_10 => ?_) (fun c_10 => ?_)
    · skip
      refine lv_aload_n hx hb d_MO_together_52 rfl (lv_at hl 0 rfl) ?_
      refine x_cv (k_V (n := 0) (C := R_MO) (rest := []) ⟨hx, hb, hml, hown, hts⟩ (c_MO_laySplits l dC dI cI cJ cZ o fF fG fT fN fW fO fB fS fD (nI 0) be sz nd ar bz9_9 F G hF hG Ob9_9 Sp0 D0 (fun k hk => by have := (hu_9.1 k (by omega)).1; omega) (by first | assumption | omega) (by first | assumption | omega)) wml_MO_144 wim_MO_laySplits wsel_MO_laySplits wini_MO wcode_MO_laySplits (by decide +kernel) ⟨Nat.le_of_ble_eq_true rfl, Nat.le_of_ble_eq_true rfl⟩ (preV_M (q := (R_MO, F_MO, 15)) (ci := 7) (q0 := 0) (hP.sub (ws' := [(o, .inr (7, [.int (nI 0), .int (nI nd), .int (nI ar), .ref fF, .ref fG, .ref fT, .ref fN, .ref fW, .int be, .ref fO, .ref fB, .int (nI bz9_9), .ref fS, .ref fD, .int sz])), (fF, .inl (cI, 41, .inl (nF F))), (fG, .inl (cI, 41, .inl (nF G))), (fB, .inl (cI, 41, .inl (nF Ob9_9))), (fS, .inl (cI, 8192, .inl (nF Sp0))), (fD, .inl (cZ, 8192, .inl (bF D0)))]) [0, 1, 2, 5, 6, 7] rfl) hK (hD.sub (ws' := [(o, .inr (7, [.int (nI 0), .int (nI nd), .int (nI ar), .ref fF, .ref fG, .ref fT, .ref fN, .ref fW, .int be, .ref fO, .ref fB, .int (nI bz9_9), .ref fS, .ref fD, .int sz])), (fF, .inl (cI, 41, .inl (nF F))), (fG, .inl (cI, 41, .inl (nF G))), (fB, .inl (cI, 41, .inl (nF Ob9_9))), (fS, .inl (cI, 8192, .inl (nF Sp0))), (fD, .inl (cZ, 8192, .inl (bF D0)))]) [0, 1, 2, 5, 6, 7] (by decide) rfl) rfl rfl) rfl hl.1 rfl (Nat.le_of_ble_eq_true rfl) d_MO_together_53 ⟨Nat.zero_le _, Nat.zero_le _⟩) hP hD hS [0, 1, 2, 5, 6, 7] rfl (fun _ => rfl) (fun u_11 H locs hu_11 hP hS => ?_)
      obtain ⟨z9_11, Sp9_11, D9_11⟩ := u_11
      have hP : va_P (dC, dI) cls [(o, .inr (7, [.int (nI 0), .int (nI nd), .int (nI ar), .ref fF, .ref fG, .ref fT, .ref fN, .ref fW, .int be, .ref fO, .ref fB, .int (nI bz9_9), .ref fS, .ref fD, .int (nI z9_11)])), (fF, .inl (cI, 41, .inl (nF F))), (fG, .inl (cI, 41, .inl (nF G))), (fT, .inl (cZ, 41, .inl (bF P))), (fN, .inl (cI, 14, .inl N9_9)), (fB, .inl (cI, 41, .inl (nF Ob9_9))), (fS, .inl (cI, 8192, .inl (nF Sp9_11))), (fD, .inl (cZ, 8192, .inl (bF D9_11)))] H := hP
      have hD := hD.addr (ws' := [(o, .inr (7, [.int (nI 0), .int (nI nd), .int (nI ar), .ref fF, .ref fG, .ref fT, .ref fN, .ref fW, .int be, .ref fO, .ref fB, .int (nI bz9_9), .ref fS, .ref fD, .int (nI z9_11)])), (fF, .inl (cI, 41, .inl (nF F))), (fG, .inl (cI, 41, .inl (nF G))), (fT, .inl (cZ, 41, .inl (bF P))), (fN, .inl (cI, 14, .inl N9_9)), (fB, .inl (cI, 41, .inl (nF Ob9_9))), (fS, .inl (cI, 8192, .inl (nF Sp9_11))), (fD, .inl (cZ, 8192, .inl (bF D9_11)))]) rfl
      have hz14 := hu_11.2.2
      refine lv_aload_n hx hb d_MO_together_56 rfl (lv_at hl 0 rfl) ?_
      refine lv_aload_n hx hb d_MO_together_57 rfl (lv_at hl 0 rfl) ?_
      refine lv_iload_n hx hb d_MO_together_58 rfl (lv_at hl 1 rfl) ?_
      refine vp_callSi (va_Run.run (k_V (n := 1) (C := R_MO) (rest := [.ref o]) ⟨hx, hb, hml, hown, hts⟩ (c_MO_placeOf l dC dI cI cJ cZ o fF fG fT fN fW fO fB fS fD (nI 0) be (nI bz9_9) (nI z9_11) nd ar Ob9_9 q1 x (by first | assumption | omega) hq1x (fun k hk => by have := (hu_9.1 k (by omega)).1; omega)) wml_MO_147 wim_MO_placeOf wsel_MO_placeOf wini_MO wcode_MO_placeOf (by decide +kernel) ⟨Nat.le_of_ble_eq_true rfl, Nat.le_of_ble_eq_true rfl⟩ (preV_R (q := (R_MO, F_MO, 15)) (ci := 7) (q0 := 0) (hP.sub (ws' := [(o, .inr (7, [.int (nI 0), .int (nI nd), .int (nI ar), .ref fF, .ref fG, .ref fT, .ref fN, .ref fW, .int be, .ref fO, .ref fB, .int (nI bz9_9), .ref fS, .ref fD, .int (nI z9_11)])), (fB, .inl (cI, 41, .inl (nF Ob9_9)))]) [0, 5] rfl) hK rfl rfl) rfl hl.1 rfl (Nat.le_of_ble_eq_true rfl) d_MO_together_59 ⟨Nat.zero_le _, Nat.zero_le _⟩)) (fun r_12 hr_13 => ?_)
      obtain ⟨kx_14, ek_14, hk_14⟩ := hr_13
      refine xe_i (y := (nI kx_14)) ek_14 ?_
      refine xe_i (y := (nI q1)) (by rw [lb_inj hu_9 hq1 hq1x hk_14.1 hk_14.2.1]) ?_
      refine lv_aload_n hx hb d_MO_together_62 rfl (lv_at hl 0 rfl) ?_
      refine lv_iload_n hx hb d_MO_together_63 rfl (lv_at hl 2 rfl) ?_
      refine vp_callSi (va_Run.run (k_V (n := 1) (C := R_MO) (rest := [.int (nI q1), .ref o]) ⟨hx, hb, hml, hown, hts⟩ (c_MO_placeOf l dC dI cI cJ cZ o fF fG fT fN fW fO fB fS fD (nI 0) be (nI bz9_9) (nI z9_11) nd ar Ob9_9 q2 y (by first | assumption | omega) hq2x (fun k hk => by have := (hu_9.1 k (by omega)).1; omega)) wml_MO_147 wim_MO_placeOf wsel_MO_placeOf wini_MO wcode_MO_placeOf (by decide +kernel) ⟨Nat.le_of_ble_eq_true rfl, Nat.le_of_ble_eq_true rfl⟩ (preV_R (q := (R_MO, F_MO, 15)) (ci := 7) (q0 := 0) (hP.sub (ws' := [(o, .inr (7, [.int (nI 0), .int (nI nd), .int (nI ar), .ref fF, .ref fG, .ref fT, .ref fN, .ref fW, .int be, .ref fO, .ref fB, .int (nI bz9_9), .ref fS, .ref fD, .int (nI z9_11)])), (fB, .inl (cI, 41, .inl (nF Ob9_9)))]) [0, 5] rfl) hK rfl rfl) rfl hl.1 rfl (Nat.le_of_ble_eq_true rfl) d_MO_together_64 ⟨Nat.zero_le _, Nat.zero_le _⟩)) (fun r_15 hr_16 => ?_)
      obtain ⟨kx_17, ek_17, hk_17⟩ := hr_16
      refine xe_i (y := (nI kx_17)) ek_17 ?_
      refine xe_i (y := (nI q2)) (by rw [lb_inj hu_9 hq2 hq2x hk_17.1 hk_17.2.1]) ?_
      refine vp_callSi (va_Run.run (k_V (n := 2) (C := R_MO) (rest := []) ⟨hx, hb, hml, hown, hts⟩ (c_MO_areTogether l dC dI cI cJ cZ o fF fG fT fN fW fO fB fS fD (nI 0) be (nI bz9_9) nd ar z9_11 Sp9_11 D9_11 (by have := hpw _ (Nat.lt_succ_of_le (show _ ≤ 14 from by assumption)); omega) q1 q2 (by first | assumption | omega) (by first | assumption | omega)) wml_MO_150 wim_MO_areTogether wsel_MO_areTogether wini_MO wcode_MO_areTogether (by decide +kernel) ⟨Nat.le_of_ble_eq_true rfl, Nat.le_of_ble_eq_true rfl⟩ (preV_R (q := (R_MO, F_MO, 15)) (ci := 7) (q0 := 0) (hP.sub (ws' := [(o, .inr (7, [.int (nI 0), .int (nI nd), .int (nI ar), .ref fF, .ref fG, .ref fT, .ref fN, .ref fW, .int be, .ref fO, .ref fB, .int (nI bz9_9), .ref fS, .ref fD, .int (nI z9_11)])), (fS, .inl (cI, 8192, .inl (nF Sp9_11))), (fD, .inl (cZ, 8192, .inl (bF D9_11)))]) [0, 6, 7] rfl) hK rfl rfl) rfl hl.1 rfl (Nat.le_of_ble_eq_true rfl) d_MO_together_67 ⟨Nat.zero_le _, Nat.zero_le _⟩)) (fun r_18 hr_19 => ?_)
      refine xe_i (y := (bI (dc (tgR Sp9_11 D9_11 z9_11 q1 q2)))) hr_19 ?_
      refine x_if_eq (tgt := 77) hx hb d_MO_together_70 (by decide) (fun c_20 => ?_) (fun c_20 => ?_)
      · skip
        refine lv_iconst (v := (nI 0)) hx hb d_MO_together_77 (by decide) ?_
        exact W.iret (v := (nI 0)) hx hb hr (fun t9 ht9 _ => ⟨⟨_, (bz9_9, z9_11, N9_9, Ob9_9, Sp9_11, D9_11), rfl, ⟨⟨hu_9, by omega, hu_11.1, hu_11.2.1⟩, q1, q2, hq1, hq1x, hq2, hq2x, by rw [c_20]; rfl⟩, by show va_P (dC, dI) cls _ t9.heap; rw [ht9]; exact hP⟩, hS.F ht9⟩) hS.2.2 d_MO_together_78
      · skip
        refine lv_iconst (v := (nI 1)) hx hb d_MO_together_73 (by decide) ?_
        refine lv_goto (tgt := 78) hx hb d_MO_together_74 (by decide) ?_
        exact W.iret (v := (nI 1)) hx hb hr (fun t9 ht9 _ => ⟨⟨_, (bz9_9, z9_11, N9_9, Ob9_9, Sp9_11, D9_11), rfl, ⟨⟨hu_9, by omega, hu_11.1, hu_11.2.1⟩, q1, q2, hq1, hq1x, hq2, hq2x, by rw [c_20]; rfl⟩, by show va_P (dC, dI) cls _ t9.heap; rw [ht9]; exact hP⟩, hS.F ht9⟩) hS.2.2 d_MO_together_78
    · skip
      omega
  · skip
    exact absurd hnb (dc_f.mp c_8)

set_option maxHeartbeats 4000000 in
set_option maxRecDepth 100000 in
theorem c_MO_splits_r (l : Launch) (dC : Nat → ClassId) (dI : Nat → Nat → Nat) (cI cJ cZ : ClassId) (o fF fG fT fN fW fO fB fS fD : Nat) (th be bz sz : Int32) (nd ar : Nat) (P : Nat → Bool) (har : ar ≤ 40) (x : Nat) (hxa : x < ar) (hPx : P x = true) (y : Int32) (hout : y < 0 ∨ ¬ y ≤ nI 3) : Met l ⟨"CutPointsModel", "splits", "(II)I"⟩ (Cond.code ⟨"CutPointsModel", "splits", "(II)I"⟩ prog_9_method_49_code 7 (some .int) :: TT) (rmk 2 43) (PM dC dI cI cJ cZ [.ref o, .int (nI x), .int y] [(o, .inr (7, [.int th, .int (nI nd), .int (nI ar), .ref fF, .ref fG, .ref fT, .ref fN, .ref fW, .int be, .ref fO, .ref fB, .int bz, .ref fS, .ref fD, .int sz])), (fT, .inl (cZ, 41, .inl (bF P)))]) (va_Qi (S := Unit) (fun r u9 => r = -2) (fun u9 t9 => va_P (dC, dI) cls ([(o, .inr (7, [.int (nI 0), .int (nI nd), .int (nI ar), .ref fF, .ref fG, .ref fT, .ref fN, .ref fW, .int be, .ref fO, .ref fB, .int bz, .ref fS, .ref fD, .int sz])), (fT, .inl (cZ, 41, .inl (bF P)))]) t9.heap) (ow [(o, .inr (7, [.int th, .int (nI nd), .int (nI ar), .ref fF, .ref fG, .ref fT, .ref fN, .ref fW, .int be, .ref fO, .ref fB, .int bz, .ref fS, .ref fD, .int sz])), (fT, .inl (cZ, 41, .inl (bF P)))])) 0 0 (ow [(o, .inr (7, [.int th, .int (nI nd), .int (nI ar), .ref fF, .ref fG, .ref fT, .ref fN, .ref fW, .int be, .ref fO, .ref fB, .int bz, .ref fS, .ref fD, .int sz])), (fT, .inl (cZ, 41, .inl (bF P)))]) := by
  refine Met.ofW (cc := prog_9_method_49_code) (maxL := 7) (ret := (some .int)) (by decide) rfl ?_
  intro p e s m args below meth c s₁ BB9 hml hv
  obtain ⟨rfl, hP, hK, hD0⟩ := hv
  have hx := BB9.exec
  have hb := BB9.bytes
  have hr := BB9.returns
  have hts : ∀ w ∈ TT, w.before _ s = true := fun w h => atoms_spec (ws := (Cond.code ⟨"CutPointsModel", "splits", "(II)I"⟩ prog_9_method_49_code 7 (some .int) :: TT)) BB9.pre w (List.mem_cons_of_mem _ h)
  have hown : s.vm.findClass "CutPointsModel" = some m.cls := findClass_of_methodNamed BB9.named
  have hlocks := BB9.notSynchronized
  have hD := hD0.mine
  have hS : va_S (ow [(o, .inr (7, [.int th, .int (nI nd), .int (nI ar), .ref fF, .ref fG, .ref fT, .ref fN, .ref fW, .int be, .ref fO, .ref fB, .int bz, .ref fS, .ref fD, .int sz])), (fT, .inl (cZ, 41, .inl (bF P)))]) s.heap s.heap [] := va_S.rf
  have hl := lv_entry ([.ref o, .int (nI x), .int y]) (n := 7) (Nat.le_of_ble_eq_true rfl)
  rw [lg_entry_eq]
  generalize (lg_sl ([.ref o, .int (nI x), .int y]) ++ List.replicate (7 - (lg_sl ([.ref o, .int (nI x), .int y])).length) Slot.unset).toArray = ls at hl ⊢
  have hl : lv_has ls 7 [(0, .ref o), (1, .int (nI x)), (2, .int y)] := hl
  refine lv_aload_n hx hb d_MO_splits_0 rfl (lv_at hl 0 rfl) ?_
  refine lv_iconst (v := (nI 0)) hx hb d_MO_splits_1 (by decide) ?_
  refine va_put (D := (dC, dI)) (ci := 7) (v := .int (nI 0)) (ty := .int) (C := R_MO) (T := F_MO) (N := 15) hx hb hts in_MO t_MO t_MO_ok n_MO hown hK.1 hP hD hS 0 rfl rfl 0 (by decide) (hts _ wfl_MO_38) (fun _ h9 => h9) rfl (by decide +kernel) rfl rfl (Nat.le_of_ble_eq_true rfl) d_MO_splits_2 (fun H locs hP hD hS => ?_)
  have hP : va_P (dC, dI) cls [(o, .inr (7, [.int (nI 0), .int (nI nd), .int (nI ar), .ref fF, .ref fG, .ref fT, .ref fN, .ref fW, .int be, .ref fO, .ref fB, .int bz, .ref fS, .ref fD, .int sz])), (fT, .inl (cZ, 41, .inl (bF P)))] H := hP
  have hD : va_D (ow [(o, .inr (7, [.int th, .int (nI nd), .int (nI ar), .ref fF, .ref fG, .ref fT, .ref fN, .ref fW, .int be, .ref fO, .ref fB, .int bz, .ref fS, .ref fD, .int sz])), (fT, .inl (cZ, 41, .inl (bF P)))]) [(o, .inr (7, [.int (nI 0), .int (nI nd), .int (nI ar), .ref fF, .ref fG, .ref fT, .ref fN, .ref fW, .int be, .ref fO, .ref fB, .int bz, .ref fS, .ref fD, .int sz])), (fT, .inl (cZ, 41, .inl (bF P)))] := hD
  refine lv_aload_n hx hb d_MO_splits_5 rfl (lv_at hl 0 rfl) ?_
  refine lv_iload_n hx hb d_MO_splits_6 rfl (lv_at hl 1 rfl) ?_
  refine vp_callSi (va_Run.run (k_V (n := 1) (C := R_MO) (rest := []) ⟨hx, hb, hml, hown, hts⟩ (c_MO_isThere l dC dI cI cJ cZ o fF fG fT fN fW fO fB fS fD (nI 0) be bz sz nd ar P (nI x) (by first | assumption | omega)) wml_MO_113 wim_MO_isThere wsel_MO_isThere wini_MO wcode_MO_isThere (by decide +kernel) ⟨Nat.le_of_ble_eq_true rfl, Nat.le_of_ble_eq_true rfl⟩ (preV_R (q := (R_MO, F_MO, 15)) (ci := 7) (q0 := 0) (hP.sub (ws' := [(o, .inr (7, [.int (nI 0), .int (nI nd), .int (nI ar), .ref fF, .ref fG, .ref fT, .ref fN, .ref fW, .int be, .ref fO, .ref fB, .int bz, .ref fS, .ref fD, .int sz])), (fT, .inl (cZ, 41, .inl (bF P)))]) [0, 1] rfl) hK rfl rfl) rfl hl.1 rfl (Nat.le_of_ble_eq_true rfl) d_MO_splits_7 ⟨Nat.zero_le _, Nat.zero_le _⟩)) (fun r_1 hr_2 => ?_)
  refine xe_i (y := (bI (vd (nI x) ar && P (nI x).toNatClampNeg))) hr_2 ?_
  refine xe_i (y := (bI true)) (by rw [tm_tt (by omega) hxa hPx]) ?_
  refine lv_if_ne (tgt := 15) hx hb d_MO_splits_10 (by decide) (fun _ => ?_) (fun c9 => absurd c9 (by decide : ¬ ((bI true) : Int32) = 0))
  refine lv_iload_n hx hb d_MO_splits_15 rfl (lv_at hl 2 rfl) ?_
  refine lv_iconst (v := (nI 0)) hx hb d_MO_splits_16 (by decide) ?_
  refine lv_iconst (v := (nI 3)) hx hb d_MO_splits_17 (by decide) ?_
  refine vp_callSi (va_Run.run (k_S (n := 3) (rest := []) ⟨hx, hb, hml, hown, hts⟩ (c_MO_within l dC dI cI cJ cZ y (nI 0) (nI 3)) wml_MO_48 wst_MO_within wini_MO wcode_MO_within (by decide +kernel) ⟨Nat.le_of_ble_eq_true rfl, Nat.le_of_ble_eq_true rfl⟩ (pre_R (hP.sub (ws' := []) [] rfl) hK) rfl hl.1 rfl (Nat.le_of_ble_eq_true rfl) d_MO_splits_18 ⟨Nat.zero_le _, Nat.zero_le _⟩)) (fun r_4 hr_5 => ?_)
  refine xe_i (y := (bI (decide ((nI 0) ≤ y) && decide (y ≤ (nI 3))))) hr_5 ?_
  refine xe_i (y := (bI false)) (by rw [wim_f hout]) ?_
  refine lv_if_ne (tgt := 27) hx hb d_MO_splits_21 (by decide) (fun c9 => absurd (by decide : ((bI false) : Int32) = 0) c9) (fun _ => ?_)
  refine lv_bipush (v := (-2)) hx hb d_MO_splits_24 (by decide) ?_
  exact W.iret (v := (-2)) hx hb hr (fun t9 ht9 _ => ⟨⟨_, (), rfl, rfl, by show va_P (dC, dI) cls _ t9.heap; rw [ht9]; exact hP⟩, hS.F ht9⟩) hS.2.2 d_MO_splits_26

set_option maxHeartbeats 4000000 in
set_option maxRecDepth 100000 in
theorem c_MO_splits_0 (l : Launch) (dC : Nat → ClassId) (dI : Nat → Nat → Nat) (cI cJ cZ : ClassId) (o fF fG fT fN fW fO fB fS fD : Nat) (th be bz sz : Int32) (nd ar : Nat) (F G : Nat → Nat) (P : Nat → Bool) (hF : ∀ k, F k < 14) (hG : ∀ k, G k < 14) (hnd : nd ≤ 14) (har : ar ≤ 40) (hM : ∀ e, e < ar → F e < nd ∧ G e < nd) (Ob0 : Nat → Nat) (N0 : Nat → Int32) (x : Nat) (hxa : x < ar) (hPx : P x = true) : Met l ⟨"CutPointsModel", "splits", "(II)I"⟩ (Cond.code ⟨"CutPointsModel", "splits", "(II)I"⟩ prog_9_method_49_code 7 (some .int) :: TT) (rmk 3 74) (PM dC dI cI cJ cZ [.ref o, .int (nI x), .int (nI 0)] [(o, .inr (7, [.int th, .int (nI nd), .int (nI ar), .ref fF, .ref fG, .ref fT, .ref fN, .ref fW, .int be, .ref fO, .ref fB, .int bz, .ref fS, .ref fD, .int sz])), (fF, .inl (cI, 41, .inl (nF F))), (fG, .inl (cI, 41, .inl (nF G))), (fT, .inl (cZ, 41, .inl (bF P))), (fN, .inl (cI, 14, .inl N0)), (fB, .inl (cI, 41, .inl (nF Ob0)))]) (va_Qi (S := Nat × (Nat → Int32) × (Nat → Nat)) (fun r u9 => r = nI (cn (fun f => dc (P f = true ∧ abR ar nd P F G x f)) ar)) (fun u9 t9 => va_P (dC, dI) cls ([(o, .inr (7, [.int (nI 0), .int (nI nd), .int (nI ar), .ref fF, .ref fG, .ref fT, .ref fN, .ref fW, .int be, .ref fO, .ref fB, .int (nI u9.1), .ref fS, .ref fD, .int sz])), (fF, .inl (cI, 41, .inl (nF F))), (fG, .inl (cI, 41, .inl (nF G))), (fT, .inl (cZ, 41, .inl (bF P))), (fN, .inl (cI, 14, .inl u9.2.1)), (fB, .inl (cI, 41, .inl (nF u9.2.2)))]) t9.heap) (ow [(o, .inr (7, [.int th, .int (nI nd), .int (nI ar), .ref fF, .ref fG, .ref fT, .ref fN, .ref fW, .int be, .ref fO, .ref fB, .int bz, .ref fS, .ref fD, .int sz])), (fF, .inl (cI, 41, .inl (nF F))), (fG, .inl (cI, 41, .inl (nF G))), (fT, .inl (cZ, 41, .inl (bF P))), (fN, .inl (cI, 14, .inl N0)), (fB, .inl (cI, 41, .inl (nF Ob0)))])) 0 0 (ow [(o, .inr (7, [.int th, .int (nI nd), .int (nI ar), .ref fF, .ref fG, .ref fT, .ref fN, .ref fW, .int be, .ref fO, .ref fB, .int bz, .ref fS, .ref fD, .int sz])), (fF, .inl (cI, 41, .inl (nF F))), (fG, .inl (cI, 41, .inl (nF G))), (fT, .inl (cZ, 41, .inl (bF P))), (fN, .inl (cI, 14, .inl N0)), (fB, .inl (cI, 41, .inl (nF Ob0)))]) := by
  refine Met.ofW (cc := prog_9_method_49_code) (maxL := 7) (ret := (some .int)) (by decide) rfl ?_
  intro p e s m args below meth c s₁ BB9 hml hv
  obtain ⟨rfl, hP, hK, hD0⟩ := hv
  have hx := BB9.exec
  have hb := BB9.bytes
  have hr := BB9.returns
  have hts : ∀ w ∈ TT, w.before _ s = true := fun w h => atoms_spec (ws := (Cond.code ⟨"CutPointsModel", "splits", "(II)I"⟩ prog_9_method_49_code 7 (some .int) :: TT)) BB9.pre w (List.mem_cons_of_mem _ h)
  have hown : s.vm.findClass "CutPointsModel" = some m.cls := findClass_of_methodNamed BB9.named
  have hlocks := BB9.notSynchronized
  have hD := hD0.mine
  have hS : va_S (ow [(o, .inr (7, [.int th, .int (nI nd), .int (nI ar), .ref fF, .ref fG, .ref fT, .ref fN, .ref fW, .int be, .ref fO, .ref fB, .int bz, .ref fS, .ref fD, .int sz])), (fF, .inl (cI, 41, .inl (nF F))), (fG, .inl (cI, 41, .inl (nF G))), (fT, .inl (cZ, 41, .inl (bF P))), (fN, .inl (cI, 14, .inl N0)), (fB, .inl (cI, 41, .inl (nF Ob0)))]) s.heap s.heap [] := va_S.rf
  have hl := lv_entry ([.ref o, .int (nI x), .int (nI 0)]) (n := 7) (Nat.le_of_ble_eq_true rfl)
  rw [lg_entry_eq]
  generalize (lg_sl ([.ref o, .int (nI x), .int (nI 0)]) ++ List.replicate (7 - (lg_sl ([.ref o, .int (nI x), .int (nI 0)])).length) Slot.unset).toArray = ls at hl ⊢
  have hl : lv_has ls 7 [(0, .ref o), (1, .int (nI x)), (2, .int (nI 0))] := hl
  refine lv_aload_n hx hb d_MO_splits_0 rfl (lv_at hl 0 rfl) ?_
  refine lv_iconst (v := (nI 0)) hx hb d_MO_splits_1 (by decide) ?_
  refine va_put (D := (dC, dI)) (ci := 7) (v := .int (nI 0)) (ty := .int) (C := R_MO) (T := F_MO) (N := 15) hx hb hts in_MO t_MO t_MO_ok n_MO hown hK.1 hP hD hS 0 rfl rfl 0 (by decide) (hts _ wfl_MO_38) (fun _ h9 => h9) rfl (by decide +kernel) rfl rfl (Nat.le_of_ble_eq_true rfl) d_MO_splits_2 (fun H locs hP hD hS => ?_)
  have hP : va_P (dC, dI) cls [(o, .inr (7, [.int (nI 0), .int (nI nd), .int (nI ar), .ref fF, .ref fG, .ref fT, .ref fN, .ref fW, .int be, .ref fO, .ref fB, .int bz, .ref fS, .ref fD, .int sz])), (fF, .inl (cI, 41, .inl (nF F))), (fG, .inl (cI, 41, .inl (nF G))), (fT, .inl (cZ, 41, .inl (bF P))), (fN, .inl (cI, 14, .inl N0)), (fB, .inl (cI, 41, .inl (nF Ob0)))] H := hP
  have hD : va_D (ow [(o, .inr (7, [.int th, .int (nI nd), .int (nI ar), .ref fF, .ref fG, .ref fT, .ref fN, .ref fW, .int be, .ref fO, .ref fB, .int bz, .ref fS, .ref fD, .int sz])), (fF, .inl (cI, 41, .inl (nF F))), (fG, .inl (cI, 41, .inl (nF G))), (fT, .inl (cZ, 41, .inl (bF P))), (fN, .inl (cI, 14, .inl N0)), (fB, .inl (cI, 41, .inl (nF Ob0)))]) [(o, .inr (7, [.int (nI 0), .int (nI nd), .int (nI ar), .ref fF, .ref fG, .ref fT, .ref fN, .ref fW, .int be, .ref fO, .ref fB, .int bz, .ref fS, .ref fD, .int sz])), (fF, .inl (cI, 41, .inl (nF F))), (fG, .inl (cI, 41, .inl (nF G))), (fT, .inl (cZ, 41, .inl (bF P))), (fN, .inl (cI, 14, .inl N0)), (fB, .inl (cI, 41, .inl (nF Ob0)))] := hD
  refine lv_aload_n hx hb d_MO_splits_5 rfl (lv_at hl 0 rfl) ?_
  refine lv_iload_n hx hb d_MO_splits_6 rfl (lv_at hl 1 rfl) ?_
  refine vp_callSi (va_Run.run (k_V (n := 1) (C := R_MO) (rest := []) ⟨hx, hb, hml, hown, hts⟩ (c_MO_isThere l dC dI cI cJ cZ o fF fG fT fN fW fO fB fS fD (nI 0) be bz sz nd ar P (nI x) (by first | assumption | omega)) wml_MO_113 wim_MO_isThere wsel_MO_isThere wini_MO wcode_MO_isThere (by decide +kernel) ⟨Nat.le_of_ble_eq_true rfl, Nat.le_of_ble_eq_true rfl⟩ (preV_R (q := (R_MO, F_MO, 15)) (ci := 7) (q0 := 0) (hP.sub (ws' := [(o, .inr (7, [.int (nI 0), .int (nI nd), .int (nI ar), .ref fF, .ref fG, .ref fT, .ref fN, .ref fW, .int be, .ref fO, .ref fB, .int bz, .ref fS, .ref fD, .int sz])), (fT, .inl (cZ, 41, .inl (bF P)))]) [0, 3] rfl) hK rfl rfl) rfl hl.1 rfl (Nat.le_of_ble_eq_true rfl) d_MO_splits_7 ⟨Nat.zero_le _, Nat.zero_le _⟩)) (fun r_1 hr_2 => ?_)
  refine xe_i (y := (bI (vd (nI x) ar && P (nI x).toNatClampNeg))) hr_2 ?_
  refine xe_i (y := (bI true)) (by rw [tm_tt (by omega) hxa hPx]) ?_
  refine lv_if_ne (tgt := 15) hx hb d_MO_splits_10 (by decide) (fun _ => ?_) (fun c9 => absurd c9 (by decide : ¬ ((bI true) : Int32) = 0))
  refine lv_iload_n hx hb d_MO_splits_15 rfl (lv_at hl 2 rfl) ?_
  refine lv_iconst (v := (nI 0)) hx hb d_MO_splits_16 (by decide) ?_
  refine lv_iconst (v := (nI 3)) hx hb d_MO_splits_17 (by decide) ?_
  refine vp_callSi (va_Run.run (k_S (n := 3) (rest := []) ⟨hx, hb, hml, hown, hts⟩ (c_MO_within l dC dI cI cJ cZ (nI 0) (nI 0) (nI 3)) wml_MO_48 wst_MO_within wini_MO wcode_MO_within (by decide +kernel) ⟨Nat.le_of_ble_eq_true rfl, Nat.le_of_ble_eq_true rfl⟩ (pre_R (hP.sub (ws' := []) [] rfl) hK) rfl hl.1 rfl (Nat.le_of_ble_eq_true rfl) d_MO_splits_18 ⟨Nat.zero_le _, Nat.zero_le _⟩)) (fun r_4 hr_5 => ?_)
  refine xe_i (y := (bI (decide ((nI 0) ≤ (nI 0)) && decide ((nI 0) ≤ (nI 3))))) hr_5 ?_
  refine xe_i (y := (bI true)) (by decide) ?_
  refine lv_if_ne (tgt := 27) hx hb d_MO_splits_21 (by decide) (fun _ => ?_) (fun c9 => absurd c9 (by decide : ¬ ((bI true) : Int32) = 0))
  refine lv_aload_n hx hb d_MO_splits_27 rfl (lv_at hl 0 rfl) ?_
  refine lv_iload_n hx hb d_MO_splits_28 rfl (lv_at hl 1 rfl) ?_
  refine x_cv (k_V (n := 1) (C := R_MO) (rest := []) ⟨hx, hb, hml, hown, hts⟩ (c_MO_layBlock l dC dI cI cJ cZ o fF fG fT fN fW fO fB fS fD (nI 0) be bz sz nd ar F G P hF hG (by first | assumption | omega) (by first | assumption | omega) hM N0 Ob0 x (by first | assumption | omega)) wml_MO_141 wim_MO_layBlock wsel_MO_layBlock wini_MO wcode_MO_layBlock (by decide +kernel) ⟨Nat.le_of_ble_eq_true rfl, Nat.le_of_ble_eq_true rfl⟩ (preV_M (q := (R_MO, F_MO, 15)) (ci := 7) (q0 := 0) (hP.sub (ws' := [(o, .inr (7, [.int (nI 0), .int (nI nd), .int (nI ar), .ref fF, .ref fG, .ref fT, .ref fN, .ref fW, .int be, .ref fO, .ref fB, .int bz, .ref fS, .ref fD, .int sz])), (fF, .inl (cI, 41, .inl (nF F))), (fG, .inl (cI, 41, .inl (nF G))), (fT, .inl (cZ, 41, .inl (bF P))), (fN, .inl (cI, 14, .inl N0)), (fB, .inl (cI, 41, .inl (nF Ob0)))]) [0, 1, 2, 3, 4, 5] rfl) hK (hD.sub (ws' := [(o, .inr (7, [.int (nI 0), .int (nI nd), .int (nI ar), .ref fF, .ref fG, .ref fT, .ref fN, .ref fW, .int be, .ref fO, .ref fB, .int bz, .ref fS, .ref fD, .int sz])), (fF, .inl (cI, 41, .inl (nF F))), (fG, .inl (cI, 41, .inl (nF G))), (fT, .inl (cZ, 41, .inl (bF P))), (fN, .inl (cI, 14, .inl N0)), (fB, .inl (cI, 41, .inl (nF Ob0)))]) [0, 1, 2, 3, 4, 5] (by decide) rfl) rfl rfl) rfl hl.1 rfl (Nat.le_of_ble_eq_true rfl) d_MO_splits_29 ⟨Nat.zero_le _, Nat.zero_le _⟩) hP hD hS [0, 1, 2, 3, 4, 5] rfl (fun _ => rfl) (fun u_7 H locs hu_7 hP hS => ?_)
  obtain ⟨bz9_7, N9_7, Ob9_7⟩ := u_7
  have hP : va_P (dC, dI) cls [(o, .inr (7, [.int (nI 0), .int (nI nd), .int (nI ar), .ref fF, .ref fG, .ref fT, .ref fN, .ref fW, .int be, .ref fO, .ref fB, .int (nI bz9_7), .ref fS, .ref fD, .int sz])), (fF, .inl (cI, 41, .inl (nF F))), (fG, .inl (cI, 41, .inl (nF G))), (fT, .inl (cZ, 41, .inl (bF P))), (fN, .inl (cI, 14, .inl N9_7)), (fB, .inl (cI, 41, .inl (nF Ob9_7)))] H := hP
  have hD := hD.addr (ws' := [(o, .inr (7, [.int (nI 0), .int (nI nd), .int (nI ar), .ref fF, .ref fG, .ref fT, .ref fN, .ref fW, .int be, .ref fO, .ref fB, .int (nI bz9_7), .ref fS, .ref fD, .int sz])), (fF, .inl (cI, 41, .inl (nF F))), (fG, .inl (cI, 41, .inl (nF G))), (fT, .inl (cZ, 41, .inl (bF P))), (fN, .inl (cI, 14, .inl N9_7)), (fB, .inl (cI, 41, .inl (nF Ob9_7)))]) rfl
  dsimp only at hu_7
  have hbn := lb_cn hu_7
  have hb40 := cn_le (fun f => dc (P f = true ∧ abR ar nd P F G x f)) ar
  refine lv_iload_n hx hb d_MO_splits_32 rfl (lv_at hl 2 rfl) ?_
  refine lv_if_ne (tgt := 41) hx hb d_MO_splits_33 (by decide) (fun c9 => absurd (by decide : ((nI 0) : Int32) = 0) c9) (fun _ => ?_)
  refine lv_aload_n hx hb d_MO_splits_36 rfl (lv_at hl 0 rfl) ?_
  refine va_get (D := (dC, dI)) (ci := 7) (v := .int (nI bz9_7)) (C := R_MO) (T := F_MO) (N := 15) hx hb hts in_MO hown hK.1 hP 0 rfl rfl 11 (by decide) (hts _ wfl_MO_132) (fun _ h9 => h9) rfl d_MO_splits_37 ?_
  exact W.iret (v := (nI bz9_7)) hx hb hr (fun t9 ht9 _ => ⟨⟨_, (bz9_7, N9_7, Ob9_7), rfl, (by rw [hbn]), by show va_P (dC, dI) cls _ t9.heap; rw [ht9]; exact hP⟩, hS.F ht9⟩) hS.2.2 d_MO_splits_40

set_option maxHeartbeats 4000000 in
set_option maxRecDepth 100000 in
theorem c_MO_splits_l1 (l : Launch) (dC : Nat → ClassId) (dI : Nat → Nat → Nat) (cI cJ cZ : ClassId) (o fF fG fT fN fW fO fB fS fD : Nat) (th be bz sz : Int32) (nd ar : Nat) (F G : Nat → Nat) (P : Nat → Bool) (hF : ∀ k, F k < 14) (hG : ∀ k, G k < 14) (hnd : nd ≤ 14) (har : ar ≤ 40) (hM : ∀ e, e < ar → F e < nd ∧ G e < nd) (Ob0 : Nat → Nat) (N0 : Nat → Int32) (x : Nat) (hxa : x < ar) (hPx : P x = true) (h14 : 14 < cn (fun f => dc (P f = true ∧ abR ar nd P F G x f)) ar) : Met l ⟨"CutPointsModel", "splits", "(II)I"⟩ (Cond.code ⟨"CutPointsModel", "splits", "(II)I"⟩ prog_9_method_49_code 7 (some .int) :: TT) (rmk 3 74) (PM dC dI cI cJ cZ [.ref o, .int (nI x), .int (nI 1)] [(o, .inr (7, [.int th, .int (nI nd), .int (nI ar), .ref fF, .ref fG, .ref fT, .ref fN, .ref fW, .int be, .ref fO, .ref fB, .int bz, .ref fS, .ref fD, .int sz])), (fF, .inl (cI, 41, .inl (nF F))), (fG, .inl (cI, 41, .inl (nF G))), (fT, .inl (cZ, 41, .inl (bF P))), (fN, .inl (cI, 14, .inl N0)), (fB, .inl (cI, 41, .inl (nF Ob0)))]) (va_Qi (S := Nat × (Nat → Int32) × (Nat → Nat)) (fun r u9 => r = -4) (fun u9 t9 => va_P (dC, dI) cls ([(o, .inr (7, [.int (nI 0), .int (nI nd), .int (nI ar), .ref fF, .ref fG, .ref fT, .ref fN, .ref fW, .int be, .ref fO, .ref fB, .int (nI u9.1), .ref fS, .ref fD, .int sz])), (fF, .inl (cI, 41, .inl (nF F))), (fG, .inl (cI, 41, .inl (nF G))), (fT, .inl (cZ, 41, .inl (bF P))), (fN, .inl (cI, 14, .inl u9.2.1)), (fB, .inl (cI, 41, .inl (nF u9.2.2)))]) t9.heap) (ow [(o, .inr (7, [.int th, .int (nI nd), .int (nI ar), .ref fF, .ref fG, .ref fT, .ref fN, .ref fW, .int be, .ref fO, .ref fB, .int bz, .ref fS, .ref fD, .int sz])), (fF, .inl (cI, 41, .inl (nF F))), (fG, .inl (cI, 41, .inl (nF G))), (fT, .inl (cZ, 41, .inl (bF P))), (fN, .inl (cI, 14, .inl N0)), (fB, .inl (cI, 41, .inl (nF Ob0)))])) 0 0 (ow [(o, .inr (7, [.int th, .int (nI nd), .int (nI ar), .ref fF, .ref fG, .ref fT, .ref fN, .ref fW, .int be, .ref fO, .ref fB, .int bz, .ref fS, .ref fD, .int sz])), (fF, .inl (cI, 41, .inl (nF F))), (fG, .inl (cI, 41, .inl (nF G))), (fT, .inl (cZ, 41, .inl (bF P))), (fN, .inl (cI, 14, .inl N0)), (fB, .inl (cI, 41, .inl (nF Ob0)))]) := by
  refine Met.ofW (cc := prog_9_method_49_code) (maxL := 7) (ret := (some .int)) (by decide) rfl ?_
  intro p e s m args below meth c s₁ BB9 hml hv
  obtain ⟨rfl, hP, hK, hD0⟩ := hv
  have hx := BB9.exec
  have hb := BB9.bytes
  have hr := BB9.returns
  have hts : ∀ w ∈ TT, w.before _ s = true := fun w h => atoms_spec (ws := (Cond.code ⟨"CutPointsModel", "splits", "(II)I"⟩ prog_9_method_49_code 7 (some .int) :: TT)) BB9.pre w (List.mem_cons_of_mem _ h)
  have hown : s.vm.findClass "CutPointsModel" = some m.cls := findClass_of_methodNamed BB9.named
  have hlocks := BB9.notSynchronized
  have hD := hD0.mine
  have hS : va_S (ow [(o, .inr (7, [.int th, .int (nI nd), .int (nI ar), .ref fF, .ref fG, .ref fT, .ref fN, .ref fW, .int be, .ref fO, .ref fB, .int bz, .ref fS, .ref fD, .int sz])), (fF, .inl (cI, 41, .inl (nF F))), (fG, .inl (cI, 41, .inl (nF G))), (fT, .inl (cZ, 41, .inl (bF P))), (fN, .inl (cI, 14, .inl N0)), (fB, .inl (cI, 41, .inl (nF Ob0)))]) s.heap s.heap [] := va_S.rf
  have hl := lv_entry ([.ref o, .int (nI x), .int (nI 1)]) (n := 7) (Nat.le_of_ble_eq_true rfl)
  rw [lg_entry_eq]
  generalize (lg_sl ([.ref o, .int (nI x), .int (nI 1)]) ++ List.replicate (7 - (lg_sl ([.ref o, .int (nI x), .int (nI 1)])).length) Slot.unset).toArray = ls at hl ⊢
  have hl : lv_has ls 7 [(0, .ref o), (1, .int (nI x)), (2, .int (nI 1))] := hl
  refine lv_aload_n hx hb d_MO_splits_0 rfl (lv_at hl 0 rfl) ?_
  refine lv_iconst (v := (nI 0)) hx hb d_MO_splits_1 (by decide) ?_
  refine va_put (D := (dC, dI)) (ci := 7) (v := .int (nI 0)) (ty := .int) (C := R_MO) (T := F_MO) (N := 15) hx hb hts in_MO t_MO t_MO_ok n_MO hown hK.1 hP hD hS 0 rfl rfl 0 (by decide) (hts _ wfl_MO_38) (fun _ h9 => h9) rfl (by decide +kernel) rfl rfl (Nat.le_of_ble_eq_true rfl) d_MO_splits_2 (fun H locs hP hD hS => ?_)
  have hP : va_P (dC, dI) cls [(o, .inr (7, [.int (nI 0), .int (nI nd), .int (nI ar), .ref fF, .ref fG, .ref fT, .ref fN, .ref fW, .int be, .ref fO, .ref fB, .int bz, .ref fS, .ref fD, .int sz])), (fF, .inl (cI, 41, .inl (nF F))), (fG, .inl (cI, 41, .inl (nF G))), (fT, .inl (cZ, 41, .inl (bF P))), (fN, .inl (cI, 14, .inl N0)), (fB, .inl (cI, 41, .inl (nF Ob0)))] H := hP
  have hD : va_D (ow [(o, .inr (7, [.int th, .int (nI nd), .int (nI ar), .ref fF, .ref fG, .ref fT, .ref fN, .ref fW, .int be, .ref fO, .ref fB, .int bz, .ref fS, .ref fD, .int sz])), (fF, .inl (cI, 41, .inl (nF F))), (fG, .inl (cI, 41, .inl (nF G))), (fT, .inl (cZ, 41, .inl (bF P))), (fN, .inl (cI, 14, .inl N0)), (fB, .inl (cI, 41, .inl (nF Ob0)))]) [(o, .inr (7, [.int (nI 0), .int (nI nd), .int (nI ar), .ref fF, .ref fG, .ref fT, .ref fN, .ref fW, .int be, .ref fO, .ref fB, .int bz, .ref fS, .ref fD, .int sz])), (fF, .inl (cI, 41, .inl (nF F))), (fG, .inl (cI, 41, .inl (nF G))), (fT, .inl (cZ, 41, .inl (bF P))), (fN, .inl (cI, 14, .inl N0)), (fB, .inl (cI, 41, .inl (nF Ob0)))] := hD
  refine lv_aload_n hx hb d_MO_splits_5 rfl (lv_at hl 0 rfl) ?_
  refine lv_iload_n hx hb d_MO_splits_6 rfl (lv_at hl 1 rfl) ?_
  refine vp_callSi (va_Run.run (k_V (n := 1) (C := R_MO) (rest := []) ⟨hx, hb, hml, hown, hts⟩ (c_MO_isThere l dC dI cI cJ cZ o fF fG fT fN fW fO fB fS fD (nI 0) be bz sz nd ar P (nI x) (by first | assumption | omega)) wml_MO_113 wim_MO_isThere wsel_MO_isThere wini_MO wcode_MO_isThere (by decide +kernel) ⟨Nat.le_of_ble_eq_true rfl, Nat.le_of_ble_eq_true rfl⟩ (preV_R (q := (R_MO, F_MO, 15)) (ci := 7) (q0 := 0) (hP.sub (ws' := [(o, .inr (7, [.int (nI 0), .int (nI nd), .int (nI ar), .ref fF, .ref fG, .ref fT, .ref fN, .ref fW, .int be, .ref fO, .ref fB, .int bz, .ref fS, .ref fD, .int sz])), (fT, .inl (cZ, 41, .inl (bF P)))]) [0, 3] rfl) hK rfl rfl) rfl hl.1 rfl (Nat.le_of_ble_eq_true rfl) d_MO_splits_7 ⟨Nat.zero_le _, Nat.zero_le _⟩)) (fun r_1 hr_2 => ?_)
  refine xe_i (y := (bI (vd (nI x) ar && P (nI x).toNatClampNeg))) hr_2 ?_
  refine xe_i (y := (bI true)) (by rw [tm_tt (by omega) hxa hPx]) ?_
  refine lv_if_ne (tgt := 15) hx hb d_MO_splits_10 (by decide) (fun _ => ?_) (fun c9 => absurd c9 (by decide : ¬ ((bI true) : Int32) = 0))
  refine lv_iload_n hx hb d_MO_splits_15 rfl (lv_at hl 2 rfl) ?_
  refine lv_iconst (v := (nI 0)) hx hb d_MO_splits_16 (by decide) ?_
  refine lv_iconst (v := (nI 3)) hx hb d_MO_splits_17 (by decide) ?_
  refine vp_callSi (va_Run.run (k_S (n := 3) (rest := []) ⟨hx, hb, hml, hown, hts⟩ (c_MO_within l dC dI cI cJ cZ (nI 1) (nI 0) (nI 3)) wml_MO_48 wst_MO_within wini_MO wcode_MO_within (by decide +kernel) ⟨Nat.le_of_ble_eq_true rfl, Nat.le_of_ble_eq_true rfl⟩ (pre_R (hP.sub (ws' := []) [] rfl) hK) rfl hl.1 rfl (Nat.le_of_ble_eq_true rfl) d_MO_splits_18 ⟨Nat.zero_le _, Nat.zero_le _⟩)) (fun r_4 hr_5 => ?_)
  refine xe_i (y := (bI (decide ((nI 0) ≤ (nI 1)) && decide ((nI 1) ≤ (nI 3))))) hr_5 ?_
  refine xe_i (y := (bI true)) (by decide) ?_
  refine lv_if_ne (tgt := 27) hx hb d_MO_splits_21 (by decide) (fun _ => ?_) (fun c9 => absurd c9 (by decide : ¬ ((bI true) : Int32) = 0))
  refine lv_aload_n hx hb d_MO_splits_27 rfl (lv_at hl 0 rfl) ?_
  refine lv_iload_n hx hb d_MO_splits_28 rfl (lv_at hl 1 rfl) ?_
  refine x_cv (k_V (n := 1) (C := R_MO) (rest := []) ⟨hx, hb, hml, hown, hts⟩ (c_MO_layBlock l dC dI cI cJ cZ o fF fG fT fN fW fO fB fS fD (nI 0) be bz sz nd ar F G P hF hG (by first | assumption | omega) (by first | assumption | omega) hM N0 Ob0 x (by first | assumption | omega)) wml_MO_141 wim_MO_layBlock wsel_MO_layBlock wini_MO wcode_MO_layBlock (by decide +kernel) ⟨Nat.le_of_ble_eq_true rfl, Nat.le_of_ble_eq_true rfl⟩ (preV_M (q := (R_MO, F_MO, 15)) (ci := 7) (q0 := 0) (hP.sub (ws' := [(o, .inr (7, [.int (nI 0), .int (nI nd), .int (nI ar), .ref fF, .ref fG, .ref fT, .ref fN, .ref fW, .int be, .ref fO, .ref fB, .int bz, .ref fS, .ref fD, .int sz])), (fF, .inl (cI, 41, .inl (nF F))), (fG, .inl (cI, 41, .inl (nF G))), (fT, .inl (cZ, 41, .inl (bF P))), (fN, .inl (cI, 14, .inl N0)), (fB, .inl (cI, 41, .inl (nF Ob0)))]) [0, 1, 2, 3, 4, 5] rfl) hK (hD.sub (ws' := [(o, .inr (7, [.int (nI 0), .int (nI nd), .int (nI ar), .ref fF, .ref fG, .ref fT, .ref fN, .ref fW, .int be, .ref fO, .ref fB, .int bz, .ref fS, .ref fD, .int sz])), (fF, .inl (cI, 41, .inl (nF F))), (fG, .inl (cI, 41, .inl (nF G))), (fT, .inl (cZ, 41, .inl (bF P))), (fN, .inl (cI, 14, .inl N0)), (fB, .inl (cI, 41, .inl (nF Ob0)))]) [0, 1, 2, 3, 4, 5] (by decide) rfl) rfl rfl) rfl hl.1 rfl (Nat.le_of_ble_eq_true rfl) d_MO_splits_29 ⟨Nat.zero_le _, Nat.zero_le _⟩) hP hD hS [0, 1, 2, 3, 4, 5] rfl (fun _ => rfl) (fun u_7 H locs hu_7 hP hS => ?_)
  obtain ⟨bz9_7, N9_7, Ob9_7⟩ := u_7
  have hP : va_P (dC, dI) cls [(o, .inr (7, [.int (nI 0), .int (nI nd), .int (nI ar), .ref fF, .ref fG, .ref fT, .ref fN, .ref fW, .int be, .ref fO, .ref fB, .int (nI bz9_7), .ref fS, .ref fD, .int sz])), (fF, .inl (cI, 41, .inl (nF F))), (fG, .inl (cI, 41, .inl (nF G))), (fT, .inl (cZ, 41, .inl (bF P))), (fN, .inl (cI, 14, .inl N9_7)), (fB, .inl (cI, 41, .inl (nF Ob9_7)))] H := hP
  have hD := hD.addr (ws' := [(o, .inr (7, [.int (nI 0), .int (nI nd), .int (nI ar), .ref fF, .ref fG, .ref fT, .ref fN, .ref fW, .int be, .ref fO, .ref fB, .int (nI bz9_7), .ref fS, .ref fD, .int sz])), (fF, .inl (cI, 41, .inl (nF F))), (fG, .inl (cI, 41, .inl (nF G))), (fT, .inl (cZ, 41, .inl (bF P))), (fN, .inl (cI, 14, .inl N9_7)), (fB, .inl (cI, 41, .inl (nF Ob9_7)))]) rfl
  dsimp only at hu_7
  have hbn := lb_cn hu_7
  have hb40 := cn_le (fun f => dc (P f = true ∧ abR ar nd P F G x f)) ar
  refine lv_iload_n hx hb d_MO_splits_32 rfl (lv_at hl 2 rfl) ?_
  refine lv_if_ne (tgt := 41) hx hb d_MO_splits_33 (by decide) (fun _ => ?_) (fun c9 => absurd c9 (by decide : ¬ ((nI 1) : Int32) = 0))
  refine lv_aload_n hx hb d_MO_splits_41 rfl (lv_at hl 0 rfl) ?_
  refine va_get (D := (dC, dI)) (ci := 7) (v := .int (nI bz9_7)) (C := R_MO) (T := F_MO) (N := 15) hx hb hts in_MO hown hK.1 hP 0 rfl rfl 11 (by decide) (hts _ wfl_MO_132) (fun _ h9 => h9) rfl d_MO_splits_42 ?_
  refine lv_bipush (v := (nI 14)) hx hb d_MO_splits_45 (by decide) ?_
  refine x_cmp_le (a := bz9_7) (b := 14) (tgt := 53) hx hb (by omega) (by omega) d_MO_splits_47 (by decide) (fun c_9 => ?_) (fun c_9 => ?_)
  · skip
    omega
  · skip
    refine lv_bipush (v := (-4)) hx hb d_MO_splits_50 (by decide) ?_
    exact W.iret (v := (-4)) hx hb hr (fun t9 ht9 _ => ⟨⟨_, (bz9_7, N9_7, Ob9_7), rfl, rfl, by show va_P (dC, dI) cls _ t9.heap; rw [ht9]; exact hP⟩, hS.F ht9⟩) hS.2.2 d_MO_splits_52

set_option maxHeartbeats 4000000 in
set_option maxRecDepth 100000 in
theorem c_MO_splits_1 (l : Launch) (dC : Nat → ClassId) (dI : Nat → Nat → Nat) (cI cJ cZ : ClassId) (o fF fG fT fN fW fO fB fS fD : Nat) (th be bz sz : Int32) (nd ar : Nat) (F G : Nat → Nat) (P : Nat → Bool) (hF : ∀ k, F k < 14) (hG : ∀ k, G k < 14) (hnd : nd ≤ 14) (har : ar ≤ 40) (hM : ∀ e, e < ar → F e < nd ∧ G e < nd) (Ob0 Sp0 : Nat → Nat) (D0 : Nat → Bool) (N0 : Nat → Int32) (x : Nat) (hxa : x < ar) (hPx : P x = true) (h14 : cn (fun f => dc (P f = true ∧ abR ar nd P F G x f)) ar ≤ 14) : Met l ⟨"CutPointsModel", "splits", "(II)I"⟩ (Cond.code ⟨"CutPointsModel", "splits", "(II)I"⟩ prog_9_method_49_code 7 (some .int) :: TT) (rmk 3 74) (PM dC dI cI cJ cZ [.ref o, .int (nI x), .int (nI 1)] [(o, .inr (7, [.int th, .int (nI nd), .int (nI ar), .ref fF, .ref fG, .ref fT, .ref fN, .ref fW, .int be, .ref fO, .ref fB, .int bz, .ref fS, .ref fD, .int sz])), (fF, .inl (cI, 41, .inl (nF F))), (fG, .inl (cI, 41, .inl (nF G))), (fT, .inl (cZ, 41, .inl (bF P))), (fN, .inl (cI, 14, .inl N0)), (fB, .inl (cI, 41, .inl (nF Ob0))), (fS, .inl (cI, 8192, .inl (nF Sp0))), (fD, .inl (cZ, 8192, .inl (bF D0)))]) (va_Qi (S := Nat × Nat × (Nat → Int32) × (Nat → Nat) × (Nat → Nat) × (Nat → Bool)) (fun r u9 => (lbI (fun f => P f = true ∧ abR ar nd P F G x f) u9.2.2.2.1 u9.1 ar ∧ u9.1 ≤ 14 ∧ lbI (spQ F G u9.2.2.2.1 u9.1) u9.2.2.2.2.1 u9.2.1 (2 ^ u9.1 - 1) ∧ gdO u9.1 u9.2.2.2.2.1 u9.2.2.2.2.2 u9.2.1 u9.2.1) ∧ r = nI (cn u9.2.2.2.2.2 u9.2.1)) (fun u9 t9 => va_P (dC, dI) cls ([(o, .inr (7, [.int (nI 0), .int (nI nd), .int (nI ar), .ref fF, .ref fG, .ref fT, .ref fN, .ref fW, .int be, .ref fO, .ref fB, .int (nI u9.1), .ref fS, .ref fD, .int (nI u9.2.1)])), (fF, .inl (cI, 41, .inl (nF F))), (fG, .inl (cI, 41, .inl (nF G))), (fT, .inl (cZ, 41, .inl (bF P))), (fN, .inl (cI, 14, .inl u9.2.2.1)), (fB, .inl (cI, 41, .inl (nF u9.2.2.2.1))), (fS, .inl (cI, 8192, .inl (nF u9.2.2.2.2.1))), (fD, .inl (cZ, 8192, .inl (bF u9.2.2.2.2.2)))]) t9.heap) (ow [(o, .inr (7, [.int th, .int (nI nd), .int (nI ar), .ref fF, .ref fG, .ref fT, .ref fN, .ref fW, .int be, .ref fO, .ref fB, .int bz, .ref fS, .ref fD, .int sz])), (fF, .inl (cI, 41, .inl (nF F))), (fG, .inl (cI, 41, .inl (nF G))), (fT, .inl (cZ, 41, .inl (bF P))), (fN, .inl (cI, 14, .inl N0)), (fB, .inl (cI, 41, .inl (nF Ob0))), (fS, .inl (cI, 8192, .inl (nF Sp0))), (fD, .inl (cZ, 8192, .inl (bF D0)))])) 0 0 (ow [(o, .inr (7, [.int th, .int (nI nd), .int (nI ar), .ref fF, .ref fG, .ref fT, .ref fN, .ref fW, .int be, .ref fO, .ref fB, .int bz, .ref fS, .ref fD, .int sz])), (fF, .inl (cI, 41, .inl (nF F))), (fG, .inl (cI, 41, .inl (nF G))), (fT, .inl (cZ, 41, .inl (bF P))), (fN, .inl (cI, 14, .inl N0)), (fB, .inl (cI, 41, .inl (nF Ob0))), (fS, .inl (cI, 8192, .inl (nF Sp0))), (fD, .inl (cZ, 8192, .inl (bF D0)))]) := by
  refine Met.ofW (cc := prog_9_method_49_code) (maxL := 7) (ret := (some .int)) (by decide) rfl ?_
  intro p e s m args below meth c s₁ BB9 hml hv
  obtain ⟨rfl, hP, hK, hD0⟩ := hv
  have hx := BB9.exec
  have hb := BB9.bytes
  have hr := BB9.returns
  have hts : ∀ w ∈ TT, w.before _ s = true := fun w h => atoms_spec (ws := (Cond.code ⟨"CutPointsModel", "splits", "(II)I"⟩ prog_9_method_49_code 7 (some .int) :: TT)) BB9.pre w (List.mem_cons_of_mem _ h)
  have hown : s.vm.findClass "CutPointsModel" = some m.cls := findClass_of_methodNamed BB9.named
  have hlocks := BB9.notSynchronized
  have hD := hD0.mine
  have hS : va_S (ow [(o, .inr (7, [.int th, .int (nI nd), .int (nI ar), .ref fF, .ref fG, .ref fT, .ref fN, .ref fW, .int be, .ref fO, .ref fB, .int bz, .ref fS, .ref fD, .int sz])), (fF, .inl (cI, 41, .inl (nF F))), (fG, .inl (cI, 41, .inl (nF G))), (fT, .inl (cZ, 41, .inl (bF P))), (fN, .inl (cI, 14, .inl N0)), (fB, .inl (cI, 41, .inl (nF Ob0))), (fS, .inl (cI, 8192, .inl (nF Sp0))), (fD, .inl (cZ, 8192, .inl (bF D0)))]) s.heap s.heap [] := va_S.rf
  have hpw : ∀ n, n < 15 → 2 ^ n ≤ 16384 := pow_le
  have hl := lv_entry ([.ref o, .int (nI x), .int (nI 1)]) (n := 7) (Nat.le_of_ble_eq_true rfl)
  rw [lg_entry_eq]
  generalize (lg_sl ([.ref o, .int (nI x), .int (nI 1)]) ++ List.replicate (7 - (lg_sl ([.ref o, .int (nI x), .int (nI 1)])).length) Slot.unset).toArray = ls at hl ⊢
  have hl : lv_has ls 7 [(0, .ref o), (1, .int (nI x)), (2, .int (nI 1))] := hl
  refine lv_aload_n hx hb d_MO_splits_0 rfl (lv_at hl 0 rfl) ?_
  refine lv_iconst (v := (nI 0)) hx hb d_MO_splits_1 (by decide) ?_
  refine va_put (D := (dC, dI)) (ci := 7) (v := .int (nI 0)) (ty := .int) (C := R_MO) (T := F_MO) (N := 15) hx hb hts in_MO t_MO t_MO_ok n_MO hown hK.1 hP hD hS 0 rfl rfl 0 (by decide) (hts _ wfl_MO_38) (fun _ h9 => h9) rfl (by decide +kernel) rfl rfl (Nat.le_of_ble_eq_true rfl) d_MO_splits_2 (fun H locs hP hD hS => ?_)
  have hP : va_P (dC, dI) cls [(o, .inr (7, [.int (nI 0), .int (nI nd), .int (nI ar), .ref fF, .ref fG, .ref fT, .ref fN, .ref fW, .int be, .ref fO, .ref fB, .int bz, .ref fS, .ref fD, .int sz])), (fF, .inl (cI, 41, .inl (nF F))), (fG, .inl (cI, 41, .inl (nF G))), (fT, .inl (cZ, 41, .inl (bF P))), (fN, .inl (cI, 14, .inl N0)), (fB, .inl (cI, 41, .inl (nF Ob0))), (fS, .inl (cI, 8192, .inl (nF Sp0))), (fD, .inl (cZ, 8192, .inl (bF D0)))] H := hP
  have hD : va_D (ow [(o, .inr (7, [.int th, .int (nI nd), .int (nI ar), .ref fF, .ref fG, .ref fT, .ref fN, .ref fW, .int be, .ref fO, .ref fB, .int bz, .ref fS, .ref fD, .int sz])), (fF, .inl (cI, 41, .inl (nF F))), (fG, .inl (cI, 41, .inl (nF G))), (fT, .inl (cZ, 41, .inl (bF P))), (fN, .inl (cI, 14, .inl N0)), (fB, .inl (cI, 41, .inl (nF Ob0))), (fS, .inl (cI, 8192, .inl (nF Sp0))), (fD, .inl (cZ, 8192, .inl (bF D0)))]) [(o, .inr (7, [.int (nI 0), .int (nI nd), .int (nI ar), .ref fF, .ref fG, .ref fT, .ref fN, .ref fW, .int be, .ref fO, .ref fB, .int bz, .ref fS, .ref fD, .int sz])), (fF, .inl (cI, 41, .inl (nF F))), (fG, .inl (cI, 41, .inl (nF G))), (fT, .inl (cZ, 41, .inl (bF P))), (fN, .inl (cI, 14, .inl N0)), (fB, .inl (cI, 41, .inl (nF Ob0))), (fS, .inl (cI, 8192, .inl (nF Sp0))), (fD, .inl (cZ, 8192, .inl (bF D0)))] := hD
  refine lv_aload_n hx hb d_MO_splits_5 rfl (lv_at hl 0 rfl) ?_
  refine lv_iload_n hx hb d_MO_splits_6 rfl (lv_at hl 1 rfl) ?_
  refine vp_callSi (va_Run.run (k_V (n := 1) (C := R_MO) (rest := []) ⟨hx, hb, hml, hown, hts⟩ (c_MO_isThere l dC dI cI cJ cZ o fF fG fT fN fW fO fB fS fD (nI 0) be bz sz nd ar P (nI x) (by first | assumption | omega)) wml_MO_113 wim_MO_isThere wsel_MO_isThere wini_MO wcode_MO_isThere (by decide +kernel) ⟨Nat.le_of_ble_eq_true rfl, Nat.le_of_ble_eq_true rfl⟩ (preV_R (q := (R_MO, F_MO, 15)) (ci := 7) (q0 := 0) (hP.sub (ws' := [(o, .inr (7, [.int (nI 0), .int (nI nd), .int (nI ar), .ref fF, .ref fG, .ref fT, .ref fN, .ref fW, .int be, .ref fO, .ref fB, .int bz, .ref fS, .ref fD, .int sz])), (fT, .inl (cZ, 41, .inl (bF P)))]) [0, 3] rfl) hK rfl rfl) rfl hl.1 rfl (Nat.le_of_ble_eq_true rfl) d_MO_splits_7 ⟨Nat.zero_le _, Nat.zero_le _⟩)) (fun r_1 hr_2 => ?_)
  refine xe_i (y := (bI (vd (nI x) ar && P (nI x).toNatClampNeg))) hr_2 ?_
  refine xe_i (y := (bI true)) (by rw [tm_tt (by omega) hxa hPx]) ?_
  refine lv_if_ne (tgt := 15) hx hb d_MO_splits_10 (by decide) (fun _ => ?_) (fun c9 => absurd c9 (by decide : ¬ ((bI true) : Int32) = 0))
  refine lv_iload_n hx hb d_MO_splits_15 rfl (lv_at hl 2 rfl) ?_
  refine lv_iconst (v := (nI 0)) hx hb d_MO_splits_16 (by decide) ?_
  refine lv_iconst (v := (nI 3)) hx hb d_MO_splits_17 (by decide) ?_
  refine vp_callSi (va_Run.run (k_S (n := 3) (rest := []) ⟨hx, hb, hml, hown, hts⟩ (c_MO_within l dC dI cI cJ cZ (nI 1) (nI 0) (nI 3)) wml_MO_48 wst_MO_within wini_MO wcode_MO_within (by decide +kernel) ⟨Nat.le_of_ble_eq_true rfl, Nat.le_of_ble_eq_true rfl⟩ (pre_R (hP.sub (ws' := []) [] rfl) hK) rfl hl.1 rfl (Nat.le_of_ble_eq_true rfl) d_MO_splits_18 ⟨Nat.zero_le _, Nat.zero_le _⟩)) (fun r_4 hr_5 => ?_)
  refine xe_i (y := (bI (decide ((nI 0) ≤ (nI 1)) && decide ((nI 1) ≤ (nI 3))))) hr_5 ?_
  refine xe_i (y := (bI true)) (by decide) ?_
  refine lv_if_ne (tgt := 27) hx hb d_MO_splits_21 (by decide) (fun _ => ?_) (fun c9 => absurd c9 (by decide : ¬ ((bI true) : Int32) = 0))
  refine lv_aload_n hx hb d_MO_splits_27 rfl (lv_at hl 0 rfl) ?_
  refine lv_iload_n hx hb d_MO_splits_28 rfl (lv_at hl 1 rfl) ?_
  refine x_cv (k_V (n := 1) (C := R_MO) (rest := []) ⟨hx, hb, hml, hown, hts⟩ (c_MO_layBlock l dC dI cI cJ cZ o fF fG fT fN fW fO fB fS fD (nI 0) be bz sz nd ar F G P hF hG (by first | assumption | omega) (by first | assumption | omega) hM N0 Ob0 x (by first | assumption | omega)) wml_MO_141 wim_MO_layBlock wsel_MO_layBlock wini_MO wcode_MO_layBlock (by decide +kernel) ⟨Nat.le_of_ble_eq_true rfl, Nat.le_of_ble_eq_true rfl⟩ (preV_M (q := (R_MO, F_MO, 15)) (ci := 7) (q0 := 0) (hP.sub (ws' := [(o, .inr (7, [.int (nI 0), .int (nI nd), .int (nI ar), .ref fF, .ref fG, .ref fT, .ref fN, .ref fW, .int be, .ref fO, .ref fB, .int bz, .ref fS, .ref fD, .int sz])), (fF, .inl (cI, 41, .inl (nF F))), (fG, .inl (cI, 41, .inl (nF G))), (fT, .inl (cZ, 41, .inl (bF P))), (fN, .inl (cI, 14, .inl N0)), (fB, .inl (cI, 41, .inl (nF Ob0)))]) [0, 1, 2, 3, 4, 5] rfl) hK (hD.sub (ws' := [(o, .inr (7, [.int (nI 0), .int (nI nd), .int (nI ar), .ref fF, .ref fG, .ref fT, .ref fN, .ref fW, .int be, .ref fO, .ref fB, .int bz, .ref fS, .ref fD, .int sz])), (fF, .inl (cI, 41, .inl (nF F))), (fG, .inl (cI, 41, .inl (nF G))), (fT, .inl (cZ, 41, .inl (bF P))), (fN, .inl (cI, 14, .inl N0)), (fB, .inl (cI, 41, .inl (nF Ob0)))]) [0, 1, 2, 3, 4, 5] (by decide) rfl) rfl rfl) rfl hl.1 rfl (Nat.le_of_ble_eq_true rfl) d_MO_splits_29 ⟨Nat.zero_le _, Nat.zero_le _⟩) hP hD hS [0, 1, 2, 3, 4, 5] rfl (fun _ => rfl) (fun u_7 H locs hu_7 hP hS => ?_)
  obtain ⟨bz9_7, N9_7, Ob9_7⟩ := u_7
  have hP : va_P (dC, dI) cls [(o, .inr (7, [.int (nI 0), .int (nI nd), .int (nI ar), .ref fF, .ref fG, .ref fT, .ref fN, .ref fW, .int be, .ref fO, .ref fB, .int (nI bz9_7), .ref fS, .ref fD, .int sz])), (fF, .inl (cI, 41, .inl (nF F))), (fG, .inl (cI, 41, .inl (nF G))), (fT, .inl (cZ, 41, .inl (bF P))), (fN, .inl (cI, 14, .inl N9_7)), (fB, .inl (cI, 41, .inl (nF Ob9_7))), (fS, .inl (cI, 8192, .inl (nF Sp0))), (fD, .inl (cZ, 8192, .inl (bF D0)))] H := hP
  have hD := hD.addr (ws' := [(o, .inr (7, [.int (nI 0), .int (nI nd), .int (nI ar), .ref fF, .ref fG, .ref fT, .ref fN, .ref fW, .int be, .ref fO, .ref fB, .int (nI bz9_7), .ref fS, .ref fD, .int sz])), (fF, .inl (cI, 41, .inl (nF F))), (fG, .inl (cI, 41, .inl (nF G))), (fT, .inl (cZ, 41, .inl (bF P))), (fN, .inl (cI, 14, .inl N9_7)), (fB, .inl (cI, 41, .inl (nF Ob9_7))), (fS, .inl (cI, 8192, .inl (nF Sp0))), (fD, .inl (cZ, 8192, .inl (bF D0)))]) rfl
  dsimp only at hu_7
  have hbn := lb_cn hu_7
  have hb40 := cn_le (fun f => dc (P f = true ∧ abR ar nd P F G x f)) ar
  obtain ⟨q1, hq1, hq1x⟩ := hu_7.2.2.1 x hxa ⟨hPx, Or.inl rfl⟩
  refine lv_iload_n hx hb d_MO_splits_32 rfl (lv_at hl 2 rfl) ?_
  refine lv_if_ne (tgt := 41) hx hb d_MO_splits_33 (by decide) (fun _ => ?_) (fun c9 => absurd c9 (by decide : ¬ ((nI 1) : Int32) = 0))
  refine lv_aload_n hx hb d_MO_splits_41 rfl (lv_at hl 0 rfl) ?_
  refine va_get (D := (dC, dI)) (ci := 7) (v := .int (nI bz9_7)) (C := R_MO) (T := F_MO) (N := 15) hx hb hts in_MO hown hK.1 hP 0 rfl rfl 11 (by decide) (hts _ wfl_MO_132) (fun _ h9 => h9) rfl d_MO_splits_42 ?_
  refine lv_bipush (v := (nI 14)) hx hb d_MO_splits_45 (by decide) ?_
  refine x_cmp_le (a := bz9_7) (b := 14) (tgt := 53) hx hb (by omega) (by omega) d_MO_splits_47 (by decide) (fun c_9 => ?_) (fun c_9 => ?_)
  · skip
    refine lv_aload_n hx hb d_MO_splits_53 rfl (lv_at hl 0 rfl) ?_
    refine x_cv (k_V (n := 0) (C := R_MO) (rest := []) ⟨hx, hb, hml, hown, hts⟩ (c_MO_laySplits l dC dI cI cJ cZ o fF fG fT fN fW fO fB fS fD (nI 0) be sz nd ar bz9_7 F G hF hG Ob9_7 Sp0 D0 (fun k hk => by have := (hu_7.1 k (by omega)).1; omega) (by first | assumption | omega) (by first | assumption | omega)) wml_MO_144 wim_MO_laySplits wsel_MO_laySplits wini_MO wcode_MO_laySplits (by decide +kernel) ⟨Nat.le_of_ble_eq_true rfl, Nat.le_of_ble_eq_true rfl⟩ (preV_M (q := (R_MO, F_MO, 15)) (ci := 7) (q0 := 0) (hP.sub (ws' := [(o, .inr (7, [.int (nI 0), .int (nI nd), .int (nI ar), .ref fF, .ref fG, .ref fT, .ref fN, .ref fW, .int be, .ref fO, .ref fB, .int (nI bz9_7), .ref fS, .ref fD, .int sz])), (fF, .inl (cI, 41, .inl (nF F))), (fG, .inl (cI, 41, .inl (nF G))), (fB, .inl (cI, 41, .inl (nF Ob9_7))), (fS, .inl (cI, 8192, .inl (nF Sp0))), (fD, .inl (cZ, 8192, .inl (bF D0)))]) [0, 1, 2, 5, 6, 7] rfl) hK (hD.sub (ws' := [(o, .inr (7, [.int (nI 0), .int (nI nd), .int (nI ar), .ref fF, .ref fG, .ref fT, .ref fN, .ref fW, .int be, .ref fO, .ref fB, .int (nI bz9_7), .ref fS, .ref fD, .int sz])), (fF, .inl (cI, 41, .inl (nF F))), (fG, .inl (cI, 41, .inl (nF G))), (fB, .inl (cI, 41, .inl (nF Ob9_7))), (fS, .inl (cI, 8192, .inl (nF Sp0))), (fD, .inl (cZ, 8192, .inl (bF D0)))]) [0, 1, 2, 5, 6, 7] (by decide) rfl) rfl rfl) rfl hl.1 rfl (Nat.le_of_ble_eq_true rfl) d_MO_splits_54 ⟨Nat.zero_le _, Nat.zero_le _⟩) hP hD hS [0, 1, 2, 5, 6, 7] rfl (fun _ => rfl) (fun u_10 H locs hu_10 hP hS => ?_)
    obtain ⟨z9_10, Sp9_10, D9_10⟩ := u_10
    have hP : va_P (dC, dI) cls [(o, .inr (7, [.int (nI 0), .int (nI nd), .int (nI ar), .ref fF, .ref fG, .ref fT, .ref fN, .ref fW, .int be, .ref fO, .ref fB, .int (nI bz9_7), .ref fS, .ref fD, .int (nI z9_10)])), (fF, .inl (cI, 41, .inl (nF F))), (fG, .inl (cI, 41, .inl (nF G))), (fT, .inl (cZ, 41, .inl (bF P))), (fN, .inl (cI, 14, .inl N9_7)), (fB, .inl (cI, 41, .inl (nF Ob9_7))), (fS, .inl (cI, 8192, .inl (nF Sp9_10))), (fD, .inl (cZ, 8192, .inl (bF D9_10)))] H := hP
    have hD := hD.addr (ws' := [(o, .inr (7, [.int (nI 0), .int (nI nd), .int (nI ar), .ref fF, .ref fG, .ref fT, .ref fN, .ref fW, .int be, .ref fO, .ref fB, .int (nI bz9_7), .ref fS, .ref fD, .int (nI z9_10)])), (fF, .inl (cI, 41, .inl (nF F))), (fG, .inl (cI, 41, .inl (nF G))), (fT, .inl (cZ, 41, .inl (bF P))), (fN, .inl (cI, 14, .inl N9_7)), (fB, .inl (cI, 41, .inl (nF Ob9_7))), (fS, .inl (cI, 8192, .inl (nF Sp9_10))), (fD, .inl (cZ, 8192, .inl (bF D9_10)))]) rfl
    have hz14 := hu_10.2.2
    have hpz := hpw _ (Nat.lt_succ_of_le (show _ ≤ 14 from by assumption))
    have hsz8 : z9_10 ≤ 8192 := (by omega)
    refine lv_iconst (v := (nI 0)) hx hb d_MO_splits_57 (by decide) ?_
    refine lv_istore_n (lv' := [(3, .int (nI 0)), (0, .ref o), (1, .int (nI x)), (2, .int (nI 1))]) hx hb d_MO_splits_58 rfl hl (by decide) rfl (fun ls hl => ?_)
    refine lv_iload_n hx hb d_MO_splits_59 rfl (lv_at hl 3 rfl) ?_
    refine lv_iconst (v := (nI 1)) hx hb d_MO_splits_60 (by decide) ?_
    refine x_cmp_ne (a := 1) (b := 1) (tgt := 102) hx hb (by omega) (by omega) d_MO_splits_61 (by decide) (fun c_11 => ?_) (fun c_11 => ?_)
    · skip
      omega
    · skip
      refine lv_iconst (v := (nI 0)) hx hb d_MO_splits_64 (by decide) ?_
      refine lv_istore (lv' := [(4, .int (nI 0)), (3, .int (nI 0)), (0, .ref o), (1, .int (nI x)), (2, .int (nI 1))]) hx hb d_MO_splits_65 hl (by decide) rfl (fun ls hl => ?_)
      have L67_12 : ∀ (n : Nat) (q : Nat) (i : Nat) (hn : z9_10 - i < n) (hi : i ≤ z9_10) (hq : q = cn D9_10 i) (ls : Array Slot) (hl : lv_has ls 7 [(0, .ref o), (1, .int (nI x)), (2, .int (nI 1)), (3, .int (nI q)), (4, .int (nI i))]), W p l e (headSpec (Cond.code ⟨"CutPointsModel", "splits", "(II)I"⟩ prog_9_method_49_code 7 (some .int) :: TT) (rmk 3 74)).room s m ([.ref o, .int (nI x), .int (nI 1)] : List Value).toArray below meth c H locs 0 0 (MQ below (va_Qi (S := Nat × Nat × (Nat → Int32) × (Nat → Nat) × (Nat → Nat) × (Nat → Bool)) (fun r u9 => (lbI (fun f => P f = true ∧ abR ar nd P F G x f) u9.2.2.2.1 u9.1 ar ∧ u9.1 ≤ 14 ∧ lbI (spQ F G u9.2.2.2.1 u9.1) u9.2.2.2.2.1 u9.2.1 (2 ^ u9.1 - 1) ∧ gdO u9.1 u9.2.2.2.2.1 u9.2.2.2.2.2 u9.2.1 u9.2.1) ∧ r = nI (cn u9.2.2.2.2.2 u9.2.1)) (fun u9 t9 => va_P (dC, dI) cls ([(o, .inr (7, [.int (nI 0), .int (nI nd), .int (nI ar), .ref fF, .ref fG, .ref fT, .ref fN, .ref fW, .int be, .ref fO, .ref fB, .int (nI u9.1), .ref fS, .ref fD, .int (nI u9.2.1)])), (fF, .inl (cI, 41, .inl (nF F))), (fG, .inl (cI, 41, .inl (nF G))), (fT, .inl (cZ, 41, .inl (bF P))), (fN, .inl (cI, 14, .inl u9.2.2.1)), (fB, .inl (cI, 41, .inl (nF u9.2.2.2.1))), (fS, .inl (cI, 8192, .inl (nF u9.2.2.2.2.1))), (fD, .inl (cZ, 8192, .inl (bF u9.2.2.2.2.2)))]) t9.heap) (ow [(o, .inr (7, [.int th, .int (nI nd), .int (nI ar), .ref fF, .ref fG, .ref fT, .ref fN, .ref fW, .int be, .ref fO, .ref fB, .int bz, .ref fS, .ref fD, .int sz])), (fF, .inl (cI, 41, .inl (nF F))), (fG, .inl (cI, 41, .inl (nF G))), (fT, .inl (cZ, 41, .inl (bF P))), (fN, .inl (cI, 14, .inl N0)), (fB, .inl (cI, 41, .inl (nF Ob0))), (fS, .inl (cI, 8192, .inl (nF Sp0))), (fD, .inl (cZ, 8192, .inl (bF D0)))])) ([.ref o, .int (nI x), .int (nI 1)] : List Value).toArray s 0 0 (ow [(o, .inr (7, [.int th, .int (nI nd), .int (nI ar), .ref fF, .ref fG, .ref fT, .ref fN, .ref fW, .int be, .ref fO, .ref fB, .int bz, .ref fS, .ref fD, .int sz])), (fF, .inl (cI, 41, .inl (nF F))), (fG, .inl (cI, 41, .inl (nF G))), (fT, .inl (cZ, 41, .inl (bF P))), (fN, .inl (cI, 14, .inl N0)), (fB, .inl (cI, 41, .inl (nF Ob0))), (fS, .inl (cI, 8192, .inl (nF Sp0))), (fD, .inl (cZ, 8192, .inl (bF D0)))])) (F0 m 67 ls []) := by
        intro n_67
        induction n_67 with
        | zero =>
          intro q i hn_67
          exact absurd hn_67 (Nat.not_lt_zero _)
        | succ n_67 ih_67 =>
          intro q i hn_67 hi hq ls hl
          refine lv_iload hx hb d_MO_splits_67 (lv_at hl 4 rfl) ?_
          refine lv_aload_n hx hb d_MO_splits_69 rfl (lv_at hl 0 rfl) ?_
          refine va_get (D := (dC, dI)) (ci := 7) (v := .int (nI z9_10)) (C := R_MO) (T := F_MO) (N := 15) hx hb hts in_MO hown hK.1 hP 0 rfl rfl 14 (by decide) (hts _ wfl_MO_135) (fun _ h9 => h9) rfl d_MO_splits_70 ?_
          refine x_cmp_ge (a := i) (b := z9_10) (tgt := 100) hx hb (by omega) (by omega) d_MO_splits_73 (by decide) (fun c_13 => ?_) (fun c_13 => ?_)
          · skip
            refine lv_iload_n hx hb d_MO_splits_100 rfl (lv_at hl 3 rfl) ?_
            exact W.iret (v := (nI q)) hx hb hr (fun t9 ht9 _ => ⟨⟨_, (bz9_7, z9_10, N9_7, Ob9_7, Sp9_10, D9_10), rfl, ⟨⟨hu_7, by omega, hu_10.1, hu_10.2.1⟩, by have e9 : i = z9_10 := (by omega); rw [hq, e9]⟩, by show va_P (dC, dI) cls _ t9.heap; rw [ht9]; exact hP⟩, hS.F ht9⟩) hS.2.2 d_MO_splits_101
          · skip
            refine lv_iload_n hx hb d_MO_splits_76 rfl (lv_at hl 3 rfl) ?_
            refine lv_aload_n hx hb d_MO_splits_77 rfl (lv_at hl 0 rfl) ?_
            refine va_get (D := (dC, dI)) (ci := 7) (v := .ref fD) (C := R_MO) (T := F_MO) (N := 15) hx hb hts in_MO hown hK.1 hP 0 rfl rfl 13 (by decide) (hts _ wfl_MO_35) (fun _ h9 => h9) rfl d_MO_splits_78 ?_
            refine lv_iload hx hb d_MO_splits_81 (lv_at hl 4 rfl) ?_
            refine x_zald (n := 8192) (f := (bF D9_10)) (j := i) hx hb hK.1 hP 7 2 rfl rfl (by omega) (by omega) d_MO_splits_83 ?_
            refine xe_i (y := (bI (D9_10 i))) rfl ?_
            refine x_if_eq (tgt := 91) hx hb d_MO_splits_84 (by decide) (fun c_14 => ?_) (fun c_14 => ?_)
            · skip
              refine lv_iconst (v := (nI 0)) hx hb d_MO_splits_91 (by decide) ?_
              refine lv_iadd hx hb d_MO_splits_92 ?_
              refine xe_i (nI_add _ _) ?_
              refine lv_istore_n (lv' := [(3, .int (nI (q + 0))), (0, .ref o), (1, .int (nI x)), (2, .int (nI 1)), (4, .int (nI i))]) hx hb d_MO_splits_93 rfl hl (by decide) rfl (fun ls hl => ?_)
              refine lv_iinc (v := (nI (i + 1))) (lv' := [(4, .int (nI (i + 1))), (3, .int (nI (q + 0))), (0, .ref o), (1, .int (nI x)), (2, .int (nI 1))]) hx hb d_MO_splits_94 hl (k := 4) rfl (nI_1 _) (by decide) rfl (fun ls hl => ?_)
              refine lv_goto (tgt := 67) hx hb d_MO_splits_97 (by decide) ?_
              exact ih_67 (q + 0) (i + 1) (by omega) (by first | assumption | omega) (show q + 0 = _ from cn_f hq c_14) ls (lv_sub hl [2, 3, 4, 1, 0] rfl)
            · skip
              refine lv_iconst (v := (nI 1)) hx hb d_MO_splits_87 (by decide) ?_
              refine lv_goto (tgt := 92) hx hb d_MO_splits_88 (by decide) ?_
              refine lv_iadd hx hb d_MO_splits_92 ?_
              refine xe_i (nI_add _ _) ?_
              refine lv_istore_n (lv' := [(3, .int (nI (q + 1))), (0, .ref o), (1, .int (nI x)), (2, .int (nI 1)), (4, .int (nI i))]) hx hb d_MO_splits_93 rfl hl (by decide) rfl (fun ls hl => ?_)
              refine lv_iinc (v := (nI (i + 1))) (lv' := [(4, .int (nI (i + 1))), (3, .int (nI (q + 1))), (0, .ref o), (1, .int (nI x)), (2, .int (nI 1))]) hx hb d_MO_splits_94 hl (k := 4) rfl (nI_1 _) (by decide) rfl (fun ls hl => ?_)
              refine lv_goto (tgt := 67) hx hb d_MO_splits_97 (by decide) ?_
              exact ih_67 (q + 1) (i + 1) (by omega) (by first | assumption | omega) (cn_t hq c_14) ls (lv_sub hl [2, 3, 4, 1, 0] rfl)
      exact L67_12 ((z9_10 - 0) + 1) 0 0 (Nat.lt_succ_self _) (by first | assumption | omega) rfl ls (lv_sub hl [2, 3, 4, 1, 0] rfl)
  · skip
    omega

set_option maxHeartbeats 4000000 in
set_option maxRecDepth 100000 in
theorem c_MO_splits_l2 (l : Launch) (dC : Nat → ClassId) (dI : Nat → Nat → Nat) (cI cJ cZ : ClassId) (o fF fG fT fN fW fO fB fS fD : Nat) (th be bz sz : Int32) (nd ar : Nat) (F G : Nat → Nat) (P : Nat → Bool) (hF : ∀ k, F k < 14) (hG : ∀ k, G k < 14) (hnd : nd ≤ 14) (har : ar ≤ 40) (hM : ∀ e, e < ar → F e < nd ∧ G e < nd) (Ob0 : Nat → Nat) (N0 : Nat → Int32) (x : Nat) (hxa : x < ar) (hPx : P x = true) (h14 : 14 < cn (fun f => dc (P f = true ∧ abR ar nd P F G x f)) ar) : Met l ⟨"CutPointsModel", "splits", "(II)I"⟩ (Cond.code ⟨"CutPointsModel", "splits", "(II)I"⟩ prog_9_method_49_code 7 (some .int) :: TT) (rmk 3 74) (PM dC dI cI cJ cZ [.ref o, .int (nI x), .int (nI 2)] [(o, .inr (7, [.int th, .int (nI nd), .int (nI ar), .ref fF, .ref fG, .ref fT, .ref fN, .ref fW, .int be, .ref fO, .ref fB, .int bz, .ref fS, .ref fD, .int sz])), (fF, .inl (cI, 41, .inl (nF F))), (fG, .inl (cI, 41, .inl (nF G))), (fT, .inl (cZ, 41, .inl (bF P))), (fN, .inl (cI, 14, .inl N0)), (fB, .inl (cI, 41, .inl (nF Ob0)))]) (va_Qi (S := Nat × (Nat → Int32) × (Nat → Nat)) (fun r u9 => r = -4) (fun u9 t9 => va_P (dC, dI) cls ([(o, .inr (7, [.int (nI 0), .int (nI nd), .int (nI ar), .ref fF, .ref fG, .ref fT, .ref fN, .ref fW, .int be, .ref fO, .ref fB, .int (nI u9.1), .ref fS, .ref fD, .int sz])), (fF, .inl (cI, 41, .inl (nF F))), (fG, .inl (cI, 41, .inl (nF G))), (fT, .inl (cZ, 41, .inl (bF P))), (fN, .inl (cI, 14, .inl u9.2.1)), (fB, .inl (cI, 41, .inl (nF u9.2.2)))]) t9.heap) (ow [(o, .inr (7, [.int th, .int (nI nd), .int (nI ar), .ref fF, .ref fG, .ref fT, .ref fN, .ref fW, .int be, .ref fO, .ref fB, .int bz, .ref fS, .ref fD, .int sz])), (fF, .inl (cI, 41, .inl (nF F))), (fG, .inl (cI, 41, .inl (nF G))), (fT, .inl (cZ, 41, .inl (bF P))), (fN, .inl (cI, 14, .inl N0)), (fB, .inl (cI, 41, .inl (nF Ob0)))])) 0 0 (ow [(o, .inr (7, [.int th, .int (nI nd), .int (nI ar), .ref fF, .ref fG, .ref fT, .ref fN, .ref fW, .int be, .ref fO, .ref fB, .int bz, .ref fS, .ref fD, .int sz])), (fF, .inl (cI, 41, .inl (nF F))), (fG, .inl (cI, 41, .inl (nF G))), (fT, .inl (cZ, 41, .inl (bF P))), (fN, .inl (cI, 14, .inl N0)), (fB, .inl (cI, 41, .inl (nF Ob0)))]) := by
  refine Met.ofW (cc := prog_9_method_49_code) (maxL := 7) (ret := (some .int)) (by decide) rfl ?_
  intro p e s m args below meth c s₁ BB9 hml hv
  obtain ⟨rfl, hP, hK, hD0⟩ := hv
  have hx := BB9.exec
  have hb := BB9.bytes
  have hr := BB9.returns
  have hts : ∀ w ∈ TT, w.before _ s = true := fun w h => atoms_spec (ws := (Cond.code ⟨"CutPointsModel", "splits", "(II)I"⟩ prog_9_method_49_code 7 (some .int) :: TT)) BB9.pre w (List.mem_cons_of_mem _ h)
  have hown : s.vm.findClass "CutPointsModel" = some m.cls := findClass_of_methodNamed BB9.named
  have hlocks := BB9.notSynchronized
  have hD := hD0.mine
  have hS : va_S (ow [(o, .inr (7, [.int th, .int (nI nd), .int (nI ar), .ref fF, .ref fG, .ref fT, .ref fN, .ref fW, .int be, .ref fO, .ref fB, .int bz, .ref fS, .ref fD, .int sz])), (fF, .inl (cI, 41, .inl (nF F))), (fG, .inl (cI, 41, .inl (nF G))), (fT, .inl (cZ, 41, .inl (bF P))), (fN, .inl (cI, 14, .inl N0)), (fB, .inl (cI, 41, .inl (nF Ob0)))]) s.heap s.heap [] := va_S.rf
  have hl := lv_entry ([.ref o, .int (nI x), .int (nI 2)]) (n := 7) (Nat.le_of_ble_eq_true rfl)
  rw [lg_entry_eq]
  generalize (lg_sl ([.ref o, .int (nI x), .int (nI 2)]) ++ List.replicate (7 - (lg_sl ([.ref o, .int (nI x), .int (nI 2)])).length) Slot.unset).toArray = ls at hl ⊢
  have hl : lv_has ls 7 [(0, .ref o), (1, .int (nI x)), (2, .int (nI 2))] := hl
  refine lv_aload_n hx hb d_MO_splits_0 rfl (lv_at hl 0 rfl) ?_
  refine lv_iconst (v := (nI 0)) hx hb d_MO_splits_1 (by decide) ?_
  refine va_put (D := (dC, dI)) (ci := 7) (v := .int (nI 0)) (ty := .int) (C := R_MO) (T := F_MO) (N := 15) hx hb hts in_MO t_MO t_MO_ok n_MO hown hK.1 hP hD hS 0 rfl rfl 0 (by decide) (hts _ wfl_MO_38) (fun _ h9 => h9) rfl (by decide +kernel) rfl rfl (Nat.le_of_ble_eq_true rfl) d_MO_splits_2 (fun H locs hP hD hS => ?_)
  have hP : va_P (dC, dI) cls [(o, .inr (7, [.int (nI 0), .int (nI nd), .int (nI ar), .ref fF, .ref fG, .ref fT, .ref fN, .ref fW, .int be, .ref fO, .ref fB, .int bz, .ref fS, .ref fD, .int sz])), (fF, .inl (cI, 41, .inl (nF F))), (fG, .inl (cI, 41, .inl (nF G))), (fT, .inl (cZ, 41, .inl (bF P))), (fN, .inl (cI, 14, .inl N0)), (fB, .inl (cI, 41, .inl (nF Ob0)))] H := hP
  have hD : va_D (ow [(o, .inr (7, [.int th, .int (nI nd), .int (nI ar), .ref fF, .ref fG, .ref fT, .ref fN, .ref fW, .int be, .ref fO, .ref fB, .int bz, .ref fS, .ref fD, .int sz])), (fF, .inl (cI, 41, .inl (nF F))), (fG, .inl (cI, 41, .inl (nF G))), (fT, .inl (cZ, 41, .inl (bF P))), (fN, .inl (cI, 14, .inl N0)), (fB, .inl (cI, 41, .inl (nF Ob0)))]) [(o, .inr (7, [.int (nI 0), .int (nI nd), .int (nI ar), .ref fF, .ref fG, .ref fT, .ref fN, .ref fW, .int be, .ref fO, .ref fB, .int bz, .ref fS, .ref fD, .int sz])), (fF, .inl (cI, 41, .inl (nF F))), (fG, .inl (cI, 41, .inl (nF G))), (fT, .inl (cZ, 41, .inl (bF P))), (fN, .inl (cI, 14, .inl N0)), (fB, .inl (cI, 41, .inl (nF Ob0)))] := hD
  refine lv_aload_n hx hb d_MO_splits_5 rfl (lv_at hl 0 rfl) ?_
  refine lv_iload_n hx hb d_MO_splits_6 rfl (lv_at hl 1 rfl) ?_
  refine vp_callSi (va_Run.run (k_V (n := 1) (C := R_MO) (rest := []) ⟨hx, hb, hml, hown, hts⟩ (c_MO_isThere l dC dI cI cJ cZ o fF fG fT fN fW fO fB fS fD (nI 0) be bz sz nd ar P (nI x) (by first | assumption | omega)) wml_MO_113 wim_MO_isThere wsel_MO_isThere wini_MO wcode_MO_isThere (by decide +kernel) ⟨Nat.le_of_ble_eq_true rfl, Nat.le_of_ble_eq_true rfl⟩ (preV_R (q := (R_MO, F_MO, 15)) (ci := 7) (q0 := 0) (hP.sub (ws' := [(o, .inr (7, [.int (nI 0), .int (nI nd), .int (nI ar), .ref fF, .ref fG, .ref fT, .ref fN, .ref fW, .int be, .ref fO, .ref fB, .int bz, .ref fS, .ref fD, .int sz])), (fT, .inl (cZ, 41, .inl (bF P)))]) [0, 3] rfl) hK rfl rfl) rfl hl.1 rfl (Nat.le_of_ble_eq_true rfl) d_MO_splits_7 ⟨Nat.zero_le _, Nat.zero_le _⟩)) (fun r_1 hr_2 => ?_)
  refine xe_i (y := (bI (vd (nI x) ar && P (nI x).toNatClampNeg))) hr_2 ?_
  refine xe_i (y := (bI true)) (by rw [tm_tt (by omega) hxa hPx]) ?_
  refine lv_if_ne (tgt := 15) hx hb d_MO_splits_10 (by decide) (fun _ => ?_) (fun c9 => absurd c9 (by decide : ¬ ((bI true) : Int32) = 0))
  refine lv_iload_n hx hb d_MO_splits_15 rfl (lv_at hl 2 rfl) ?_
  refine lv_iconst (v := (nI 0)) hx hb d_MO_splits_16 (by decide) ?_
  refine lv_iconst (v := (nI 3)) hx hb d_MO_splits_17 (by decide) ?_
  refine vp_callSi (va_Run.run (k_S (n := 3) (rest := []) ⟨hx, hb, hml, hown, hts⟩ (c_MO_within l dC dI cI cJ cZ (nI 2) (nI 0) (nI 3)) wml_MO_48 wst_MO_within wini_MO wcode_MO_within (by decide +kernel) ⟨Nat.le_of_ble_eq_true rfl, Nat.le_of_ble_eq_true rfl⟩ (pre_R (hP.sub (ws' := []) [] rfl) hK) rfl hl.1 rfl (Nat.le_of_ble_eq_true rfl) d_MO_splits_18 ⟨Nat.zero_le _, Nat.zero_le _⟩)) (fun r_4 hr_5 => ?_)
  refine xe_i (y := (bI (decide ((nI 0) ≤ (nI 2)) && decide ((nI 2) ≤ (nI 3))))) hr_5 ?_
  refine xe_i (y := (bI true)) (by decide) ?_
  refine lv_if_ne (tgt := 27) hx hb d_MO_splits_21 (by decide) (fun _ => ?_) (fun c9 => absurd c9 (by decide : ¬ ((bI true) : Int32) = 0))
  refine lv_aload_n hx hb d_MO_splits_27 rfl (lv_at hl 0 rfl) ?_
  refine lv_iload_n hx hb d_MO_splits_28 rfl (lv_at hl 1 rfl) ?_
  refine x_cv (k_V (n := 1) (C := R_MO) (rest := []) ⟨hx, hb, hml, hown, hts⟩ (c_MO_layBlock l dC dI cI cJ cZ o fF fG fT fN fW fO fB fS fD (nI 0) be bz sz nd ar F G P hF hG (by first | assumption | omega) (by first | assumption | omega) hM N0 Ob0 x (by first | assumption | omega)) wml_MO_141 wim_MO_layBlock wsel_MO_layBlock wini_MO wcode_MO_layBlock (by decide +kernel) ⟨Nat.le_of_ble_eq_true rfl, Nat.le_of_ble_eq_true rfl⟩ (preV_M (q := (R_MO, F_MO, 15)) (ci := 7) (q0 := 0) (hP.sub (ws' := [(o, .inr (7, [.int (nI 0), .int (nI nd), .int (nI ar), .ref fF, .ref fG, .ref fT, .ref fN, .ref fW, .int be, .ref fO, .ref fB, .int bz, .ref fS, .ref fD, .int sz])), (fF, .inl (cI, 41, .inl (nF F))), (fG, .inl (cI, 41, .inl (nF G))), (fT, .inl (cZ, 41, .inl (bF P))), (fN, .inl (cI, 14, .inl N0)), (fB, .inl (cI, 41, .inl (nF Ob0)))]) [0, 1, 2, 3, 4, 5] rfl) hK (hD.sub (ws' := [(o, .inr (7, [.int (nI 0), .int (nI nd), .int (nI ar), .ref fF, .ref fG, .ref fT, .ref fN, .ref fW, .int be, .ref fO, .ref fB, .int bz, .ref fS, .ref fD, .int sz])), (fF, .inl (cI, 41, .inl (nF F))), (fG, .inl (cI, 41, .inl (nF G))), (fT, .inl (cZ, 41, .inl (bF P))), (fN, .inl (cI, 14, .inl N0)), (fB, .inl (cI, 41, .inl (nF Ob0)))]) [0, 1, 2, 3, 4, 5] (by decide) rfl) rfl rfl) rfl hl.1 rfl (Nat.le_of_ble_eq_true rfl) d_MO_splits_29 ⟨Nat.zero_le _, Nat.zero_le _⟩) hP hD hS [0, 1, 2, 3, 4, 5] rfl (fun _ => rfl) (fun u_7 H locs hu_7 hP hS => ?_)
  obtain ⟨bz9_7, N9_7, Ob9_7⟩ := u_7
  have hP : va_P (dC, dI) cls [(o, .inr (7, [.int (nI 0), .int (nI nd), .int (nI ar), .ref fF, .ref fG, .ref fT, .ref fN, .ref fW, .int be, .ref fO, .ref fB, .int (nI bz9_7), .ref fS, .ref fD, .int sz])), (fF, .inl (cI, 41, .inl (nF F))), (fG, .inl (cI, 41, .inl (nF G))), (fT, .inl (cZ, 41, .inl (bF P))), (fN, .inl (cI, 14, .inl N9_7)), (fB, .inl (cI, 41, .inl (nF Ob9_7)))] H := hP
  have hD := hD.addr (ws' := [(o, .inr (7, [.int (nI 0), .int (nI nd), .int (nI ar), .ref fF, .ref fG, .ref fT, .ref fN, .ref fW, .int be, .ref fO, .ref fB, .int (nI bz9_7), .ref fS, .ref fD, .int sz])), (fF, .inl (cI, 41, .inl (nF F))), (fG, .inl (cI, 41, .inl (nF G))), (fT, .inl (cZ, 41, .inl (bF P))), (fN, .inl (cI, 14, .inl N9_7)), (fB, .inl (cI, 41, .inl (nF Ob9_7)))]) rfl
  dsimp only at hu_7
  have hbn := lb_cn hu_7
  have hb40 := cn_le (fun f => dc (P f = true ∧ abR ar nd P F G x f)) ar
  refine lv_iload_n hx hb d_MO_splits_32 rfl (lv_at hl 2 rfl) ?_
  refine lv_if_ne (tgt := 41) hx hb d_MO_splits_33 (by decide) (fun _ => ?_) (fun c9 => absurd c9 (by decide : ¬ ((nI 2) : Int32) = 0))
  refine lv_aload_n hx hb d_MO_splits_41 rfl (lv_at hl 0 rfl) ?_
  refine va_get (D := (dC, dI)) (ci := 7) (v := .int (nI bz9_7)) (C := R_MO) (T := F_MO) (N := 15) hx hb hts in_MO hown hK.1 hP 0 rfl rfl 11 (by decide) (hts _ wfl_MO_132) (fun _ h9 => h9) rfl d_MO_splits_42 ?_
  refine lv_bipush (v := (nI 14)) hx hb d_MO_splits_45 (by decide) ?_
  refine x_cmp_le (a := bz9_7) (b := 14) (tgt := 53) hx hb (by omega) (by omega) d_MO_splits_47 (by decide) (fun c_9 => ?_) (fun c_9 => ?_)
  · skip
    omega
  · skip
    refine lv_bipush (v := (-4)) hx hb d_MO_splits_50 (by decide) ?_
    exact W.iret (v := (-4)) hx hb hr (fun t9 ht9 _ => ⟨⟨_, (bz9_7, N9_7, Ob9_7), rfl, rfl, by show va_P (dC, dI) cls _ t9.heap; rw [ht9]; exact hP⟩, hS.F ht9⟩) hS.2.2 d_MO_splits_52

set_option maxHeartbeats 4000000 in
set_option maxRecDepth 100000 in
theorem c_MO_splits_2 (l : Launch) (dC : Nat → ClassId) (dI : Nat → Nat → Nat) (cI cJ cZ : ClassId) (o fF fG fT fN fW fO fB fS fD : Nat) (th be bz sz : Int32) (nd ar : Nat) (F G : Nat → Nat) (P : Nat → Bool) (hF : ∀ k, F k < 14) (hG : ∀ k, G k < 14) (hnd : nd ≤ 14) (har : ar ≤ 40) (hM : ∀ e, e < ar → F e < nd ∧ G e < nd) (Ob0 Sp0 : Nat → Nat) (D0 : Nat → Bool) (N0 : Nat → Int32) (x : Nat) (hxa : x < ar) (hPx : P x = true) (h14 : cn (fun f => dc (P f = true ∧ abR ar nd P F G x f)) ar ≤ 14) : Met l ⟨"CutPointsModel", "splits", "(II)I"⟩ (Cond.code ⟨"CutPointsModel", "splits", "(II)I"⟩ prog_9_method_49_code 7 (some .int) :: TT) (rmk 3 74) (PM dC dI cI cJ cZ [.ref o, .int (nI x), .int (nI 2)] [(o, .inr (7, [.int th, .int (nI nd), .int (nI ar), .ref fF, .ref fG, .ref fT, .ref fN, .ref fW, .int be, .ref fO, .ref fB, .int bz, .ref fS, .ref fD, .int sz])), (fF, .inl (cI, 41, .inl (nF F))), (fG, .inl (cI, 41, .inl (nF G))), (fT, .inl (cZ, 41, .inl (bF P))), (fN, .inl (cI, 14, .inl N0)), (fB, .inl (cI, 41, .inl (nF Ob0))), (fS, .inl (cI, 8192, .inl (nF Sp0))), (fD, .inl (cZ, 8192, .inl (bF D0)))]) (va_Qi (S := Nat × Nat × (Nat → Int32) × (Nat → Nat) × (Nat → Nat) × (Nat → Bool)) (fun r u9 => (lbI (fun f => P f = true ∧ abR ar nd P F G x f) u9.2.2.2.1 u9.1 ar ∧ u9.1 ≤ 14 ∧ lbI (spQ F G u9.2.2.2.1 u9.1) u9.2.2.2.2.1 u9.2.1 (2 ^ u9.1 - 1) ∧ gdO u9.1 u9.2.2.2.2.1 u9.2.2.2.2.2 u9.2.1 u9.2.1) ∧ ∃ q1, q1 < u9.1 ∧ u9.2.2.2.1 q1 = x ∧ r = nI (cn (fun k => dc (tgR u9.2.2.2.2.1 u9.2.2.2.2.2 u9.2.1 q1 k)) u9.1)) (fun u9 t9 => va_P (dC, dI) cls ([(o, .inr (7, [.int (nI 0), .int (nI nd), .int (nI ar), .ref fF, .ref fG, .ref fT, .ref fN, .ref fW, .int be, .ref fO, .ref fB, .int (nI u9.1), .ref fS, .ref fD, .int (nI u9.2.1)])), (fF, .inl (cI, 41, .inl (nF F))), (fG, .inl (cI, 41, .inl (nF G))), (fT, .inl (cZ, 41, .inl (bF P))), (fN, .inl (cI, 14, .inl u9.2.2.1)), (fB, .inl (cI, 41, .inl (nF u9.2.2.2.1))), (fS, .inl (cI, 8192, .inl (nF u9.2.2.2.2.1))), (fD, .inl (cZ, 8192, .inl (bF u9.2.2.2.2.2)))]) t9.heap) (ow [(o, .inr (7, [.int th, .int (nI nd), .int (nI ar), .ref fF, .ref fG, .ref fT, .ref fN, .ref fW, .int be, .ref fO, .ref fB, .int bz, .ref fS, .ref fD, .int sz])), (fF, .inl (cI, 41, .inl (nF F))), (fG, .inl (cI, 41, .inl (nF G))), (fT, .inl (cZ, 41, .inl (bF P))), (fN, .inl (cI, 14, .inl N0)), (fB, .inl (cI, 41, .inl (nF Ob0))), (fS, .inl (cI, 8192, .inl (nF Sp0))), (fD, .inl (cZ, 8192, .inl (bF D0)))])) 0 0 (ow [(o, .inr (7, [.int th, .int (nI nd), .int (nI ar), .ref fF, .ref fG, .ref fT, .ref fN, .ref fW, .int be, .ref fO, .ref fB, .int bz, .ref fS, .ref fD, .int sz])), (fF, .inl (cI, 41, .inl (nF F))), (fG, .inl (cI, 41, .inl (nF G))), (fT, .inl (cZ, 41, .inl (bF P))), (fN, .inl (cI, 14, .inl N0)), (fB, .inl (cI, 41, .inl (nF Ob0))), (fS, .inl (cI, 8192, .inl (nF Sp0))), (fD, .inl (cZ, 8192, .inl (bF D0)))]) := by
  refine Met.ofW (cc := prog_9_method_49_code) (maxL := 7) (ret := (some .int)) (by decide) rfl ?_
  intro p e s m args below meth c s₁ BB9 hml hv
  obtain ⟨rfl, hP, hK, hD0⟩ := hv
  have hx := BB9.exec
  have hb := BB9.bytes
  have hr := BB9.returns
  have hts : ∀ w ∈ TT, w.before _ s = true := fun w h => atoms_spec (ws := (Cond.code ⟨"CutPointsModel", "splits", "(II)I"⟩ prog_9_method_49_code 7 (some .int) :: TT)) BB9.pre w (List.mem_cons_of_mem _ h)
  have hown : s.vm.findClass "CutPointsModel" = some m.cls := findClass_of_methodNamed BB9.named
  have hlocks := BB9.notSynchronized
  have hD := hD0.mine
  have hS : va_S (ow [(o, .inr (7, [.int th, .int (nI nd), .int (nI ar), .ref fF, .ref fG, .ref fT, .ref fN, .ref fW, .int be, .ref fO, .ref fB, .int bz, .ref fS, .ref fD, .int sz])), (fF, .inl (cI, 41, .inl (nF F))), (fG, .inl (cI, 41, .inl (nF G))), (fT, .inl (cZ, 41, .inl (bF P))), (fN, .inl (cI, 14, .inl N0)), (fB, .inl (cI, 41, .inl (nF Ob0))), (fS, .inl (cI, 8192, .inl (nF Sp0))), (fD, .inl (cZ, 8192, .inl (bF D0)))]) s.heap s.heap [] := va_S.rf
  have hpw : ∀ n, n < 15 → 2 ^ n ≤ 16384 := pow_le
  have hl := lv_entry ([.ref o, .int (nI x), .int (nI 2)]) (n := 7) (Nat.le_of_ble_eq_true rfl)
  rw [lg_entry_eq]
  generalize (lg_sl ([.ref o, .int (nI x), .int (nI 2)]) ++ List.replicate (7 - (lg_sl ([.ref o, .int (nI x), .int (nI 2)])).length) Slot.unset).toArray = ls at hl ⊢
  have hl : lv_has ls 7 [(0, .ref o), (1, .int (nI x)), (2, .int (nI 2))] := hl
  refine lv_aload_n hx hb d_MO_splits_0 rfl (lv_at hl 0 rfl) ?_
  refine lv_iconst (v := (nI 0)) hx hb d_MO_splits_1 (by decide) ?_
  refine va_put (D := (dC, dI)) (ci := 7) (v := .int (nI 0)) (ty := .int) (C := R_MO) (T := F_MO) (N := 15) hx hb hts in_MO t_MO t_MO_ok n_MO hown hK.1 hP hD hS 0 rfl rfl 0 (by decide) (hts _ wfl_MO_38) (fun _ h9 => h9) rfl (by decide +kernel) rfl rfl (Nat.le_of_ble_eq_true rfl) d_MO_splits_2 (fun H locs hP hD hS => ?_)
  have hP : va_P (dC, dI) cls [(o, .inr (7, [.int (nI 0), .int (nI nd), .int (nI ar), .ref fF, .ref fG, .ref fT, .ref fN, .ref fW, .int be, .ref fO, .ref fB, .int bz, .ref fS, .ref fD, .int sz])), (fF, .inl (cI, 41, .inl (nF F))), (fG, .inl (cI, 41, .inl (nF G))), (fT, .inl (cZ, 41, .inl (bF P))), (fN, .inl (cI, 14, .inl N0)), (fB, .inl (cI, 41, .inl (nF Ob0))), (fS, .inl (cI, 8192, .inl (nF Sp0))), (fD, .inl (cZ, 8192, .inl (bF D0)))] H := hP
  have hD : va_D (ow [(o, .inr (7, [.int th, .int (nI nd), .int (nI ar), .ref fF, .ref fG, .ref fT, .ref fN, .ref fW, .int be, .ref fO, .ref fB, .int bz, .ref fS, .ref fD, .int sz])), (fF, .inl (cI, 41, .inl (nF F))), (fG, .inl (cI, 41, .inl (nF G))), (fT, .inl (cZ, 41, .inl (bF P))), (fN, .inl (cI, 14, .inl N0)), (fB, .inl (cI, 41, .inl (nF Ob0))), (fS, .inl (cI, 8192, .inl (nF Sp0))), (fD, .inl (cZ, 8192, .inl (bF D0)))]) [(o, .inr (7, [.int (nI 0), .int (nI nd), .int (nI ar), .ref fF, .ref fG, .ref fT, .ref fN, .ref fW, .int be, .ref fO, .ref fB, .int bz, .ref fS, .ref fD, .int sz])), (fF, .inl (cI, 41, .inl (nF F))), (fG, .inl (cI, 41, .inl (nF G))), (fT, .inl (cZ, 41, .inl (bF P))), (fN, .inl (cI, 14, .inl N0)), (fB, .inl (cI, 41, .inl (nF Ob0))), (fS, .inl (cI, 8192, .inl (nF Sp0))), (fD, .inl (cZ, 8192, .inl (bF D0)))] := hD
  refine lv_aload_n hx hb d_MO_splits_5 rfl (lv_at hl 0 rfl) ?_
  refine lv_iload_n hx hb d_MO_splits_6 rfl (lv_at hl 1 rfl) ?_
  refine vp_callSi (va_Run.run (k_V (n := 1) (C := R_MO) (rest := []) ⟨hx, hb, hml, hown, hts⟩ (c_MO_isThere l dC dI cI cJ cZ o fF fG fT fN fW fO fB fS fD (nI 0) be bz sz nd ar P (nI x) (by first | assumption | omega)) wml_MO_113 wim_MO_isThere wsel_MO_isThere wini_MO wcode_MO_isThere (by decide +kernel) ⟨Nat.le_of_ble_eq_true rfl, Nat.le_of_ble_eq_true rfl⟩ (preV_R (q := (R_MO, F_MO, 15)) (ci := 7) (q0 := 0) (hP.sub (ws' := [(o, .inr (7, [.int (nI 0), .int (nI nd), .int (nI ar), .ref fF, .ref fG, .ref fT, .ref fN, .ref fW, .int be, .ref fO, .ref fB, .int bz, .ref fS, .ref fD, .int sz])), (fT, .inl (cZ, 41, .inl (bF P)))]) [0, 3] rfl) hK rfl rfl) rfl hl.1 rfl (Nat.le_of_ble_eq_true rfl) d_MO_splits_7 ⟨Nat.zero_le _, Nat.zero_le _⟩)) (fun r_1 hr_2 => ?_)
  refine xe_i (y := (bI (vd (nI x) ar && P (nI x).toNatClampNeg))) hr_2 ?_
  refine xe_i (y := (bI true)) (by rw [tm_tt (by omega) hxa hPx]) ?_
  refine lv_if_ne (tgt := 15) hx hb d_MO_splits_10 (by decide) (fun _ => ?_) (fun c9 => absurd c9 (by decide : ¬ ((bI true) : Int32) = 0))
  refine lv_iload_n hx hb d_MO_splits_15 rfl (lv_at hl 2 rfl) ?_
  refine lv_iconst (v := (nI 0)) hx hb d_MO_splits_16 (by decide) ?_
  refine lv_iconst (v := (nI 3)) hx hb d_MO_splits_17 (by decide) ?_
  refine vp_callSi (va_Run.run (k_S (n := 3) (rest := []) ⟨hx, hb, hml, hown, hts⟩ (c_MO_within l dC dI cI cJ cZ (nI 2) (nI 0) (nI 3)) wml_MO_48 wst_MO_within wini_MO wcode_MO_within (by decide +kernel) ⟨Nat.le_of_ble_eq_true rfl, Nat.le_of_ble_eq_true rfl⟩ (pre_R (hP.sub (ws' := []) [] rfl) hK) rfl hl.1 rfl (Nat.le_of_ble_eq_true rfl) d_MO_splits_18 ⟨Nat.zero_le _, Nat.zero_le _⟩)) (fun r_4 hr_5 => ?_)
  refine xe_i (y := (bI (decide ((nI 0) ≤ (nI 2)) && decide ((nI 2) ≤ (nI 3))))) hr_5 ?_
  refine xe_i (y := (bI true)) (by decide) ?_
  refine lv_if_ne (tgt := 27) hx hb d_MO_splits_21 (by decide) (fun _ => ?_) (fun c9 => absurd c9 (by decide : ¬ ((bI true) : Int32) = 0))
  refine lv_aload_n hx hb d_MO_splits_27 rfl (lv_at hl 0 rfl) ?_
  refine lv_iload_n hx hb d_MO_splits_28 rfl (lv_at hl 1 rfl) ?_
  refine x_cv (k_V (n := 1) (C := R_MO) (rest := []) ⟨hx, hb, hml, hown, hts⟩ (c_MO_layBlock l dC dI cI cJ cZ o fF fG fT fN fW fO fB fS fD (nI 0) be bz sz nd ar F G P hF hG (by first | assumption | omega) (by first | assumption | omega) hM N0 Ob0 x (by first | assumption | omega)) wml_MO_141 wim_MO_layBlock wsel_MO_layBlock wini_MO wcode_MO_layBlock (by decide +kernel) ⟨Nat.le_of_ble_eq_true rfl, Nat.le_of_ble_eq_true rfl⟩ (preV_M (q := (R_MO, F_MO, 15)) (ci := 7) (q0 := 0) (hP.sub (ws' := [(o, .inr (7, [.int (nI 0), .int (nI nd), .int (nI ar), .ref fF, .ref fG, .ref fT, .ref fN, .ref fW, .int be, .ref fO, .ref fB, .int bz, .ref fS, .ref fD, .int sz])), (fF, .inl (cI, 41, .inl (nF F))), (fG, .inl (cI, 41, .inl (nF G))), (fT, .inl (cZ, 41, .inl (bF P))), (fN, .inl (cI, 14, .inl N0)), (fB, .inl (cI, 41, .inl (nF Ob0)))]) [0, 1, 2, 3, 4, 5] rfl) hK (hD.sub (ws' := [(o, .inr (7, [.int (nI 0), .int (nI nd), .int (nI ar), .ref fF, .ref fG, .ref fT, .ref fN, .ref fW, .int be, .ref fO, .ref fB, .int bz, .ref fS, .ref fD, .int sz])), (fF, .inl (cI, 41, .inl (nF F))), (fG, .inl (cI, 41, .inl (nF G))), (fT, .inl (cZ, 41, .inl (bF P))), (fN, .inl (cI, 14, .inl N0)), (fB, .inl (cI, 41, .inl (nF Ob0)))]) [0, 1, 2, 3, 4, 5] (by decide) rfl) rfl rfl) rfl hl.1 rfl (Nat.le_of_ble_eq_true rfl) d_MO_splits_29 ⟨Nat.zero_le _, Nat.zero_le _⟩) hP hD hS [0, 1, 2, 3, 4, 5] rfl (fun _ => rfl) (fun u_7 H locs hu_7 hP hS => ?_)
  obtain ⟨bz9_7, N9_7, Ob9_7⟩ := u_7
  have hP : va_P (dC, dI) cls [(o, .inr (7, [.int (nI 0), .int (nI nd), .int (nI ar), .ref fF, .ref fG, .ref fT, .ref fN, .ref fW, .int be, .ref fO, .ref fB, .int (nI bz9_7), .ref fS, .ref fD, .int sz])), (fF, .inl (cI, 41, .inl (nF F))), (fG, .inl (cI, 41, .inl (nF G))), (fT, .inl (cZ, 41, .inl (bF P))), (fN, .inl (cI, 14, .inl N9_7)), (fB, .inl (cI, 41, .inl (nF Ob9_7))), (fS, .inl (cI, 8192, .inl (nF Sp0))), (fD, .inl (cZ, 8192, .inl (bF D0)))] H := hP
  have hD := hD.addr (ws' := [(o, .inr (7, [.int (nI 0), .int (nI nd), .int (nI ar), .ref fF, .ref fG, .ref fT, .ref fN, .ref fW, .int be, .ref fO, .ref fB, .int (nI bz9_7), .ref fS, .ref fD, .int sz])), (fF, .inl (cI, 41, .inl (nF F))), (fG, .inl (cI, 41, .inl (nF G))), (fT, .inl (cZ, 41, .inl (bF P))), (fN, .inl (cI, 14, .inl N9_7)), (fB, .inl (cI, 41, .inl (nF Ob9_7))), (fS, .inl (cI, 8192, .inl (nF Sp0))), (fD, .inl (cZ, 8192, .inl (bF D0)))]) rfl
  dsimp only at hu_7
  have hbn := lb_cn hu_7
  have hb40 := cn_le (fun f => dc (P f = true ∧ abR ar nd P F G x f)) ar
  obtain ⟨q1, hq1, hq1x⟩ := hu_7.2.2.1 x hxa ⟨hPx, Or.inl rfl⟩
  refine lv_iload_n hx hb d_MO_splits_32 rfl (lv_at hl 2 rfl) ?_
  refine lv_if_ne (tgt := 41) hx hb d_MO_splits_33 (by decide) (fun _ => ?_) (fun c9 => absurd c9 (by decide : ¬ ((nI 2) : Int32) = 0))
  refine lv_aload_n hx hb d_MO_splits_41 rfl (lv_at hl 0 rfl) ?_
  refine va_get (D := (dC, dI)) (ci := 7) (v := .int (nI bz9_7)) (C := R_MO) (T := F_MO) (N := 15) hx hb hts in_MO hown hK.1 hP 0 rfl rfl 11 (by decide) (hts _ wfl_MO_132) (fun _ h9 => h9) rfl d_MO_splits_42 ?_
  refine lv_bipush (v := (nI 14)) hx hb d_MO_splits_45 (by decide) ?_
  refine x_cmp_le (a := bz9_7) (b := 14) (tgt := 53) hx hb (by omega) (by omega) d_MO_splits_47 (by decide) (fun c_9 => ?_) (fun c_9 => ?_)
  · skip
    refine lv_aload_n hx hb d_MO_splits_53 rfl (lv_at hl 0 rfl) ?_
    refine x_cv (k_V (n := 0) (C := R_MO) (rest := []) ⟨hx, hb, hml, hown, hts⟩ (c_MO_laySplits l dC dI cI cJ cZ o fF fG fT fN fW fO fB fS fD (nI 0) be sz nd ar bz9_7 F G hF hG Ob9_7 Sp0 D0 (fun k hk => by have := (hu_7.1 k (by omega)).1; omega) (by first | assumption | omega) (by first | assumption | omega)) wml_MO_144 wim_MO_laySplits wsel_MO_laySplits wini_MO wcode_MO_laySplits (by decide +kernel) ⟨Nat.le_of_ble_eq_true rfl, Nat.le_of_ble_eq_true rfl⟩ (preV_M (q := (R_MO, F_MO, 15)) (ci := 7) (q0 := 0) (hP.sub (ws' := [(o, .inr (7, [.int (nI 0), .int (nI nd), .int (nI ar), .ref fF, .ref fG, .ref fT, .ref fN, .ref fW, .int be, .ref fO, .ref fB, .int (nI bz9_7), .ref fS, .ref fD, .int sz])), (fF, .inl (cI, 41, .inl (nF F))), (fG, .inl (cI, 41, .inl (nF G))), (fB, .inl (cI, 41, .inl (nF Ob9_7))), (fS, .inl (cI, 8192, .inl (nF Sp0))), (fD, .inl (cZ, 8192, .inl (bF D0)))]) [0, 1, 2, 5, 6, 7] rfl) hK (hD.sub (ws' := [(o, .inr (7, [.int (nI 0), .int (nI nd), .int (nI ar), .ref fF, .ref fG, .ref fT, .ref fN, .ref fW, .int be, .ref fO, .ref fB, .int (nI bz9_7), .ref fS, .ref fD, .int sz])), (fF, .inl (cI, 41, .inl (nF F))), (fG, .inl (cI, 41, .inl (nF G))), (fB, .inl (cI, 41, .inl (nF Ob9_7))), (fS, .inl (cI, 8192, .inl (nF Sp0))), (fD, .inl (cZ, 8192, .inl (bF D0)))]) [0, 1, 2, 5, 6, 7] (by decide) rfl) rfl rfl) rfl hl.1 rfl (Nat.le_of_ble_eq_true rfl) d_MO_splits_54 ⟨Nat.zero_le _, Nat.zero_le _⟩) hP hD hS [0, 1, 2, 5, 6, 7] rfl (fun _ => rfl) (fun u_10 H locs hu_10 hP hS => ?_)
    obtain ⟨z9_10, Sp9_10, D9_10⟩ := u_10
    have hP : va_P (dC, dI) cls [(o, .inr (7, [.int (nI 0), .int (nI nd), .int (nI ar), .ref fF, .ref fG, .ref fT, .ref fN, .ref fW, .int be, .ref fO, .ref fB, .int (nI bz9_7), .ref fS, .ref fD, .int (nI z9_10)])), (fF, .inl (cI, 41, .inl (nF F))), (fG, .inl (cI, 41, .inl (nF G))), (fT, .inl (cZ, 41, .inl (bF P))), (fN, .inl (cI, 14, .inl N9_7)), (fB, .inl (cI, 41, .inl (nF Ob9_7))), (fS, .inl (cI, 8192, .inl (nF Sp9_10))), (fD, .inl (cZ, 8192, .inl (bF D9_10)))] H := hP
    have hD := hD.addr (ws' := [(o, .inr (7, [.int (nI 0), .int (nI nd), .int (nI ar), .ref fF, .ref fG, .ref fT, .ref fN, .ref fW, .int be, .ref fO, .ref fB, .int (nI bz9_7), .ref fS, .ref fD, .int (nI z9_10)])), (fF, .inl (cI, 41, .inl (nF F))), (fG, .inl (cI, 41, .inl (nF G))), (fT, .inl (cZ, 41, .inl (bF P))), (fN, .inl (cI, 14, .inl N9_7)), (fB, .inl (cI, 41, .inl (nF Ob9_7))), (fS, .inl (cI, 8192, .inl (nF Sp9_10))), (fD, .inl (cZ, 8192, .inl (bF D9_10)))]) rfl
    have hz14 := hu_10.2.2
    have hpz := hpw _ (Nat.lt_succ_of_le (show _ ≤ 14 from by assumption))
    have hsz8 : z9_10 ≤ 8192 := (by omega)
    refine lv_iconst (v := (nI 0)) hx hb d_MO_splits_57 (by decide) ?_
    refine lv_istore_n (lv' := [(3, .int (nI 0)), (0, .ref o), (1, .int (nI x)), (2, .int (nI 2))]) hx hb d_MO_splits_58 rfl hl (by decide) rfl (fun ls hl => ?_)
    refine lv_iload_n hx hb d_MO_splits_59 rfl (lv_at hl 3 rfl) ?_
    refine lv_iconst (v := (nI 1)) hx hb d_MO_splits_60 (by decide) ?_
    refine x_cmp_ne (a := 2) (b := 1) (tgt := 102) hx hb (by omega) (by omega) d_MO_splits_61 (by decide) (fun c_11 => ?_) (fun c_11 => ?_)
    · skip
      refine lv_iconst (v := (-1)) hx hb d_MO_splits_102 (by decide) ?_
      refine lv_istore (lv' := [(4, .int (-1)), (3, .int (nI 0)), (0, .ref o), (1, .int (nI x)), (2, .int (nI 2))]) hx hb d_MO_splits_103 hl (by decide) rfl (fun ls hl => ?_)
      refine lv_iconst (v := (nI 0)) hx hb d_MO_splits_105 (by decide) ?_
      refine lv_istore (lv' := [(5, .int (nI 0)), (4, .int (-1)), (3, .int (nI 0)), (0, .ref o), (1, .int (nI x)), (2, .int (nI 2))]) hx hb d_MO_splits_106 hl (by decide) rfl (fun ls hl => ?_)
      have L108_12 : ∀ (n : Nat) (q : Nat) (lw : Int32) (i : Nat) (hn : bz9_7 - i < n) (hi : i ≤ bz9_7) (hq : q = cn (fun k => dc ((tgR Sp9_10 D9_10 z9_10 q1) k)) i) (hlw : lwI (tgR Sp9_10 D9_10 z9_10 q1) Ob9_7 lw i) (ls : Array Slot) (hl : lv_has ls 7 [(0, .ref o), (1, .int (nI x)), (2, .int (nI 2)), (3, .int (nI q)), (4, .int lw), (5, .int (nI i))]), W p l e (headSpec (Cond.code ⟨"CutPointsModel", "splits", "(II)I"⟩ prog_9_method_49_code 7 (some .int) :: TT) (rmk 3 74)).room s m ([.ref o, .int (nI x), .int (nI 2)] : List Value).toArray below meth c H locs 0 0 (MQ below (va_Qi (S := Nat × Nat × (Nat → Int32) × (Nat → Nat) × (Nat → Nat) × (Nat → Bool)) (fun r u9 => (lbI (fun f => P f = true ∧ abR ar nd P F G x f) u9.2.2.2.1 u9.1 ar ∧ u9.1 ≤ 14 ∧ lbI (spQ F G u9.2.2.2.1 u9.1) u9.2.2.2.2.1 u9.2.1 (2 ^ u9.1 - 1) ∧ gdO u9.1 u9.2.2.2.2.1 u9.2.2.2.2.2 u9.2.1 u9.2.1) ∧ ∃ q1, q1 < u9.1 ∧ u9.2.2.2.1 q1 = x ∧ r = nI (cn (fun k => dc (tgR u9.2.2.2.2.1 u9.2.2.2.2.2 u9.2.1 q1 k)) u9.1)) (fun u9 t9 => va_P (dC, dI) cls ([(o, .inr (7, [.int (nI 0), .int (nI nd), .int (nI ar), .ref fF, .ref fG, .ref fT, .ref fN, .ref fW, .int be, .ref fO, .ref fB, .int (nI u9.1), .ref fS, .ref fD, .int (nI u9.2.1)])), (fF, .inl (cI, 41, .inl (nF F))), (fG, .inl (cI, 41, .inl (nF G))), (fT, .inl (cZ, 41, .inl (bF P))), (fN, .inl (cI, 14, .inl u9.2.2.1)), (fB, .inl (cI, 41, .inl (nF u9.2.2.2.1))), (fS, .inl (cI, 8192, .inl (nF u9.2.2.2.2.1))), (fD, .inl (cZ, 8192, .inl (bF u9.2.2.2.2.2)))]) t9.heap) (ow [(o, .inr (7, [.int th, .int (nI nd), .int (nI ar), .ref fF, .ref fG, .ref fT, .ref fN, .ref fW, .int be, .ref fO, .ref fB, .int bz, .ref fS, .ref fD, .int sz])), (fF, .inl (cI, 41, .inl (nF F))), (fG, .inl (cI, 41, .inl (nF G))), (fT, .inl (cZ, 41, .inl (bF P))), (fN, .inl (cI, 14, .inl N0)), (fB, .inl (cI, 41, .inl (nF Ob0))), (fS, .inl (cI, 8192, .inl (nF Sp0))), (fD, .inl (cZ, 8192, .inl (bF D0)))])) ([.ref o, .int (nI x), .int (nI 2)] : List Value).toArray s 0 0 (ow [(o, .inr (7, [.int th, .int (nI nd), .int (nI ar), .ref fF, .ref fG, .ref fT, .ref fN, .ref fW, .int be, .ref fO, .ref fB, .int bz, .ref fS, .ref fD, .int sz])), (fF, .inl (cI, 41, .inl (nF F))), (fG, .inl (cI, 41, .inl (nF G))), (fT, .inl (cZ, 41, .inl (bF P))), (fN, .inl (cI, 14, .inl N0)), (fB, .inl (cI, 41, .inl (nF Ob0))), (fS, .inl (cI, 8192, .inl (nF Sp0))), (fD, .inl (cZ, 8192, .inl (bF D0)))])) (F0 m 108 ls []) := by
        intro n_108
        induction n_108 with
        | zero =>
          intro q lw i hn_108
          exact absurd hn_108 (Nat.not_lt_zero _)
        | succ n_108 ih_108 =>
          intro q lw i hn_108 hi hq hlw ls hl
          refine lv_iload hx hb d_MO_splits_108 (lv_at hl 5 rfl) ?_
          refine lv_aload_n hx hb d_MO_splits_110 rfl (lv_at hl 0 rfl) ?_
          refine va_get (D := (dC, dI)) (ci := 7) (v := .int (nI bz9_7)) (C := R_MO) (T := F_MO) (N := 15) hx hb hts in_MO hown hK.1 hP 0 rfl rfl 11 (by decide) (hts _ wfl_MO_132) (fun _ h9 => h9) rfl d_MO_splits_111 ?_
          refine x_cmp_ge (a := i) (b := bz9_7) (tgt := 174) hx hb (by omega) (by omega) d_MO_splits_114 (by decide) (fun c_13 => ?_) (fun c_13 => ?_)
          · skip
            refine lv_iload_n hx hb d_MO_splits_174 rfl (lv_at hl 2 rfl) ?_
            refine lv_iconst (v := (nI 2)) hx hb d_MO_splits_175 (by decide) ?_
            refine x_cmp_ne (a := 2) (b := 2) (tgt := 183) hx hb (by omega) (by omega) d_MO_splits_176 (by decide) (fun c_14 => ?_) (fun c_14 => ?_)
            · skip
              omega
            · skip
              refine lv_iload_n hx hb d_MO_splits_179 rfl (lv_at hl 3 rfl) ?_
              refine lv_goto (tgt := 185) hx hb d_MO_splits_180 (by decide) ?_
              exact W.iret (v := (nI q)) hx hb hr (fun t9 ht9 _ => ⟨⟨_, (bz9_7, z9_10, N9_7, Ob9_7, Sp9_10, D9_10), rfl, ⟨⟨hu_7, by omega, hu_10.1, hu_10.2.1⟩, q1, hq1, hq1x, by have e9 : i = bz9_7 := (by omega); rw [hq, e9]⟩, by show va_P (dC, dI) cls _ t9.heap; rw [ht9]; exact hP⟩, hS.F ht9⟩) hS.2.2 d_MO_splits_185
          · skip
            refine lv_aload_n hx hb d_MO_splits_117 rfl (lv_at hl 0 rfl) ?_
            refine lv_aload_n hx hb d_MO_splits_118 rfl (lv_at hl 0 rfl) ?_
            refine lv_iload_n hx hb d_MO_splits_119 rfl (lv_at hl 1 rfl) ?_
            refine vp_callSi (va_Run.run (k_V (n := 1) (C := R_MO) (rest := [.ref o]) ⟨hx, hb, hml, hown, hts⟩ (c_MO_placeOf l dC dI cI cJ cZ o fF fG fT fN fW fO fB fS fD (nI 0) be (nI bz9_7) (nI z9_10) nd ar Ob9_7 q1 x (by first | assumption | omega) hq1x (fun k hk => by have := (hu_7.1 k (by omega)).1; omega)) wml_MO_147 wim_MO_placeOf wsel_MO_placeOf wini_MO wcode_MO_placeOf (by decide +kernel) ⟨Nat.le_of_ble_eq_true rfl, Nat.le_of_ble_eq_true rfl⟩ (preV_R (q := (R_MO, F_MO, 15)) (ci := 7) (q0 := 0) (hP.sub (ws' := [(o, .inr (7, [.int (nI 0), .int (nI nd), .int (nI ar), .ref fF, .ref fG, .ref fT, .ref fN, .ref fW, .int be, .ref fO, .ref fB, .int (nI bz9_7), .ref fS, .ref fD, .int (nI z9_10)])), (fB, .inl (cI, 41, .inl (nF Ob9_7)))]) [0, 5] rfl) hK rfl rfl) rfl hl.1 rfl (Nat.le_of_ble_eq_true rfl) d_MO_splits_120 ⟨Nat.zero_le _, Nat.zero_le _⟩)) (fun r_15 hr_16 => ?_)
            obtain ⟨kx_17, ek_17, hk_17⟩ := hr_16
            refine xe_i (y := (nI kx_17)) ek_17 ?_
            refine xe_i (y := (nI q1)) (by rw [lb_inj hu_7 hq1 hq1x hk_17.1 hk_17.2.1]) ?_
            refine lv_iload hx hb d_MO_splits_123 (lv_at hl 5 rfl) ?_
            refine vp_callSi (va_Run.run (k_V (n := 2) (C := R_MO) (rest := []) ⟨hx, hb, hml, hown, hts⟩ (c_MO_areTogether l dC dI cI cJ cZ o fF fG fT fN fW fO fB fS fD (nI 0) be (nI bz9_7) nd ar z9_10 Sp9_10 D9_10 hsz8 q1 i (by first | assumption | omega) (by first | assumption | omega)) wml_MO_150 wim_MO_areTogether wsel_MO_areTogether wini_MO wcode_MO_areTogether (by decide +kernel) ⟨Nat.le_of_ble_eq_true rfl, Nat.le_of_ble_eq_true rfl⟩ (preV_R (q := (R_MO, F_MO, 15)) (ci := 7) (q0 := 0) (hP.sub (ws' := [(o, .inr (7, [.int (nI 0), .int (nI nd), .int (nI ar), .ref fF, .ref fG, .ref fT, .ref fN, .ref fW, .int be, .ref fO, .ref fB, .int (nI bz9_7), .ref fS, .ref fD, .int (nI z9_10)])), (fS, .inl (cI, 8192, .inl (nF Sp9_10))), (fD, .inl (cZ, 8192, .inl (bF D9_10)))]) [0, 6, 7] rfl) hK rfl rfl) rfl hl.1 rfl (Nat.le_of_ble_eq_true rfl) d_MO_splits_125 ⟨Nat.zero_le _, Nat.zero_le _⟩)) (fun r_18 hr_19 => ?_)
            refine xe_i (y := (bI (dc (tgR Sp9_10 D9_10 z9_10 q1 i)))) hr_19 ?_
            refine lv_istore (lv' := [(6, .int (bI (dc (tgR Sp9_10 D9_10 z9_10 q1 i)))), (0, .ref o), (1, .int (nI x)), (2, .int (nI 2)), (3, .int (nI q)), (4, .int lw), (5, .int (nI i))]) hx hb d_MO_splits_128 hl (by decide) rfl (fun ls hl => ?_)
            refine lv_iload_n hx hb d_MO_splits_130 rfl (lv_at hl 4 rfl) ?_
            refine lv_iload hx hb d_MO_splits_131 (lv_at hl 0 rfl) ?_
            refine x_if_eq (tgt := 140) hx hb d_MO_splits_133 (by decide) (fun c_20 => ?_) (fun c_20 => ?_)
            · skip
              refine lv_iconst (v := (nI 0)) hx hb d_MO_splits_140 (by decide) ?_
              refine lv_iadd hx hb d_MO_splits_141 ?_
              refine xe_i (nI_add _ _) ?_
              refine lv_istore_n (lv' := [(3, .int (nI (q + 0))), (6, .int (bI (dc (tgR Sp9_10 D9_10 z9_10 q1 i)))), (0, .ref o), (1, .int (nI x)), (2, .int (nI 2)), (4, .int lw), (5, .int (nI i))]) hx hb d_MO_splits_142 rfl hl (by decide) rfl (fun ls hl => ?_)
              refine lv_iload hx hb d_MO_splits_143 (lv_at hl 1 rfl) ?_
              refine x_if_eq (tgt := 164) hx hb d_MO_splits_145 (by decide) (fun c_21 => ?_) (fun c_21 => ?_)
              · skip
                refine lv_iload hx hb d_MO_splits_164 (lv_at hl 5 rfl) ?_
                refine lv_istore (lv' := [(4, .int lw), (3, .int (nI (q + 0))), (6, .int (bI (dc (tgR Sp9_10 D9_10 z9_10 q1 i)))), (0, .ref o), (1, .int (nI x)), (2, .int (nI 2)), (5, .int (nI i))]) hx hb d_MO_splits_166 hl (by decide) rfl (fun ls hl => ?_)
                refine lv_iinc (v := (nI (i + 1))) (lv' := [(5, .int (nI (i + 1))), (4, .int lw), (3, .int (nI (q + 0))), (6, .int (bI (dc (tgR Sp9_10 D9_10 z9_10 q1 i)))), (0, .ref o), (1, .int (nI x)), (2, .int (nI 2))]) hx hb d_MO_splits_168 hl (k := 6) rfl (nI_1 _) (by decide) rfl (fun ls hl => ?_)
                refine lv_goto (tgt := 108) hx hb d_MO_splits_171 (by decide) ?_
                exact ih_108 (q + 0) lw (i + 1) (by omega) (by first | assumption | omega) (show q + 0 = _ from cn_f hq c_20) (lwI_f hlw (dc_f.mp c_21)) ls (lv_sub hl [4, 5, 6, 2, 1, 0] rfl)
              · skip
                rw [c_20] at c_21; cases c_21
            · skip
              refine lv_iconst (v := (nI 1)) hx hb d_MO_splits_136 (by decide) ?_
              refine lv_goto (tgt := 141) hx hb d_MO_splits_137 (by decide) ?_
              refine lv_iadd hx hb d_MO_splits_141 ?_
              refine xe_i (nI_add _ _) ?_
              refine lv_istore_n (lv' := [(3, .int (nI (q + 1))), (6, .int (bI (dc (tgR Sp9_10 D9_10 z9_10 q1 i)))), (0, .ref o), (1, .int (nI x)), (2, .int (nI 2)), (4, .int lw), (5, .int (nI i))]) hx hb d_MO_splits_142 rfl hl (by decide) rfl (fun ls hl => ?_)
              refine lv_iload hx hb d_MO_splits_143 (lv_at hl 1 rfl) ?_
              refine x_if_eq (tgt := 164) hx hb d_MO_splits_145 (by decide) (fun c_22 => ?_) (fun c_22 => ?_)
              · skip
                rw [c_20] at c_22; cases c_22
              · skip
                refine lv_iload hx hb d_MO_splits_148 (lv_at hl 5 rfl) ?_
                refine lv_iconst (v := (-1)) hx hb d_MO_splits_150 (by decide) ?_
                refine lv_icmp_ne (tgt := 164) hx hb d_MO_splits_151 (by decide) (fun c_23 => ?_) (fun c_23 => ?_)
                · skip
                  refine lv_iload hx hb d_MO_splits_164 (lv_at hl 5 rfl) ?_
                  refine lv_istore (lv' := [(4, .int lw), (3, .int (nI (q + 1))), (6, .int (bI (dc (tgR Sp9_10 D9_10 z9_10 q1 i)))), (0, .ref o), (1, .int (nI x)), (2, .int (nI 2)), (5, .int (nI i))]) hx hb d_MO_splits_166 hl (by decide) rfl (fun ls hl => ?_)
                  refine lv_iinc (v := (nI (i + 1))) (lv' := [(5, .int (nI (i + 1))), (4, .int lw), (3, .int (nI (q + 1))), (6, .int (bI (dc (tgR Sp9_10 D9_10 z9_10 q1 i)))), (0, .ref o), (1, .int (nI x)), (2, .int (nI 2))]) hx hb d_MO_splits_168 hl (k := 6) rfl (nI_1 _) (by decide) rfl (fun ls hl => ?_)
                  refine lv_goto (tgt := 108) hx hb d_MO_splits_171 (by decide) ?_
                  exact ih_108 (q + 1) lw (i + 1) (by omega) (by first | assumption | omega) (cn_t hq c_20) (lwI_k hlw c_23) ls (lv_sub hl [4, 5, 6, 2, 1, 0] rfl)
                · skip
                  refine lv_aload_n hx hb d_MO_splits_154 rfl (lv_at hl 2 rfl) ?_
                  refine va_get (D := (dC, dI)) (ci := 7) (v := .ref fB) (C := R_MO) (T := F_MO) (N := 15) hx hb hts in_MO hown hK.1 hP 0 rfl rfl 10 (by decide) (hts _ wfl_MO_29) (fun _ h9 => h9) rfl d_MO_splits_155 ?_
                  refine lv_iload hx hb d_MO_splits_158 (lv_at hl 6 rfl) ?_
                  refine x_iald (n := 41) (f := (nF Ob9_7)) (j := i) hx hb hK.1 hP 5 0 rfl rfl (by omega) (by omega) d_MO_splits_160 ?_
                  refine xe_i (y := (nI (Ob9_7 i))) rfl ?_
                  refine lv_goto (tgt := 166) hx hb d_MO_splits_161 (by decide) ?_
                  refine lv_istore (lv' := [(4, .int (nI (Ob9_7 i))), (3, .int (nI (q + 1))), (6, .int (bI (dc (tgR Sp9_10 D9_10 z9_10 q1 i)))), (0, .ref o), (1, .int (nI x)), (2, .int (nI 2)), (5, .int (nI i))]) hx hb d_MO_splits_166 hl (by decide) rfl (fun ls hl => ?_)
                  refine lv_iinc (v := (nI (i + 1))) (lv' := [(5, .int (nI (i + 1))), (4, .int (nI (Ob9_7 i))), (3, .int (nI (q + 1))), (6, .int (bI (dc (tgR Sp9_10 D9_10 z9_10 q1 i)))), (0, .ref o), (1, .int (nI x)), (2, .int (nI 2))]) hx hb d_MO_splits_168 hl (k := 6) rfl (nI_1 _) (by decide) rfl (fun ls hl => ?_)
                  refine lv_goto (tgt := 108) hx hb d_MO_splits_171 (by decide) ?_
                  exact ih_108 (q + 1) (nI (Ob9_7 i)) (i + 1) (by omega) (by first | assumption | omega) (cn_t hq c_20) (lwI_t hlw (fun k hk => by have := (hu_7.1 k (by omega)).1; omega) (dc_t.mp c_22) c_23) ls (lv_sub hl [4, 5, 6, 2, 1, 0] rfl)
      exact L108_12 ((bz9_7 - 0) + 1) 0 (-1) 0 (Nat.lt_succ_self _) (by first | assumption | omega) rfl lwI_0 ls (lv_sub hl [3, 4, 5, 2, 1, 0] rfl)
    · skip
      omega
  · skip
    omega

set_option maxHeartbeats 4000000 in
set_option maxRecDepth 100000 in
theorem c_MO_splits_l3 (l : Launch) (dC : Nat → ClassId) (dI : Nat → Nat → Nat) (cI cJ cZ : ClassId) (o fF fG fT fN fW fO fB fS fD : Nat) (th be bz sz : Int32) (nd ar : Nat) (F G : Nat → Nat) (P : Nat → Bool) (hF : ∀ k, F k < 14) (hG : ∀ k, G k < 14) (hnd : nd ≤ 14) (har : ar ≤ 40) (hM : ∀ e, e < ar → F e < nd ∧ G e < nd) (Ob0 : Nat → Nat) (N0 : Nat → Int32) (x : Nat) (hxa : x < ar) (hPx : P x = true) (h14 : 14 < cn (fun f => dc (P f = true ∧ abR ar nd P F G x f)) ar) : Met l ⟨"CutPointsModel", "splits", "(II)I"⟩ (Cond.code ⟨"CutPointsModel", "splits", "(II)I"⟩ prog_9_method_49_code 7 (some .int) :: TT) (rmk 3 74) (PM dC dI cI cJ cZ [.ref o, .int (nI x), .int (nI 3)] [(o, .inr (7, [.int th, .int (nI nd), .int (nI ar), .ref fF, .ref fG, .ref fT, .ref fN, .ref fW, .int be, .ref fO, .ref fB, .int bz, .ref fS, .ref fD, .int sz])), (fF, .inl (cI, 41, .inl (nF F))), (fG, .inl (cI, 41, .inl (nF G))), (fT, .inl (cZ, 41, .inl (bF P))), (fN, .inl (cI, 14, .inl N0)), (fB, .inl (cI, 41, .inl (nF Ob0)))]) (va_Qi (S := Nat × (Nat → Int32) × (Nat → Nat)) (fun r u9 => r = -4) (fun u9 t9 => va_P (dC, dI) cls ([(o, .inr (7, [.int (nI 0), .int (nI nd), .int (nI ar), .ref fF, .ref fG, .ref fT, .ref fN, .ref fW, .int be, .ref fO, .ref fB, .int (nI u9.1), .ref fS, .ref fD, .int sz])), (fF, .inl (cI, 41, .inl (nF F))), (fG, .inl (cI, 41, .inl (nF G))), (fT, .inl (cZ, 41, .inl (bF P))), (fN, .inl (cI, 14, .inl u9.2.1)), (fB, .inl (cI, 41, .inl (nF u9.2.2)))]) t9.heap) (ow [(o, .inr (7, [.int th, .int (nI nd), .int (nI ar), .ref fF, .ref fG, .ref fT, .ref fN, .ref fW, .int be, .ref fO, .ref fB, .int bz, .ref fS, .ref fD, .int sz])), (fF, .inl (cI, 41, .inl (nF F))), (fG, .inl (cI, 41, .inl (nF G))), (fT, .inl (cZ, 41, .inl (bF P))), (fN, .inl (cI, 14, .inl N0)), (fB, .inl (cI, 41, .inl (nF Ob0)))])) 0 0 (ow [(o, .inr (7, [.int th, .int (nI nd), .int (nI ar), .ref fF, .ref fG, .ref fT, .ref fN, .ref fW, .int be, .ref fO, .ref fB, .int bz, .ref fS, .ref fD, .int sz])), (fF, .inl (cI, 41, .inl (nF F))), (fG, .inl (cI, 41, .inl (nF G))), (fT, .inl (cZ, 41, .inl (bF P))), (fN, .inl (cI, 14, .inl N0)), (fB, .inl (cI, 41, .inl (nF Ob0)))]) := by
  refine Met.ofW (cc := prog_9_method_49_code) (maxL := 7) (ret := (some .int)) (by decide) rfl ?_
  intro p e s m args below meth c s₁ BB9 hml hv
  obtain ⟨rfl, hP, hK, hD0⟩ := hv
  have hx := BB9.exec
  have hb := BB9.bytes
  have hr := BB9.returns
  have hts : ∀ w ∈ TT, w.before _ s = true := fun w h => atoms_spec (ws := (Cond.code ⟨"CutPointsModel", "splits", "(II)I"⟩ prog_9_method_49_code 7 (some .int) :: TT)) BB9.pre w (List.mem_cons_of_mem _ h)
  have hown : s.vm.findClass "CutPointsModel" = some m.cls := findClass_of_methodNamed BB9.named
  have hlocks := BB9.notSynchronized
  have hD := hD0.mine
  have hS : va_S (ow [(o, .inr (7, [.int th, .int (nI nd), .int (nI ar), .ref fF, .ref fG, .ref fT, .ref fN, .ref fW, .int be, .ref fO, .ref fB, .int bz, .ref fS, .ref fD, .int sz])), (fF, .inl (cI, 41, .inl (nF F))), (fG, .inl (cI, 41, .inl (nF G))), (fT, .inl (cZ, 41, .inl (bF P))), (fN, .inl (cI, 14, .inl N0)), (fB, .inl (cI, 41, .inl (nF Ob0)))]) s.heap s.heap [] := va_S.rf
  have hl := lv_entry ([.ref o, .int (nI x), .int (nI 3)]) (n := 7) (Nat.le_of_ble_eq_true rfl)
  rw [lg_entry_eq]
  generalize (lg_sl ([.ref o, .int (nI x), .int (nI 3)]) ++ List.replicate (7 - (lg_sl ([.ref o, .int (nI x), .int (nI 3)])).length) Slot.unset).toArray = ls at hl ⊢
  have hl : lv_has ls 7 [(0, .ref o), (1, .int (nI x)), (2, .int (nI 3))] := hl
  refine lv_aload_n hx hb d_MO_splits_0 rfl (lv_at hl 0 rfl) ?_
  refine lv_iconst (v := (nI 0)) hx hb d_MO_splits_1 (by decide) ?_
  refine va_put (D := (dC, dI)) (ci := 7) (v := .int (nI 0)) (ty := .int) (C := R_MO) (T := F_MO) (N := 15) hx hb hts in_MO t_MO t_MO_ok n_MO hown hK.1 hP hD hS 0 rfl rfl 0 (by decide) (hts _ wfl_MO_38) (fun _ h9 => h9) rfl (by decide +kernel) rfl rfl (Nat.le_of_ble_eq_true rfl) d_MO_splits_2 (fun H locs hP hD hS => ?_)
  have hP : va_P (dC, dI) cls [(o, .inr (7, [.int (nI 0), .int (nI nd), .int (nI ar), .ref fF, .ref fG, .ref fT, .ref fN, .ref fW, .int be, .ref fO, .ref fB, .int bz, .ref fS, .ref fD, .int sz])), (fF, .inl (cI, 41, .inl (nF F))), (fG, .inl (cI, 41, .inl (nF G))), (fT, .inl (cZ, 41, .inl (bF P))), (fN, .inl (cI, 14, .inl N0)), (fB, .inl (cI, 41, .inl (nF Ob0)))] H := hP
  have hD : va_D (ow [(o, .inr (7, [.int th, .int (nI nd), .int (nI ar), .ref fF, .ref fG, .ref fT, .ref fN, .ref fW, .int be, .ref fO, .ref fB, .int bz, .ref fS, .ref fD, .int sz])), (fF, .inl (cI, 41, .inl (nF F))), (fG, .inl (cI, 41, .inl (nF G))), (fT, .inl (cZ, 41, .inl (bF P))), (fN, .inl (cI, 14, .inl N0)), (fB, .inl (cI, 41, .inl (nF Ob0)))]) [(o, .inr (7, [.int (nI 0), .int (nI nd), .int (nI ar), .ref fF, .ref fG, .ref fT, .ref fN, .ref fW, .int be, .ref fO, .ref fB, .int bz, .ref fS, .ref fD, .int sz])), (fF, .inl (cI, 41, .inl (nF F))), (fG, .inl (cI, 41, .inl (nF G))), (fT, .inl (cZ, 41, .inl (bF P))), (fN, .inl (cI, 14, .inl N0)), (fB, .inl (cI, 41, .inl (nF Ob0)))] := hD
  refine lv_aload_n hx hb d_MO_splits_5 rfl (lv_at hl 0 rfl) ?_
  refine lv_iload_n hx hb d_MO_splits_6 rfl (lv_at hl 1 rfl) ?_
  refine vp_callSi (va_Run.run (k_V (n := 1) (C := R_MO) (rest := []) ⟨hx, hb, hml, hown, hts⟩ (c_MO_isThere l dC dI cI cJ cZ o fF fG fT fN fW fO fB fS fD (nI 0) be bz sz nd ar P (nI x) (by first | assumption | omega)) wml_MO_113 wim_MO_isThere wsel_MO_isThere wini_MO wcode_MO_isThere (by decide +kernel) ⟨Nat.le_of_ble_eq_true rfl, Nat.le_of_ble_eq_true rfl⟩ (preV_R (q := (R_MO, F_MO, 15)) (ci := 7) (q0 := 0) (hP.sub (ws' := [(o, .inr (7, [.int (nI 0), .int (nI nd), .int (nI ar), .ref fF, .ref fG, .ref fT, .ref fN, .ref fW, .int be, .ref fO, .ref fB, .int bz, .ref fS, .ref fD, .int sz])), (fT, .inl (cZ, 41, .inl (bF P)))]) [0, 3] rfl) hK rfl rfl) rfl hl.1 rfl (Nat.le_of_ble_eq_true rfl) d_MO_splits_7 ⟨Nat.zero_le _, Nat.zero_le _⟩)) (fun r_1 hr_2 => ?_)
  refine xe_i (y := (bI (vd (nI x) ar && P (nI x).toNatClampNeg))) hr_2 ?_
  refine xe_i (y := (bI true)) (by rw [tm_tt (by omega) hxa hPx]) ?_
  refine lv_if_ne (tgt := 15) hx hb d_MO_splits_10 (by decide) (fun _ => ?_) (fun c9 => absurd c9 (by decide : ¬ ((bI true) : Int32) = 0))
  refine lv_iload_n hx hb d_MO_splits_15 rfl (lv_at hl 2 rfl) ?_
  refine lv_iconst (v := (nI 0)) hx hb d_MO_splits_16 (by decide) ?_
  refine lv_iconst (v := (nI 3)) hx hb d_MO_splits_17 (by decide) ?_
  refine vp_callSi (va_Run.run (k_S (n := 3) (rest := []) ⟨hx, hb, hml, hown, hts⟩ (c_MO_within l dC dI cI cJ cZ (nI 3) (nI 0) (nI 3)) wml_MO_48 wst_MO_within wini_MO wcode_MO_within (by decide +kernel) ⟨Nat.le_of_ble_eq_true rfl, Nat.le_of_ble_eq_true rfl⟩ (pre_R (hP.sub (ws' := []) [] rfl) hK) rfl hl.1 rfl (Nat.le_of_ble_eq_true rfl) d_MO_splits_18 ⟨Nat.zero_le _, Nat.zero_le _⟩)) (fun r_4 hr_5 => ?_)
  refine xe_i (y := (bI (decide ((nI 0) ≤ (nI 3)) && decide ((nI 3) ≤ (nI 3))))) hr_5 ?_
  refine xe_i (y := (bI true)) (by decide) ?_
  refine lv_if_ne (tgt := 27) hx hb d_MO_splits_21 (by decide) (fun _ => ?_) (fun c9 => absurd c9 (by decide : ¬ ((bI true) : Int32) = 0))
  refine lv_aload_n hx hb d_MO_splits_27 rfl (lv_at hl 0 rfl) ?_
  refine lv_iload_n hx hb d_MO_splits_28 rfl (lv_at hl 1 rfl) ?_
  refine x_cv (k_V (n := 1) (C := R_MO) (rest := []) ⟨hx, hb, hml, hown, hts⟩ (c_MO_layBlock l dC dI cI cJ cZ o fF fG fT fN fW fO fB fS fD (nI 0) be bz sz nd ar F G P hF hG (by first | assumption | omega) (by first | assumption | omega) hM N0 Ob0 x (by first | assumption | omega)) wml_MO_141 wim_MO_layBlock wsel_MO_layBlock wini_MO wcode_MO_layBlock (by decide +kernel) ⟨Nat.le_of_ble_eq_true rfl, Nat.le_of_ble_eq_true rfl⟩ (preV_M (q := (R_MO, F_MO, 15)) (ci := 7) (q0 := 0) (hP.sub (ws' := [(o, .inr (7, [.int (nI 0), .int (nI nd), .int (nI ar), .ref fF, .ref fG, .ref fT, .ref fN, .ref fW, .int be, .ref fO, .ref fB, .int bz, .ref fS, .ref fD, .int sz])), (fF, .inl (cI, 41, .inl (nF F))), (fG, .inl (cI, 41, .inl (nF G))), (fT, .inl (cZ, 41, .inl (bF P))), (fN, .inl (cI, 14, .inl N0)), (fB, .inl (cI, 41, .inl (nF Ob0)))]) [0, 1, 2, 3, 4, 5] rfl) hK (hD.sub (ws' := [(o, .inr (7, [.int (nI 0), .int (nI nd), .int (nI ar), .ref fF, .ref fG, .ref fT, .ref fN, .ref fW, .int be, .ref fO, .ref fB, .int bz, .ref fS, .ref fD, .int sz])), (fF, .inl (cI, 41, .inl (nF F))), (fG, .inl (cI, 41, .inl (nF G))), (fT, .inl (cZ, 41, .inl (bF P))), (fN, .inl (cI, 14, .inl N0)), (fB, .inl (cI, 41, .inl (nF Ob0)))]) [0, 1, 2, 3, 4, 5] (by decide) rfl) rfl rfl) rfl hl.1 rfl (Nat.le_of_ble_eq_true rfl) d_MO_splits_29 ⟨Nat.zero_le _, Nat.zero_le _⟩) hP hD hS [0, 1, 2, 3, 4, 5] rfl (fun _ => rfl) (fun u_7 H locs hu_7 hP hS => ?_)
  obtain ⟨bz9_7, N9_7, Ob9_7⟩ := u_7
  have hP : va_P (dC, dI) cls [(o, .inr (7, [.int (nI 0), .int (nI nd), .int (nI ar), .ref fF, .ref fG, .ref fT, .ref fN, .ref fW, .int be, .ref fO, .ref fB, .int (nI bz9_7), .ref fS, .ref fD, .int sz])), (fF, .inl (cI, 41, .inl (nF F))), (fG, .inl (cI, 41, .inl (nF G))), (fT, .inl (cZ, 41, .inl (bF P))), (fN, .inl (cI, 14, .inl N9_7)), (fB, .inl (cI, 41, .inl (nF Ob9_7)))] H := hP
  have hD := hD.addr (ws' := [(o, .inr (7, [.int (nI 0), .int (nI nd), .int (nI ar), .ref fF, .ref fG, .ref fT, .ref fN, .ref fW, .int be, .ref fO, .ref fB, .int (nI bz9_7), .ref fS, .ref fD, .int sz])), (fF, .inl (cI, 41, .inl (nF F))), (fG, .inl (cI, 41, .inl (nF G))), (fT, .inl (cZ, 41, .inl (bF P))), (fN, .inl (cI, 14, .inl N9_7)), (fB, .inl (cI, 41, .inl (nF Ob9_7)))]) rfl
  dsimp only at hu_7
  have hbn := lb_cn hu_7
  have hb40 := cn_le (fun f => dc (P f = true ∧ abR ar nd P F G x f)) ar
  refine lv_iload_n hx hb d_MO_splits_32 rfl (lv_at hl 2 rfl) ?_
  refine lv_if_ne (tgt := 41) hx hb d_MO_splits_33 (by decide) (fun _ => ?_) (fun c9 => absurd c9 (by decide : ¬ ((nI 3) : Int32) = 0))
  refine lv_aload_n hx hb d_MO_splits_41 rfl (lv_at hl 0 rfl) ?_
  refine va_get (D := (dC, dI)) (ci := 7) (v := .int (nI bz9_7)) (C := R_MO) (T := F_MO) (N := 15) hx hb hts in_MO hown hK.1 hP 0 rfl rfl 11 (by decide) (hts _ wfl_MO_132) (fun _ h9 => h9) rfl d_MO_splits_42 ?_
  refine lv_bipush (v := (nI 14)) hx hb d_MO_splits_45 (by decide) ?_
  refine x_cmp_le (a := bz9_7) (b := 14) (tgt := 53) hx hb (by omega) (by omega) d_MO_splits_47 (by decide) (fun c_9 => ?_) (fun c_9 => ?_)
  · skip
    omega
  · skip
    refine lv_bipush (v := (-4)) hx hb d_MO_splits_50 (by decide) ?_
    exact W.iret (v := (-4)) hx hb hr (fun t9 ht9 _ => ⟨⟨_, (bz9_7, N9_7, Ob9_7), rfl, rfl, by show va_P (dC, dI) cls _ t9.heap; rw [ht9]; exact hP⟩, hS.F ht9⟩) hS.2.2 d_MO_splits_52

set_option maxHeartbeats 4000000 in
set_option maxRecDepth 100000 in
theorem c_MO_splits_3 (l : Launch) (dC : Nat → ClassId) (dI : Nat → Nat → Nat) (cI cJ cZ : ClassId) (o fF fG fT fN fW fO fB fS fD : Nat) (th be bz sz : Int32) (nd ar : Nat) (F G : Nat → Nat) (P : Nat → Bool) (hF : ∀ k, F k < 14) (hG : ∀ k, G k < 14) (hnd : nd ≤ 14) (har : ar ≤ 40) (hM : ∀ e, e < ar → F e < nd ∧ G e < nd) (Ob0 Sp0 : Nat → Nat) (D0 : Nat → Bool) (N0 : Nat → Int32) (x : Nat) (hxa : x < ar) (hPx : P x = true) (h14 : cn (fun f => dc (P f = true ∧ abR ar nd P F G x f)) ar ≤ 14) : Met l ⟨"CutPointsModel", "splits", "(II)I"⟩ (Cond.code ⟨"CutPointsModel", "splits", "(II)I"⟩ prog_9_method_49_code 7 (some .int) :: TT) (rmk 3 74) (PM dC dI cI cJ cZ [.ref o, .int (nI x), .int (nI 3)] [(o, .inr (7, [.int th, .int (nI nd), .int (nI ar), .ref fF, .ref fG, .ref fT, .ref fN, .ref fW, .int be, .ref fO, .ref fB, .int bz, .ref fS, .ref fD, .int sz])), (fF, .inl (cI, 41, .inl (nF F))), (fG, .inl (cI, 41, .inl (nF G))), (fT, .inl (cZ, 41, .inl (bF P))), (fN, .inl (cI, 14, .inl N0)), (fB, .inl (cI, 41, .inl (nF Ob0))), (fS, .inl (cI, 8192, .inl (nF Sp0))), (fD, .inl (cZ, 8192, .inl (bF D0)))]) (va_Qi (S := Nat × Nat × (Nat → Int32) × (Nat → Nat) × (Nat → Nat) × (Nat → Bool)) (fun r u9 => (lbI (fun f => P f = true ∧ abR ar nd P F G x f) u9.2.2.2.1 u9.1 ar ∧ u9.1 ≤ 14 ∧ lbI (spQ F G u9.2.2.2.1 u9.1) u9.2.2.2.2.1 u9.2.1 (2 ^ u9.1 - 1) ∧ gdO u9.1 u9.2.2.2.2.1 u9.2.2.2.2.2 u9.2.1 u9.2.1) ∧ ∃ q1, q1 < u9.1 ∧ u9.2.2.2.1 q1 = x ∧ lwI (tgR u9.2.2.2.2.1 u9.2.2.2.2.2 u9.2.1 q1) u9.2.2.2.1 r u9.1) (fun u9 t9 => va_P (dC, dI) cls ([(o, .inr (7, [.int (nI 0), .int (nI nd), .int (nI ar), .ref fF, .ref fG, .ref fT, .ref fN, .ref fW, .int be, .ref fO, .ref fB, .int (nI u9.1), .ref fS, .ref fD, .int (nI u9.2.1)])), (fF, .inl (cI, 41, .inl (nF F))), (fG, .inl (cI, 41, .inl (nF G))), (fT, .inl (cZ, 41, .inl (bF P))), (fN, .inl (cI, 14, .inl u9.2.2.1)), (fB, .inl (cI, 41, .inl (nF u9.2.2.2.1))), (fS, .inl (cI, 8192, .inl (nF u9.2.2.2.2.1))), (fD, .inl (cZ, 8192, .inl (bF u9.2.2.2.2.2)))]) t9.heap) (ow [(o, .inr (7, [.int th, .int (nI nd), .int (nI ar), .ref fF, .ref fG, .ref fT, .ref fN, .ref fW, .int be, .ref fO, .ref fB, .int bz, .ref fS, .ref fD, .int sz])), (fF, .inl (cI, 41, .inl (nF F))), (fG, .inl (cI, 41, .inl (nF G))), (fT, .inl (cZ, 41, .inl (bF P))), (fN, .inl (cI, 14, .inl N0)), (fB, .inl (cI, 41, .inl (nF Ob0))), (fS, .inl (cI, 8192, .inl (nF Sp0))), (fD, .inl (cZ, 8192, .inl (bF D0)))])) 0 0 (ow [(o, .inr (7, [.int th, .int (nI nd), .int (nI ar), .ref fF, .ref fG, .ref fT, .ref fN, .ref fW, .int be, .ref fO, .ref fB, .int bz, .ref fS, .ref fD, .int sz])), (fF, .inl (cI, 41, .inl (nF F))), (fG, .inl (cI, 41, .inl (nF G))), (fT, .inl (cZ, 41, .inl (bF P))), (fN, .inl (cI, 14, .inl N0)), (fB, .inl (cI, 41, .inl (nF Ob0))), (fS, .inl (cI, 8192, .inl (nF Sp0))), (fD, .inl (cZ, 8192, .inl (bF D0)))]) := by
  refine Met.ofW (cc := prog_9_method_49_code) (maxL := 7) (ret := (some .int)) (by decide) rfl ?_
  intro p e s m args below meth c s₁ BB9 hml hv
  obtain ⟨rfl, hP, hK, hD0⟩ := hv
  have hx := BB9.exec
  have hb := BB9.bytes
  have hr := BB9.returns
  have hts : ∀ w ∈ TT, w.before _ s = true := fun w h => atoms_spec (ws := (Cond.code ⟨"CutPointsModel", "splits", "(II)I"⟩ prog_9_method_49_code 7 (some .int) :: TT)) BB9.pre w (List.mem_cons_of_mem _ h)
  have hown : s.vm.findClass "CutPointsModel" = some m.cls := findClass_of_methodNamed BB9.named
  have hlocks := BB9.notSynchronized
  have hD := hD0.mine
  have hS : va_S (ow [(o, .inr (7, [.int th, .int (nI nd), .int (nI ar), .ref fF, .ref fG, .ref fT, .ref fN, .ref fW, .int be, .ref fO, .ref fB, .int bz, .ref fS, .ref fD, .int sz])), (fF, .inl (cI, 41, .inl (nF F))), (fG, .inl (cI, 41, .inl (nF G))), (fT, .inl (cZ, 41, .inl (bF P))), (fN, .inl (cI, 14, .inl N0)), (fB, .inl (cI, 41, .inl (nF Ob0))), (fS, .inl (cI, 8192, .inl (nF Sp0))), (fD, .inl (cZ, 8192, .inl (bF D0)))]) s.heap s.heap [] := va_S.rf
  have hpw : ∀ n, n < 15 → 2 ^ n ≤ 16384 := pow_le
  have hl := lv_entry ([.ref o, .int (nI x), .int (nI 3)]) (n := 7) (Nat.le_of_ble_eq_true rfl)
  rw [lg_entry_eq]
  generalize (lg_sl ([.ref o, .int (nI x), .int (nI 3)]) ++ List.replicate (7 - (lg_sl ([.ref o, .int (nI x), .int (nI 3)])).length) Slot.unset).toArray = ls at hl ⊢
  have hl : lv_has ls 7 [(0, .ref o), (1, .int (nI x)), (2, .int (nI 3))] := hl
  refine lv_aload_n hx hb d_MO_splits_0 rfl (lv_at hl 0 rfl) ?_
  refine lv_iconst (v := (nI 0)) hx hb d_MO_splits_1 (by decide) ?_
  refine va_put (D := (dC, dI)) (ci := 7) (v := .int (nI 0)) (ty := .int) (C := R_MO) (T := F_MO) (N := 15) hx hb hts in_MO t_MO t_MO_ok n_MO hown hK.1 hP hD hS 0 rfl rfl 0 (by decide) (hts _ wfl_MO_38) (fun _ h9 => h9) rfl (by decide +kernel) rfl rfl (Nat.le_of_ble_eq_true rfl) d_MO_splits_2 (fun H locs hP hD hS => ?_)
  have hP : va_P (dC, dI) cls [(o, .inr (7, [.int (nI 0), .int (nI nd), .int (nI ar), .ref fF, .ref fG, .ref fT, .ref fN, .ref fW, .int be, .ref fO, .ref fB, .int bz, .ref fS, .ref fD, .int sz])), (fF, .inl (cI, 41, .inl (nF F))), (fG, .inl (cI, 41, .inl (nF G))), (fT, .inl (cZ, 41, .inl (bF P))), (fN, .inl (cI, 14, .inl N0)), (fB, .inl (cI, 41, .inl (nF Ob0))), (fS, .inl (cI, 8192, .inl (nF Sp0))), (fD, .inl (cZ, 8192, .inl (bF D0)))] H := hP
  have hD : va_D (ow [(o, .inr (7, [.int th, .int (nI nd), .int (nI ar), .ref fF, .ref fG, .ref fT, .ref fN, .ref fW, .int be, .ref fO, .ref fB, .int bz, .ref fS, .ref fD, .int sz])), (fF, .inl (cI, 41, .inl (nF F))), (fG, .inl (cI, 41, .inl (nF G))), (fT, .inl (cZ, 41, .inl (bF P))), (fN, .inl (cI, 14, .inl N0)), (fB, .inl (cI, 41, .inl (nF Ob0))), (fS, .inl (cI, 8192, .inl (nF Sp0))), (fD, .inl (cZ, 8192, .inl (bF D0)))]) [(o, .inr (7, [.int (nI 0), .int (nI nd), .int (nI ar), .ref fF, .ref fG, .ref fT, .ref fN, .ref fW, .int be, .ref fO, .ref fB, .int bz, .ref fS, .ref fD, .int sz])), (fF, .inl (cI, 41, .inl (nF F))), (fG, .inl (cI, 41, .inl (nF G))), (fT, .inl (cZ, 41, .inl (bF P))), (fN, .inl (cI, 14, .inl N0)), (fB, .inl (cI, 41, .inl (nF Ob0))), (fS, .inl (cI, 8192, .inl (nF Sp0))), (fD, .inl (cZ, 8192, .inl (bF D0)))] := hD
  refine lv_aload_n hx hb d_MO_splits_5 rfl (lv_at hl 0 rfl) ?_
  refine lv_iload_n hx hb d_MO_splits_6 rfl (lv_at hl 1 rfl) ?_
  refine vp_callSi (va_Run.run (k_V (n := 1) (C := R_MO) (rest := []) ⟨hx, hb, hml, hown, hts⟩ (c_MO_isThere l dC dI cI cJ cZ o fF fG fT fN fW fO fB fS fD (nI 0) be bz sz nd ar P (nI x) (by first | assumption | omega)) wml_MO_113 wim_MO_isThere wsel_MO_isThere wini_MO wcode_MO_isThere (by decide +kernel) ⟨Nat.le_of_ble_eq_true rfl, Nat.le_of_ble_eq_true rfl⟩ (preV_R (q := (R_MO, F_MO, 15)) (ci := 7) (q0 := 0) (hP.sub (ws' := [(o, .inr (7, [.int (nI 0), .int (nI nd), .int (nI ar), .ref fF, .ref fG, .ref fT, .ref fN, .ref fW, .int be, .ref fO, .ref fB, .int bz, .ref fS, .ref fD, .int sz])), (fT, .inl (cZ, 41, .inl (bF P)))]) [0, 3] rfl) hK rfl rfl) rfl hl.1 rfl (Nat.le_of_ble_eq_true rfl) d_MO_splits_7 ⟨Nat.zero_le _, Nat.zero_le _⟩)) (fun r_1 hr_2 => ?_)
  refine xe_i (y := (bI (vd (nI x) ar && P (nI x).toNatClampNeg))) hr_2 ?_
  refine xe_i (y := (bI true)) (by rw [tm_tt (by omega) hxa hPx]) ?_
  refine lv_if_ne (tgt := 15) hx hb d_MO_splits_10 (by decide) (fun _ => ?_) (fun c9 => absurd c9 (by decide : ¬ ((bI true) : Int32) = 0))
  refine lv_iload_n hx hb d_MO_splits_15 rfl (lv_at hl 2 rfl) ?_
  refine lv_iconst (v := (nI 0)) hx hb d_MO_splits_16 (by decide) ?_
  refine lv_iconst (v := (nI 3)) hx hb d_MO_splits_17 (by decide) ?_
  refine vp_callSi (va_Run.run (k_S (n := 3) (rest := []) ⟨hx, hb, hml, hown, hts⟩ (c_MO_within l dC dI cI cJ cZ (nI 3) (nI 0) (nI 3)) wml_MO_48 wst_MO_within wini_MO wcode_MO_within (by decide +kernel) ⟨Nat.le_of_ble_eq_true rfl, Nat.le_of_ble_eq_true rfl⟩ (pre_R (hP.sub (ws' := []) [] rfl) hK) rfl hl.1 rfl (Nat.le_of_ble_eq_true rfl) d_MO_splits_18 ⟨Nat.zero_le _, Nat.zero_le _⟩)) (fun r_4 hr_5 => ?_)
  refine xe_i (y := (bI (decide ((nI 0) ≤ (nI 3)) && decide ((nI 3) ≤ (nI 3))))) hr_5 ?_
  refine xe_i (y := (bI true)) (by decide) ?_
  refine lv_if_ne (tgt := 27) hx hb d_MO_splits_21 (by decide) (fun _ => ?_) (fun c9 => absurd c9 (by decide : ¬ ((bI true) : Int32) = 0))
  refine lv_aload_n hx hb d_MO_splits_27 rfl (lv_at hl 0 rfl) ?_
  refine lv_iload_n hx hb d_MO_splits_28 rfl (lv_at hl 1 rfl) ?_
  refine x_cv (k_V (n := 1) (C := R_MO) (rest := []) ⟨hx, hb, hml, hown, hts⟩ (c_MO_layBlock l dC dI cI cJ cZ o fF fG fT fN fW fO fB fS fD (nI 0) be bz sz nd ar F G P hF hG (by first | assumption | omega) (by first | assumption | omega) hM N0 Ob0 x (by first | assumption | omega)) wml_MO_141 wim_MO_layBlock wsel_MO_layBlock wini_MO wcode_MO_layBlock (by decide +kernel) ⟨Nat.le_of_ble_eq_true rfl, Nat.le_of_ble_eq_true rfl⟩ (preV_M (q := (R_MO, F_MO, 15)) (ci := 7) (q0 := 0) (hP.sub (ws' := [(o, .inr (7, [.int (nI 0), .int (nI nd), .int (nI ar), .ref fF, .ref fG, .ref fT, .ref fN, .ref fW, .int be, .ref fO, .ref fB, .int bz, .ref fS, .ref fD, .int sz])), (fF, .inl (cI, 41, .inl (nF F))), (fG, .inl (cI, 41, .inl (nF G))), (fT, .inl (cZ, 41, .inl (bF P))), (fN, .inl (cI, 14, .inl N0)), (fB, .inl (cI, 41, .inl (nF Ob0)))]) [0, 1, 2, 3, 4, 5] rfl) hK (hD.sub (ws' := [(o, .inr (7, [.int (nI 0), .int (nI nd), .int (nI ar), .ref fF, .ref fG, .ref fT, .ref fN, .ref fW, .int be, .ref fO, .ref fB, .int bz, .ref fS, .ref fD, .int sz])), (fF, .inl (cI, 41, .inl (nF F))), (fG, .inl (cI, 41, .inl (nF G))), (fT, .inl (cZ, 41, .inl (bF P))), (fN, .inl (cI, 14, .inl N0)), (fB, .inl (cI, 41, .inl (nF Ob0)))]) [0, 1, 2, 3, 4, 5] (by decide) rfl) rfl rfl) rfl hl.1 rfl (Nat.le_of_ble_eq_true rfl) d_MO_splits_29 ⟨Nat.zero_le _, Nat.zero_le _⟩) hP hD hS [0, 1, 2, 3, 4, 5] rfl (fun _ => rfl) (fun u_7 H locs hu_7 hP hS => ?_)
  obtain ⟨bz9_7, N9_7, Ob9_7⟩ := u_7
  have hP : va_P (dC, dI) cls [(o, .inr (7, [.int (nI 0), .int (nI nd), .int (nI ar), .ref fF, .ref fG, .ref fT, .ref fN, .ref fW, .int be, .ref fO, .ref fB, .int (nI bz9_7), .ref fS, .ref fD, .int sz])), (fF, .inl (cI, 41, .inl (nF F))), (fG, .inl (cI, 41, .inl (nF G))), (fT, .inl (cZ, 41, .inl (bF P))), (fN, .inl (cI, 14, .inl N9_7)), (fB, .inl (cI, 41, .inl (nF Ob9_7))), (fS, .inl (cI, 8192, .inl (nF Sp0))), (fD, .inl (cZ, 8192, .inl (bF D0)))] H := hP
  have hD := hD.addr (ws' := [(o, .inr (7, [.int (nI 0), .int (nI nd), .int (nI ar), .ref fF, .ref fG, .ref fT, .ref fN, .ref fW, .int be, .ref fO, .ref fB, .int (nI bz9_7), .ref fS, .ref fD, .int sz])), (fF, .inl (cI, 41, .inl (nF F))), (fG, .inl (cI, 41, .inl (nF G))), (fT, .inl (cZ, 41, .inl (bF P))), (fN, .inl (cI, 14, .inl N9_7)), (fB, .inl (cI, 41, .inl (nF Ob9_7))), (fS, .inl (cI, 8192, .inl (nF Sp0))), (fD, .inl (cZ, 8192, .inl (bF D0)))]) rfl
  dsimp only at hu_7
  have hbn := lb_cn hu_7
  have hb40 := cn_le (fun f => dc (P f = true ∧ abR ar nd P F G x f)) ar
  obtain ⟨q1, hq1, hq1x⟩ := hu_7.2.2.1 x hxa ⟨hPx, Or.inl rfl⟩
  refine lv_iload_n hx hb d_MO_splits_32 rfl (lv_at hl 2 rfl) ?_
  refine lv_if_ne (tgt := 41) hx hb d_MO_splits_33 (by decide) (fun _ => ?_) (fun c9 => absurd c9 (by decide : ¬ ((nI 3) : Int32) = 0))
  refine lv_aload_n hx hb d_MO_splits_41 rfl (lv_at hl 0 rfl) ?_
  refine va_get (D := (dC, dI)) (ci := 7) (v := .int (nI bz9_7)) (C := R_MO) (T := F_MO) (N := 15) hx hb hts in_MO hown hK.1 hP 0 rfl rfl 11 (by decide) (hts _ wfl_MO_132) (fun _ h9 => h9) rfl d_MO_splits_42 ?_
  refine lv_bipush (v := (nI 14)) hx hb d_MO_splits_45 (by decide) ?_
  refine x_cmp_le (a := bz9_7) (b := 14) (tgt := 53) hx hb (by omega) (by omega) d_MO_splits_47 (by decide) (fun c_9 => ?_) (fun c_9 => ?_)
  · skip
    refine lv_aload_n hx hb d_MO_splits_53 rfl (lv_at hl 0 rfl) ?_
    refine x_cv (k_V (n := 0) (C := R_MO) (rest := []) ⟨hx, hb, hml, hown, hts⟩ (c_MO_laySplits l dC dI cI cJ cZ o fF fG fT fN fW fO fB fS fD (nI 0) be sz nd ar bz9_7 F G hF hG Ob9_7 Sp0 D0 (fun k hk => by have := (hu_7.1 k (by omega)).1; omega) (by first | assumption | omega) (by first | assumption | omega)) wml_MO_144 wim_MO_laySplits wsel_MO_laySplits wini_MO wcode_MO_laySplits (by decide +kernel) ⟨Nat.le_of_ble_eq_true rfl, Nat.le_of_ble_eq_true rfl⟩ (preV_M (q := (R_MO, F_MO, 15)) (ci := 7) (q0 := 0) (hP.sub (ws' := [(o, .inr (7, [.int (nI 0), .int (nI nd), .int (nI ar), .ref fF, .ref fG, .ref fT, .ref fN, .ref fW, .int be, .ref fO, .ref fB, .int (nI bz9_7), .ref fS, .ref fD, .int sz])), (fF, .inl (cI, 41, .inl (nF F))), (fG, .inl (cI, 41, .inl (nF G))), (fB, .inl (cI, 41, .inl (nF Ob9_7))), (fS, .inl (cI, 8192, .inl (nF Sp0))), (fD, .inl (cZ, 8192, .inl (bF D0)))]) [0, 1, 2, 5, 6, 7] rfl) hK (hD.sub (ws' := [(o, .inr (7, [.int (nI 0), .int (nI nd), .int (nI ar), .ref fF, .ref fG, .ref fT, .ref fN, .ref fW, .int be, .ref fO, .ref fB, .int (nI bz9_7), .ref fS, .ref fD, .int sz])), (fF, .inl (cI, 41, .inl (nF F))), (fG, .inl (cI, 41, .inl (nF G))), (fB, .inl (cI, 41, .inl (nF Ob9_7))), (fS, .inl (cI, 8192, .inl (nF Sp0))), (fD, .inl (cZ, 8192, .inl (bF D0)))]) [0, 1, 2, 5, 6, 7] (by decide) rfl) rfl rfl) rfl hl.1 rfl (Nat.le_of_ble_eq_true rfl) d_MO_splits_54 ⟨Nat.zero_le _, Nat.zero_le _⟩) hP hD hS [0, 1, 2, 5, 6, 7] rfl (fun _ => rfl) (fun u_10 H locs hu_10 hP hS => ?_)
    obtain ⟨z9_10, Sp9_10, D9_10⟩ := u_10
    have hP : va_P (dC, dI) cls [(o, .inr (7, [.int (nI 0), .int (nI nd), .int (nI ar), .ref fF, .ref fG, .ref fT, .ref fN, .ref fW, .int be, .ref fO, .ref fB, .int (nI bz9_7), .ref fS, .ref fD, .int (nI z9_10)])), (fF, .inl (cI, 41, .inl (nF F))), (fG, .inl (cI, 41, .inl (nF G))), (fT, .inl (cZ, 41, .inl (bF P))), (fN, .inl (cI, 14, .inl N9_7)), (fB, .inl (cI, 41, .inl (nF Ob9_7))), (fS, .inl (cI, 8192, .inl (nF Sp9_10))), (fD, .inl (cZ, 8192, .inl (bF D9_10)))] H := hP
    have hD := hD.addr (ws' := [(o, .inr (7, [.int (nI 0), .int (nI nd), .int (nI ar), .ref fF, .ref fG, .ref fT, .ref fN, .ref fW, .int be, .ref fO, .ref fB, .int (nI bz9_7), .ref fS, .ref fD, .int (nI z9_10)])), (fF, .inl (cI, 41, .inl (nF F))), (fG, .inl (cI, 41, .inl (nF G))), (fT, .inl (cZ, 41, .inl (bF P))), (fN, .inl (cI, 14, .inl N9_7)), (fB, .inl (cI, 41, .inl (nF Ob9_7))), (fS, .inl (cI, 8192, .inl (nF Sp9_10))), (fD, .inl (cZ, 8192, .inl (bF D9_10)))]) rfl
    have hz14 := hu_10.2.2
    have hpz := hpw _ (Nat.lt_succ_of_le (show _ ≤ 14 from by assumption))
    have hsz8 : z9_10 ≤ 8192 := (by omega)
    refine lv_iconst (v := (nI 0)) hx hb d_MO_splits_57 (by decide) ?_
    refine lv_istore_n (lv' := [(3, .int (nI 0)), (0, .ref o), (1, .int (nI x)), (2, .int (nI 3))]) hx hb d_MO_splits_58 rfl hl (by decide) rfl (fun ls hl => ?_)
    refine lv_iload_n hx hb d_MO_splits_59 rfl (lv_at hl 3 rfl) ?_
    refine lv_iconst (v := (nI 1)) hx hb d_MO_splits_60 (by decide) ?_
    refine x_cmp_ne (a := 3) (b := 1) (tgt := 102) hx hb (by omega) (by omega) d_MO_splits_61 (by decide) (fun c_11 => ?_) (fun c_11 => ?_)
    · skip
      refine lv_iconst (v := (-1)) hx hb d_MO_splits_102 (by decide) ?_
      refine lv_istore (lv' := [(4, .int (-1)), (3, .int (nI 0)), (0, .ref o), (1, .int (nI x)), (2, .int (nI 3))]) hx hb d_MO_splits_103 hl (by decide) rfl (fun ls hl => ?_)
      refine lv_iconst (v := (nI 0)) hx hb d_MO_splits_105 (by decide) ?_
      refine lv_istore (lv' := [(5, .int (nI 0)), (4, .int (-1)), (3, .int (nI 0)), (0, .ref o), (1, .int (nI x)), (2, .int (nI 3))]) hx hb d_MO_splits_106 hl (by decide) rfl (fun ls hl => ?_)
      have L108_12 : ∀ (n : Nat) (q : Nat) (lw : Int32) (i : Nat) (hn : bz9_7 - i < n) (hi : i ≤ bz9_7) (hq : q = cn (fun k => dc ((tgR Sp9_10 D9_10 z9_10 q1) k)) i) (hlw : lwI (tgR Sp9_10 D9_10 z9_10 q1) Ob9_7 lw i) (ls : Array Slot) (hl : lv_has ls 7 [(0, .ref o), (1, .int (nI x)), (2, .int (nI 3)), (3, .int (nI q)), (4, .int lw), (5, .int (nI i))]), W p l e (headSpec (Cond.code ⟨"CutPointsModel", "splits", "(II)I"⟩ prog_9_method_49_code 7 (some .int) :: TT) (rmk 3 74)).room s m ([.ref o, .int (nI x), .int (nI 3)] : List Value).toArray below meth c H locs 0 0 (MQ below (va_Qi (S := Nat × Nat × (Nat → Int32) × (Nat → Nat) × (Nat → Nat) × (Nat → Bool)) (fun r u9 => (lbI (fun f => P f = true ∧ abR ar nd P F G x f) u9.2.2.2.1 u9.1 ar ∧ u9.1 ≤ 14 ∧ lbI (spQ F G u9.2.2.2.1 u9.1) u9.2.2.2.2.1 u9.2.1 (2 ^ u9.1 - 1) ∧ gdO u9.1 u9.2.2.2.2.1 u9.2.2.2.2.2 u9.2.1 u9.2.1) ∧ ∃ q1, q1 < u9.1 ∧ u9.2.2.2.1 q1 = x ∧ lwI (tgR u9.2.2.2.2.1 u9.2.2.2.2.2 u9.2.1 q1) u9.2.2.2.1 r u9.1) (fun u9 t9 => va_P (dC, dI) cls ([(o, .inr (7, [.int (nI 0), .int (nI nd), .int (nI ar), .ref fF, .ref fG, .ref fT, .ref fN, .ref fW, .int be, .ref fO, .ref fB, .int (nI u9.1), .ref fS, .ref fD, .int (nI u9.2.1)])), (fF, .inl (cI, 41, .inl (nF F))), (fG, .inl (cI, 41, .inl (nF G))), (fT, .inl (cZ, 41, .inl (bF P))), (fN, .inl (cI, 14, .inl u9.2.2.1)), (fB, .inl (cI, 41, .inl (nF u9.2.2.2.1))), (fS, .inl (cI, 8192, .inl (nF u9.2.2.2.2.1))), (fD, .inl (cZ, 8192, .inl (bF u9.2.2.2.2.2)))]) t9.heap) (ow [(o, .inr (7, [.int th, .int (nI nd), .int (nI ar), .ref fF, .ref fG, .ref fT, .ref fN, .ref fW, .int be, .ref fO, .ref fB, .int bz, .ref fS, .ref fD, .int sz])), (fF, .inl (cI, 41, .inl (nF F))), (fG, .inl (cI, 41, .inl (nF G))), (fT, .inl (cZ, 41, .inl (bF P))), (fN, .inl (cI, 14, .inl N0)), (fB, .inl (cI, 41, .inl (nF Ob0))), (fS, .inl (cI, 8192, .inl (nF Sp0))), (fD, .inl (cZ, 8192, .inl (bF D0)))])) ([.ref o, .int (nI x), .int (nI 3)] : List Value).toArray s 0 0 (ow [(o, .inr (7, [.int th, .int (nI nd), .int (nI ar), .ref fF, .ref fG, .ref fT, .ref fN, .ref fW, .int be, .ref fO, .ref fB, .int bz, .ref fS, .ref fD, .int sz])), (fF, .inl (cI, 41, .inl (nF F))), (fG, .inl (cI, 41, .inl (nF G))), (fT, .inl (cZ, 41, .inl (bF P))), (fN, .inl (cI, 14, .inl N0)), (fB, .inl (cI, 41, .inl (nF Ob0))), (fS, .inl (cI, 8192, .inl (nF Sp0))), (fD, .inl (cZ, 8192, .inl (bF D0)))])) (F0 m 108 ls []) := by
        intro n_108
        induction n_108 with
        | zero =>
          intro q lw i hn_108
          exact absurd hn_108 (Nat.not_lt_zero _)
        | succ n_108 ih_108 =>
          intro q lw i hn_108 hi hq hlw ls hl
          refine lv_iload hx hb d_MO_splits_108 (lv_at hl 5 rfl) ?_
          refine lv_aload_n hx hb d_MO_splits_110 rfl (lv_at hl 0 rfl) ?_
          refine va_get (D := (dC, dI)) (ci := 7) (v := .int (nI bz9_7)) (C := R_MO) (T := F_MO) (N := 15) hx hb hts in_MO hown hK.1 hP 0 rfl rfl 11 (by decide) (hts _ wfl_MO_132) (fun _ h9 => h9) rfl d_MO_splits_111 ?_
          refine x_cmp_ge (a := i) (b := bz9_7) (tgt := 174) hx hb (by omega) (by omega) d_MO_splits_114 (by decide) (fun c_13 => ?_) (fun c_13 => ?_)
          · skip
            refine lv_iload_n hx hb d_MO_splits_174 rfl (lv_at hl 2 rfl) ?_
            refine lv_iconst (v := (nI 2)) hx hb d_MO_splits_175 (by decide) ?_
            refine x_cmp_ne (a := 3) (b := 2) (tgt := 183) hx hb (by omega) (by omega) d_MO_splits_176 (by decide) (fun c_14 => ?_) (fun c_14 => ?_)
            · skip
              refine lv_iload hx hb d_MO_splits_183 (lv_at hl 4 rfl) ?_
              exact W.iret (v := lw) hx hb hr (fun t9 ht9 _ => ⟨⟨_, (bz9_7, z9_10, N9_7, Ob9_7, Sp9_10, D9_10), rfl, ⟨⟨hu_7, by omega, hu_10.1, hu_10.2.1⟩, q1, hq1, hq1x, by have e9 : i = bz9_7 := (by omega); rw [← e9]; exact hlw⟩, by show va_P (dC, dI) cls _ t9.heap; rw [ht9]; exact hP⟩, hS.F ht9⟩) hS.2.2 d_MO_splits_185
            · skip
              omega
          · skip
            refine lv_aload_n hx hb d_MO_splits_117 rfl (lv_at hl 0 rfl) ?_
            refine lv_aload_n hx hb d_MO_splits_118 rfl (lv_at hl 0 rfl) ?_
            refine lv_iload_n hx hb d_MO_splits_119 rfl (lv_at hl 1 rfl) ?_
            refine vp_callSi (va_Run.run (k_V (n := 1) (C := R_MO) (rest := [.ref o]) ⟨hx, hb, hml, hown, hts⟩ (c_MO_placeOf l dC dI cI cJ cZ o fF fG fT fN fW fO fB fS fD (nI 0) be (nI bz9_7) (nI z9_10) nd ar Ob9_7 q1 x (by first | assumption | omega) hq1x (fun k hk => by have := (hu_7.1 k (by omega)).1; omega)) wml_MO_147 wim_MO_placeOf wsel_MO_placeOf wini_MO wcode_MO_placeOf (by decide +kernel) ⟨Nat.le_of_ble_eq_true rfl, Nat.le_of_ble_eq_true rfl⟩ (preV_R (q := (R_MO, F_MO, 15)) (ci := 7) (q0 := 0) (hP.sub (ws' := [(o, .inr (7, [.int (nI 0), .int (nI nd), .int (nI ar), .ref fF, .ref fG, .ref fT, .ref fN, .ref fW, .int be, .ref fO, .ref fB, .int (nI bz9_7), .ref fS, .ref fD, .int (nI z9_10)])), (fB, .inl (cI, 41, .inl (nF Ob9_7)))]) [0, 5] rfl) hK rfl rfl) rfl hl.1 rfl (Nat.le_of_ble_eq_true rfl) d_MO_splits_120 ⟨Nat.zero_le _, Nat.zero_le _⟩)) (fun r_15 hr_16 => ?_)
            obtain ⟨kx_17, ek_17, hk_17⟩ := hr_16
            refine xe_i (y := (nI kx_17)) ek_17 ?_
            refine xe_i (y := (nI q1)) (by rw [lb_inj hu_7 hq1 hq1x hk_17.1 hk_17.2.1]) ?_
            refine lv_iload hx hb d_MO_splits_123 (lv_at hl 5 rfl) ?_
            refine vp_callSi (va_Run.run (k_V (n := 2) (C := R_MO) (rest := []) ⟨hx, hb, hml, hown, hts⟩ (c_MO_areTogether l dC dI cI cJ cZ o fF fG fT fN fW fO fB fS fD (nI 0) be (nI bz9_7) nd ar z9_10 Sp9_10 D9_10 hsz8 q1 i (by first | assumption | omega) (by first | assumption | omega)) wml_MO_150 wim_MO_areTogether wsel_MO_areTogether wini_MO wcode_MO_areTogether (by decide +kernel) ⟨Nat.le_of_ble_eq_true rfl, Nat.le_of_ble_eq_true rfl⟩ (preV_R (q := (R_MO, F_MO, 15)) (ci := 7) (q0 := 0) (hP.sub (ws' := [(o, .inr (7, [.int (nI 0), .int (nI nd), .int (nI ar), .ref fF, .ref fG, .ref fT, .ref fN, .ref fW, .int be, .ref fO, .ref fB, .int (nI bz9_7), .ref fS, .ref fD, .int (nI z9_10)])), (fS, .inl (cI, 8192, .inl (nF Sp9_10))), (fD, .inl (cZ, 8192, .inl (bF D9_10)))]) [0, 6, 7] rfl) hK rfl rfl) rfl hl.1 rfl (Nat.le_of_ble_eq_true rfl) d_MO_splits_125 ⟨Nat.zero_le _, Nat.zero_le _⟩)) (fun r_18 hr_19 => ?_)
            refine xe_i (y := (bI (dc (tgR Sp9_10 D9_10 z9_10 q1 i)))) hr_19 ?_
            refine lv_istore (lv' := [(6, .int (bI (dc (tgR Sp9_10 D9_10 z9_10 q1 i)))), (0, .ref o), (1, .int (nI x)), (2, .int (nI 3)), (3, .int (nI q)), (4, .int lw), (5, .int (nI i))]) hx hb d_MO_splits_128 hl (by decide) rfl (fun ls hl => ?_)
            refine lv_iload_n hx hb d_MO_splits_130 rfl (lv_at hl 4 rfl) ?_
            refine lv_iload hx hb d_MO_splits_131 (lv_at hl 0 rfl) ?_
            refine x_if_eq (tgt := 140) hx hb d_MO_splits_133 (by decide) (fun c_20 => ?_) (fun c_20 => ?_)
            · skip
              refine lv_iconst (v := (nI 0)) hx hb d_MO_splits_140 (by decide) ?_
              refine lv_iadd hx hb d_MO_splits_141 ?_
              refine xe_i (nI_add _ _) ?_
              refine lv_istore_n (lv' := [(3, .int (nI (q + 0))), (6, .int (bI (dc (tgR Sp9_10 D9_10 z9_10 q1 i)))), (0, .ref o), (1, .int (nI x)), (2, .int (nI 3)), (4, .int lw), (5, .int (nI i))]) hx hb d_MO_splits_142 rfl hl (by decide) rfl (fun ls hl => ?_)
              refine lv_iload hx hb d_MO_splits_143 (lv_at hl 1 rfl) ?_
              refine x_if_eq (tgt := 164) hx hb d_MO_splits_145 (by decide) (fun c_21 => ?_) (fun c_21 => ?_)
              · skip
                refine lv_iload hx hb d_MO_splits_164 (lv_at hl 5 rfl) ?_
                refine lv_istore (lv' := [(4, .int lw), (3, .int (nI (q + 0))), (6, .int (bI (dc (tgR Sp9_10 D9_10 z9_10 q1 i)))), (0, .ref o), (1, .int (nI x)), (2, .int (nI 3)), (5, .int (nI i))]) hx hb d_MO_splits_166 hl (by decide) rfl (fun ls hl => ?_)
                refine lv_iinc (v := (nI (i + 1))) (lv' := [(5, .int (nI (i + 1))), (4, .int lw), (3, .int (nI (q + 0))), (6, .int (bI (dc (tgR Sp9_10 D9_10 z9_10 q1 i)))), (0, .ref o), (1, .int (nI x)), (2, .int (nI 3))]) hx hb d_MO_splits_168 hl (k := 6) rfl (nI_1 _) (by decide) rfl (fun ls hl => ?_)
                refine lv_goto (tgt := 108) hx hb d_MO_splits_171 (by decide) ?_
                exact ih_108 (q + 0) lw (i + 1) (by omega) (by first | assumption | omega) (show q + 0 = _ from cn_f hq c_20) (lwI_f hlw (dc_f.mp c_21)) ls (lv_sub hl [4, 5, 6, 2, 1, 0] rfl)
              · skip
                rw [c_20] at c_21; cases c_21
            · skip
              refine lv_iconst (v := (nI 1)) hx hb d_MO_splits_136 (by decide) ?_
              refine lv_goto (tgt := 141) hx hb d_MO_splits_137 (by decide) ?_
              refine lv_iadd hx hb d_MO_splits_141 ?_
              refine xe_i (nI_add _ _) ?_
              refine lv_istore_n (lv' := [(3, .int (nI (q + 1))), (6, .int (bI (dc (tgR Sp9_10 D9_10 z9_10 q1 i)))), (0, .ref o), (1, .int (nI x)), (2, .int (nI 3)), (4, .int lw), (5, .int (nI i))]) hx hb d_MO_splits_142 rfl hl (by decide) rfl (fun ls hl => ?_)
              refine lv_iload hx hb d_MO_splits_143 (lv_at hl 1 rfl) ?_
              refine x_if_eq (tgt := 164) hx hb d_MO_splits_145 (by decide) (fun c_22 => ?_) (fun c_22 => ?_)
              · skip
                rw [c_20] at c_22; cases c_22
              · skip
                refine lv_iload hx hb d_MO_splits_148 (lv_at hl 5 rfl) ?_
                refine lv_iconst (v := (-1)) hx hb d_MO_splits_150 (by decide) ?_
                refine lv_icmp_ne (tgt := 164) hx hb d_MO_splits_151 (by decide) (fun c_23 => ?_) (fun c_23 => ?_)
                · skip
                  refine lv_iload hx hb d_MO_splits_164 (lv_at hl 5 rfl) ?_
                  refine lv_istore (lv' := [(4, .int lw), (3, .int (nI (q + 1))), (6, .int (bI (dc (tgR Sp9_10 D9_10 z9_10 q1 i)))), (0, .ref o), (1, .int (nI x)), (2, .int (nI 3)), (5, .int (nI i))]) hx hb d_MO_splits_166 hl (by decide) rfl (fun ls hl => ?_)
                  refine lv_iinc (v := (nI (i + 1))) (lv' := [(5, .int (nI (i + 1))), (4, .int lw), (3, .int (nI (q + 1))), (6, .int (bI (dc (tgR Sp9_10 D9_10 z9_10 q1 i)))), (0, .ref o), (1, .int (nI x)), (2, .int (nI 3))]) hx hb d_MO_splits_168 hl (k := 6) rfl (nI_1 _) (by decide) rfl (fun ls hl => ?_)
                  refine lv_goto (tgt := 108) hx hb d_MO_splits_171 (by decide) ?_
                  exact ih_108 (q + 1) lw (i + 1) (by omega) (by first | assumption | omega) (cn_t hq c_20) (lwI_k hlw c_23) ls (lv_sub hl [4, 5, 6, 2, 1, 0] rfl)
                · skip
                  refine lv_aload_n hx hb d_MO_splits_154 rfl (lv_at hl 2 rfl) ?_
                  refine va_get (D := (dC, dI)) (ci := 7) (v := .ref fB) (C := R_MO) (T := F_MO) (N := 15) hx hb hts in_MO hown hK.1 hP 0 rfl rfl 10 (by decide) (hts _ wfl_MO_29) (fun _ h9 => h9) rfl d_MO_splits_155 ?_
                  refine lv_iload hx hb d_MO_splits_158 (lv_at hl 6 rfl) ?_
                  refine x_iald (n := 41) (f := (nF Ob9_7)) (j := i) hx hb hK.1 hP 5 0 rfl rfl (by omega) (by omega) d_MO_splits_160 ?_
                  refine xe_i (y := (nI (Ob9_7 i))) rfl ?_
                  refine lv_goto (tgt := 166) hx hb d_MO_splits_161 (by decide) ?_
                  refine lv_istore (lv' := [(4, .int (nI (Ob9_7 i))), (3, .int (nI (q + 1))), (6, .int (bI (dc (tgR Sp9_10 D9_10 z9_10 q1 i)))), (0, .ref o), (1, .int (nI x)), (2, .int (nI 3)), (5, .int (nI i))]) hx hb d_MO_splits_166 hl (by decide) rfl (fun ls hl => ?_)
                  refine lv_iinc (v := (nI (i + 1))) (lv' := [(5, .int (nI (i + 1))), (4, .int (nI (Ob9_7 i))), (3, .int (nI (q + 1))), (6, .int (bI (dc (tgR Sp9_10 D9_10 z9_10 q1 i)))), (0, .ref o), (1, .int (nI x)), (2, .int (nI 3))]) hx hb d_MO_splits_168 hl (k := 6) rfl (nI_1 _) (by decide) rfl (fun ls hl => ?_)
                  refine lv_goto (tgt := 108) hx hb d_MO_splits_171 (by decide) ?_
                  exact ih_108 (q + 1) (nI (Ob9_7 i)) (i + 1) (by omega) (by first | assumption | omega) (cn_t hq c_20) (lwI_t hlw (fun k hk => by have := (hu_7.1 k (by omega)).1; omega) (dc_t.mp c_22) c_23) ls (lv_sub hl [4, 5, 6, 2, 1, 0] rfl)
      exact L108_12 ((bz9_7 - 0) + 1) 0 (-1) 0 (Nat.lt_succ_self _) (by first | assumption | omega) rfl lwI_0 ls (lv_sub hl [3, 4, 5, 2, 1, 0] rfl)
    · skip
      omega
  · skip
    omega
