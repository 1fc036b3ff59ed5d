set_option maxHeartbeats 4000000 in
set_option maxRecDepth 100000 in
theorem c_CP_between_n (l : Launch) (dC : Nat → ClassId) (dI : Nat → Nat → Nat) (cI cJ cZ : ClassId) (cp g k k2 fl co sp : Nat) (a1 a2 nd ar : Nat) (pr : Int64) (F G : Nat → Nat) (hGA : GAR F G nd ar pr) (nr fr rs at_ h : Nat) (al : Int32) (br : Int64) (N Fm : Nat → Int32) (A : Nat → Int64) (b1 z : Nat) (Se : Nat → Int64) (hSK : SKI (lb pr) F G nd N Fm A Se z al br) (a b : Nat) (ha : a < nd) (hb_ : b < nd) (hab : a ≠ b) (hnp : ¬ Rc (rE N al) a b) : Met l ⟨"CutPoints", "between", "(II)I"⟩ (Cond.code ⟨"CutPoints", "between", "(II)I"⟩ prog_1_method_15_code 4 (some .int) :: TT) (rmk 3 69) (PR dC dI cI cJ cZ [.ref cp, .int (nI a), .int (nI b)] [(cp, .inr (0, [.ref g, .ref k, .ref k2, .ref fl, .ref co, .ref sp])), (g, .inr (1, [.ref a1, .ref a2, .int (nI nd), .int (nI ar), .long pr])), (k, .inr (2, [.ref nr, .ref fr, .ref rs, .ref at_, .ref h, .int al, .long br])), (nr, .inl (cI, 14, .inl N))]) (vp_Si (fun r => r = -3)) 0 0 (fun _ => False) := by
  refine Met.ofW (cc := prog_1_method_15_code) (maxL := 4) (ret := (some .int)) (by decide) rfl ?_
  intro p e s m args below meth c s₁ BB9 hml hv
  obtain ⟨rfl, hP, hK⟩ := hv
  have hx := BB9.exec
  have hb := BB9.bytes
  have hr := BB9.returns
  have hts : ∀ w ∈ TT, w.before _ s = true := fun w h => atoms_spec (ws := (Cond.code ⟨"CutPoints", "between", "(II)I"⟩ prog_1_method_15_code 4 (some .int) :: TT)) BB9.pre w (List.mem_cons_of_mem _ h)
  have hown : s.vm.findClass "CutPoints" = some m.cls := findClass_of_methodNamed BB9.named
  have hlocks := BB9.notSynchronized
  have hnd14 := hGA.1
  have har40 := hGA.2.1
  have hl := lv_entry ([.ref cp, .int (nI a), .int (nI b)]) (n := 4) (Nat.le_of_ble_eq_true rfl)
  rw [lg_entry_eq]
  generalize (lg_sl ([.ref cp, .int (nI a), .int (nI b)]) ++ List.replicate (4 - (lg_sl ([.ref cp, .int (nI a), .int (nI b)])).length) Slot.unset).toArray = ls at hl ⊢
  have hl : lv_has ls 4 [(0, .ref cp), (1, .int (nI a)), (2, .int (nI b))] := hl
  refine lv_aload_n hx hb d_CP_between_0 rfl (lv_at hl 0 rfl) ?_
  refine lv_iload_n hx hb d_CP_between_1 rfl (lv_at hl 1 rfl) ?_
  refine lv_iload_n hx hb d_CP_between_2 rfl (lv_at hl 2 rfl) ?_
  refine vp_callSi (va_Run.run (k_V (n := 2) (C := R_CP) (rest := []) ⟨hx, hb, hml, hown, hts⟩ (c_CP_pairCode l dC dI cI cJ cZ cp g k k2 fl co sp a1 a2 nd ar pr (nI a) (nI b) (by first | assumption | omega)) wml_CP_61 wim_CP_pairCode wsel_CP_pairCode wini_CP wcode_CP_pairCode (by decide +kernel) ⟨Nat.le_of_ble_eq_true rfl, Nat.le_of_ble_eq_true rfl⟩ (preV_R (q := (R_CP, F_CP, 6)) (ci := 0) (q0 := 0) (hP.sub (ws' := [(cp, .inr (0, [.ref g, .ref k, .ref k2, .ref fl, .ref co, .ref sp])), (g, .inr (1, [.ref a1, .ref a2, .int (nI nd), .int (nI ar), .long pr]))]) [0, 1] rfl) hK rfl rfl) rfl hl.1 rfl (Nat.le_of_ble_eq_true rfl) d_CP_between_3 ⟨Nat.zero_le _, Nat.zero_le _⟩)) (fun r_1 hr_2 => ?_)
  refine xe_i (y := (pcd (nI a) (nI b) nd)) hr_2 ?_
  refine xe_i (y := (nI 0)) (pcd_ok hnd14 ha hb_ hab) ?_
  refine lv_istore_n (lv' := [(3, .int (nI 0)), (0, .ref cp), (1, .int (nI a)), (2, .int (nI b))]) hx hb d_CP_between_6 rfl hl (by decide) rfl (fun ls hl => ?_)
  refine lv_iload_n hx hb d_CP_between_7 rfl (lv_at hl 0 rfl) ?_
  refine lv_if_eq (tgt := 13) hx hb d_CP_between_8 (by decide) (fun _ => ?_) (fun c9 => absurd (by decide : ((nI 0) : Int32) = 0) c9)
  refine lv_aload_n hx hb d_CP_between_13 rfl (lv_at hl 1 rfl) ?_
  refine va_get (D := (dC, dI)) (ci := 0) (v := .ref k) (C := R_CP) (T := F_CP) (N := 6) hx hb hts in_CP hown hK.1 hP 0 rfl rfl 1 (by decide) (hts _ wfl_CP_19) (fun _ h9 => h9) rfl d_CP_between_14 ?_
  refine lv_iload_n hx hb d_CP_between_17 rfl (lv_at hl 2 rfl) ?_
  refine vp_callSi (va_Run.run (k_V (n := 1) (C := R_SK) (rest := []) ⟨hx, hb, hml, hown, hts⟩ (c_SK_partOf l dC dI cI cJ cZ k nr fr rs at_ h al br N (hSK.rw N) a (by first | assumption | omega)) wml_CP_118 wim_SK_partOf wsel_SK_partOf wini_SK wcode_SK_partOf (by decide +kernel) ⟨Nat.le_of_ble_eq_true rfl, Nat.le_of_ble_eq_true rfl⟩ (preV_R (q := (R_SK, F_SK, 7)) (ci := 2) (q0 := 0) (hP.sub (ws' := [(k, .inr (2, [.ref nr, .ref fr, .ref rs, .ref at_, .ref h, .int al, .long br])), (nr, .inl (cI, 14, .inl N))]) [2, 3] rfl) hK rfl rfl) rfl hl.1 rfl (Nat.le_of_ble_eq_true rfl) d_CP_between_18 ⟨Nat.zero_le _, Nat.zero_le _⟩)) (fun r_4 hr_5 => ?_)
  refine lv_i2l (v := r_4.toInt64) hx hb d_CP_between_21 rfl ?_
  refine lv_iload_n hx hb d_CP_between_22 rfl (lv_at hl 3 rfl) ?_
  refine vp_callSi (va_Run.run (k_S (n := 2) (rest := []) ⟨hx, hb, hml, hown, hts⟩ (c_CP_hasBit l dC dI cI cJ cZ r_4.toInt64 b (by first | assumption | omega)) wml_CP_124 wst_CP_hasBit wini_CP wcode_CP_hasBit (by decide +kernel) ⟨Nat.le_of_ble_eq_true rfl, Nat.le_of_ble_eq_true rfl⟩ (pre_R (hP.sub (ws' := []) [] rfl) hK) rfl hl.1 rfl (Nat.le_of_ble_eq_true rfl) d_CP_between_23 ⟨Nat.zero_le _, Nat.zero_le _⟩)) (fun r_6 hr_7 => ?_)
  refine xe_i (y := (bI (lb r_4.toInt64 b))) hr_7 ?_
  refine xe_i (y := (bI (bt r_4 b))) (by rw [lb_i2l _ (by omega)]) ?_
  refine x_if_ne (tgt := 32) hx hb d_CP_between_26 (by decide) (fun c_8 => ?_) (fun c_8 => ?_)
  · skip
    rw [bts_f hr_5 hnp] at c_8; cases c_8
  · skip
    refine lv_bipush (v := (-3)) hx hb d_CP_between_29 (by decide) ?_
    exact W.iret (v := (-3)) hx hb hr (fun t9 ht9 _ => ⟨_, rfl, rfl, ht9⟩) t_nil d_CP_between_31

set_option maxHeartbeats 4000000 in
set_option maxRecDepth 100000 in
theorem c_CP_between_k (l : Launch) (dC : Nat → ClassId) (dI : Nat → Nat → Nat) (cI cJ cZ : ClassId) (cp g k k2 fl co sp : Nat) (a1 a2 nd ar : Nat) (pr : Int64) (F G : Nat → Nat) (hGA : GAR F G nd ar pr) (nr fr rs at_ h : Nat) (al : Int32) (br : Int64) (N Fm : Nat → Int32) (A : Nat → Int64) (b1 z : Nat) (Se : Nat → Int64) (hSK : SKI (lb pr) F G nd N Fm A Se z al br) (a b : Nat) (ha : a < nd) (hb_ : b < nd) (hab : a ≠ b) (hnp : Rc (rE N al) a b) : Met l ⟨"CutPoints", "between", "(II)I"⟩ (Cond.code ⟨"CutPoints", "between", "(II)I"⟩ prog_1_method_15_code 4 (some .int) :: TT) (rmk 3 73) (PR dC dI cI cJ cZ [.ref cp, .int (nI a), .int (nI b)] [(cp, .inr (0, [.ref g, .ref k, .ref k2, .ref fl, .ref co, .ref sp])), (g, .inr (1, [.ref a1, .ref a2, .int (nI nd), .int (nI ar), .long pr])), (k, .inr (2, [.ref nr, .ref fr, .ref rs, .ref at_, .ref h, .int al, .long br])), (nr, .inl (cI, 14, .inl N))]) (vp_Si (fun r => r = nI (cn (btwB N al a b) 14))) 0 0 (fun _ => False) := by
  refine Met.ofW (cc := prog_1_method_15_code) (maxL := 4) (ret := (some .int)) (by decide) rfl ?_
  intro p e s m args below meth c s₁ BB9 hml hv
  obtain ⟨rfl, hP, hK⟩ := hv
  have hx := BB9.exec
  have hb := BB9.bytes
  have hr := BB9.returns
  have hts : ∀ w ∈ TT, w.before _ s = true := fun w h => atoms_spec (ws := (Cond.code ⟨"CutPoints", "between", "(II)I"⟩ prog_1_method_15_code 4 (some .int) :: TT)) BB9.pre w (List.mem_cons_of_mem _ h)
  have hown : s.vm.findClass "CutPoints" = some m.cls := findClass_of_methodNamed BB9.named
  have hlocks := BB9.notSynchronized
  have hnd14 := hGA.1
  have har40 := hGA.2.1
  have hl := lv_entry ([.ref cp, .int (nI a), .int (nI b)]) (n := 4) (Nat.le_of_ble_eq_true rfl)
  rw [lg_entry_eq]
  generalize (lg_sl ([.ref cp, .int (nI a), .int (nI b)]) ++ List.replicate (4 - (lg_sl ([.ref cp, .int (nI a), .int (nI b)])).length) Slot.unset).toArray = ls at hl ⊢
  have hl : lv_has ls 4 [(0, .ref cp), (1, .int (nI a)), (2, .int (nI b))] := hl
  refine lv_aload_n hx hb d_CP_between_0 rfl (lv_at hl 0 rfl) ?_
  refine lv_iload_n hx hb d_CP_between_1 rfl (lv_at hl 1 rfl) ?_
  refine lv_iload_n hx hb d_CP_between_2 rfl (lv_at hl 2 rfl) ?_
  refine vp_callSi (va_Run.run (k_V (n := 2) (C := R_CP) (rest := []) ⟨hx, hb, hml, hown, hts⟩ (c_CP_pairCode l dC dI cI cJ cZ cp g k k2 fl co sp a1 a2 nd ar pr (nI a) (nI b) (by first | assumption | omega)) wml_CP_61 wim_CP_pairCode wsel_CP_pairCode wini_CP wcode_CP_pairCode (by decide +kernel) ⟨Nat.le_of_ble_eq_true rfl, Nat.le_of_ble_eq_true rfl⟩ (preV_R (q := (R_CP, F_CP, 6)) (ci := 0) (q0 := 0) (hP.sub (ws' := [(cp, .inr (0, [.ref g, .ref k, .ref k2, .ref fl, .ref co, .ref sp])), (g, .inr (1, [.ref a1, .ref a2, .int (nI nd), .int (nI ar), .long pr]))]) [0, 1] rfl) hK rfl rfl) rfl hl.1 rfl (Nat.le_of_ble_eq_true rfl) d_CP_between_3 ⟨Nat.zero_le _, Nat.zero_le _⟩)) (fun r_1 hr_2 => ?_)
  refine xe_i (y := (pcd (nI a) (nI b) nd)) hr_2 ?_
  refine xe_i (y := (nI 0)) (pcd_ok hnd14 ha hb_ hab) ?_
  refine lv_istore_n (lv' := [(3, .int (nI 0)), (0, .ref cp), (1, .int (nI a)), (2, .int (nI b))]) hx hb d_CP_between_6 rfl hl (by decide) rfl (fun ls hl => ?_)
  refine lv_iload_n hx hb d_CP_between_7 rfl (lv_at hl 0 rfl) ?_
  refine lv_if_eq (tgt := 13) hx hb d_CP_between_8 (by decide) (fun _ => ?_) (fun c9 => absurd (by decide : ((nI 0) : Int32) = 0) c9)
  refine lv_aload_n hx hb d_CP_between_13 rfl (lv_at hl 1 rfl) ?_
  refine va_get (D := (dC, dI)) (ci := 0) (v := .ref k) (C := R_CP) (T := F_CP) (N := 6) hx hb hts in_CP hown hK.1 hP 0 rfl rfl 1 (by decide) (hts _ wfl_CP_19) (fun _ h9 => h9) rfl d_CP_between_14 ?_
  refine lv_iload_n hx hb d_CP_between_17 rfl (lv_at hl 2 rfl) ?_
  refine vp_callSi (va_Run.run (k_V (n := 1) (C := R_SK) (rest := []) ⟨hx, hb, hml, hown, hts⟩ (c_SK_partOf l dC dI cI cJ cZ k nr fr rs at_ h al br N (hSK.rw N) a (by first | assumption | omega)) wml_CP_118 wim_SK_partOf wsel_SK_partOf wini_SK wcode_SK_partOf (by decide +kernel) ⟨Nat.le_of_ble_eq_true rfl, Nat.le_of_ble_eq_true rfl⟩ (preV_R (q := (R_SK, F_SK, 7)) (ci := 2) (q0 := 0) (hP.sub (ws' := [(k, .inr (2, [.ref nr, .ref fr, .ref rs, .ref at_, .ref h, .int al, .long br])), (nr, .inl (cI, 14, .inl N))]) [2, 3] rfl) hK rfl rfl) rfl hl.1 rfl (Nat.le_of_ble_eq_true rfl) d_CP_between_18 ⟨Nat.zero_le _, Nat.zero_le _⟩)) (fun r_4 hr_5 => ?_)
  refine lv_i2l (v := r_4.toInt64) hx hb d_CP_between_21 rfl ?_
  refine lv_iload_n hx hb d_CP_between_22 rfl (lv_at hl 3 rfl) ?_
  refine vp_callSi (va_Run.run (k_S (n := 2) (rest := []) ⟨hx, hb, hml, hown, hts⟩ (c_CP_hasBit l dC dI cI cJ cZ r_4.toInt64 b (by first | assumption | omega)) wml_CP_124 wst_CP_hasBit wini_CP wcode_CP_hasBit (by decide +kernel) ⟨Nat.le_of_ble_eq_true rfl, Nat.le_of_ble_eq_true rfl⟩ (pre_R (hP.sub (ws' := []) [] rfl) hK) rfl hl.1 rfl (Nat.le_of_ble_eq_true rfl) d_CP_between_23 ⟨Nat.zero_le _, Nat.zero_le _⟩)) (fun r_6 hr_7 => ?_)
  refine xe_i (y := (bI (lb r_4.toInt64 b))) hr_7 ?_
  refine xe_i (y := (bI (bt r_4 b))) (by rw [lb_i2l _ (by omega)]) ?_
  refine x_if_ne (tgt := 32) hx hb d_CP_between_26 (by decide) (fun c_8 => ?_) (fun c_8 => ?_)
  · skip
    refine lv_aload_n hx hb d_CP_between_32 rfl (lv_at hl 1 rfl) ?_
    refine va_get (D := (dC, dI)) (ci := 0) (v := .ref k) (C := R_CP) (T := F_CP) (N := 6) hx hb hts in_CP hown hK.1 hP 0 rfl rfl 1 (by decide) (hts _ wfl_CP_19) (fun _ h9 => h9) rfl d_CP_between_33 ?_
    refine lv_iload_n hx hb d_CP_between_36 rfl (lv_at hl 2 rfl) ?_
    refine lv_iload_n hx hb d_CP_between_37 rfl (lv_at hl 3 rfl) ?_
    refine vp_callSi (va_Run.run (k_V (n := 2) (C := R_SK) (rest := []) ⟨hx, hb, hml, hown, hts⟩ (c_SK_countBetween l dC dI cI cJ cZ k nr fr rs at_ h al br N hSK.r14 a b (by first | assumption | omega) (by first | assumption | omega)) wml_CP_161 wim_SK_countBetween wsel_SK_countBetween wini_SK wcode_SK_countBetween (by decide +kernel) ⟨Nat.le_of_ble_eq_true rfl, Nat.le_of_ble_eq_true rfl⟩ (preV_R (q := (R_SK, F_SK, 7)) (ci := 2) (q0 := 0) (hP.sub (ws' := [(k, .inr (2, [.ref nr, .ref fr, .ref rs, .ref at_, .ref h, .int al, .long br])), (nr, .inl (cI, 14, .inl N))]) [2, 3] rfl) hK rfl rfl) rfl hl.1 rfl (Nat.le_of_ble_eq_true rfl) d_CP_between_38 ⟨Nat.zero_le _, Nat.zero_le _⟩)) (fun r_9 hr_10 => ?_)
    refine xe_i (y := (nI (cn (btwB N al a b) 14))) hr_10 ?_
    exact W.iret (v := (nI (cn (btwB N al a b) 14))) hx hb hr (fun t9 ht9 _ => ⟨_, rfl, rfl, ht9⟩) t_nil d_CP_between_41
  · skip
    rw [bts_t hr_5 hnp] at c_8; cases c_8

theorem need_lt (Fm : Nat → Int32) (al : Int32) (A : Nat → Int64) (br : Int64) : need Fm al A br < 2 ^ 31 := by
  have := sm_le (wnt_le Fm al A br) 14
  unfold need
  split <;> omega
set_option maxHeartbeats 4000000 in
set_option maxRecDepth 100000 in
theorem c_CP_mends_k (l : Launch) (dC : Nat → ClassId) (dI : Nat → Nat → Nat) (cI cJ cZ : ClassId) (cp g k k2 fl co sp : Nat) (a1 a2 nd ar : Nat) (pr : Int64) (F G : Nat → Nat) (hGA : GAR F G nd ar pr) (nr fr rs at_ h : Nat) (al : Int32) (br : Int64) (N Fm : Nat → Int32) (A : Nat → Int64) (b1 z : Nat) (Se : Nat → Int64) (hSK : SKI (lb pr) F G nd N Fm A Se z al br) (nr2 fr2 rs2 at2 h2 : Nat) (al0 : Int32) (br0 : Int64) (N0 Fm0 : Nat → Int32) (A0 : Nat → Int64) (b2 : Nat) (zi : Int32) (S0 : Nat → Int64) (a b : Nat) (ha : a < nd) (hb_ : b < nd) (hab : a ≠ b) : Met l ⟨"CutPoints", "mends", "(II)I"⟩ (Cond.code ⟨"CutPoints", "mends", "(II)I"⟩ prog_1_method_16_code 4 (some .int) :: TT) (rmk 4 95) (PM dC dI cI cJ cZ [.ref cp, .int (nI a), .int (nI b)] [(cp, .inr (0, [.ref g, .ref k, .ref k2, .ref fl, .ref co, .ref sp])), (g, .inr (1, [.ref a1, .ref a2, .int (nI nd), .int (nI ar), .long pr])), (a1, .inl (cI, 41, .inl (nF F))), (a2, .inl (cI, 41, .inl (nF G))), (k2, .inr (2, [.ref nr2, .ref fr2, .ref rs2, .ref at2, .ref h2, .int al0, .long br0])), (nr2, .inl (cI, 14, .inl N0)), (fr2, .inl (cI, 14, .inl Fm0)), (at2, .inl (cJ, 14, .inr (.inl A0))), (h2, .inr (3, [.ref b2, .int zi])), (b2, .inl (cJ, 41, .inr (.inl S0))), (k, .inr (2, [.ref nr, .ref fr, .ref rs, .ref at_, .ref h, .int al, .long br])), (fr, .inl (cI, 14, .inl Fm)), (at_, .inl (cJ, 14, .inr (.inl A)))]) (va_Qi (S := (Nat → Int32) × (Nat → Int32) × (Nat → Int64) × (Nat → Int64) × Nat × Int32 × Int64) (fun r u9 => r = bI (decide (need u9.2.1 u9.2.2.2.2.2.1 u9.2.2.1 u9.2.2.2.2.2.2 < need Fm al A br)) ∧ SKI (lb (pr ||| (1099511627776 : Int64))) (va_up F 40 a) (va_up G 40 b) nd u9.1 u9.2.1 u9.2.2.1 u9.2.2.2.1 u9.2.2.2.2.1 u9.2.2.2.2.2.1 u9.2.2.2.2.2.2) (fun u9 t9 => va_P (dC, dI) cls ([(cp, .inr (0, [.ref g, .ref k, .ref k2, .ref fl, .ref co, .ref sp])), (g, .inr (1, [.ref a1, .ref a2, .int (nI nd), .int (nI ar), .long pr])), (a1, .inl (cI, 41, .inl (nF (va_up F 40 a)))), (a2, .inl (cI, 41, .inl (nF (va_up G 40 b)))), (k2, .inr (2, [.ref nr2, .ref fr2, .ref rs2, .ref at2, .ref h2, .int u9.2.2.2.2.2.1, .long u9.2.2.2.2.2.2])), (nr2, .inl (cI, 14, .inl u9.1)), (fr2, .inl (cI, 14, .inl u9.2.1)), (at2, .inl (cJ, 14, .inr (.inl u9.2.2.1))), (h2, .inr (3, [.ref b2, .int (nI u9.2.2.2.2.1)])), (b2, .inl (cJ, 41, .inr (.inl u9.2.2.2.1))), (k, .inr (2, [.ref nr, .ref fr, .ref rs, .ref at_, .ref h, .int al, .long br])), (fr, .inl (cI, 14, .inl Fm)), (at_, .inl (cJ, 14, .inr (.inl A)))]) t9.heap) (ow [(cp, .inr (0, [.ref g, .ref k, .ref k2, .ref fl, .ref co, .ref sp])), (g, .inr (1, [.ref a1, .ref a2, .int (nI nd), .int (nI ar), .long pr])), (a1, .inl (cI, 41, .inl (nF F))), (a2, .inl (cI, 41, .inl (nF G))), (k2, .inr (2, [.ref nr2, .ref fr2, .ref rs2, .ref at2, .ref h2, .int al0, .long br0])), (nr2, .inl (cI, 14, .inl N0)), (fr2, .inl (cI, 14, .inl Fm0)), (at2, .inl (cJ, 14, .inr (.inl A0))), (h2, .inr (3, [.ref b2, .int zi])), (b2, .inl (cJ, 41, .inr (.inl S0))), (k, .inr (2, [.ref nr, .ref fr, .ref rs, .ref at_, .ref h, .int al, .long br])), (fr, .inl (cI, 14, .inl Fm)), (at_, .inl (cJ, 14, .inr (.inl A)))])) 0 0 (ow [(cp, .inr (0, [.ref g, .ref k, .ref k2, .ref fl, .ref co, .ref sp])), (g, .inr (1, [.ref a1, .ref a2, .int (nI nd), .int (nI ar), .long pr])), (a1, .inl (cI, 41, .inl (nF F))), (a2, .inl (cI, 41, .inl (nF G))), (k2, .inr (2, [.ref nr2, .ref fr2, .ref rs2, .ref at2, .ref h2, .int al0, .long br0])), (nr2, .inl (cI, 14, .inl N0)), (fr2, .inl (cI, 14, .inl Fm0)), (at2, .inl (cJ, 14, .inr (.inl A0))), (h2, .inr (3, [.ref b2, .int zi])), (b2, .inl (cJ, 41, .inr (.inl S0))), (k, .inr (2, [.ref nr, .ref fr, .ref rs, .ref at_, .ref h, .int al, .long br])), (fr, .inl (cI, 14, .inl Fm)), (at_, .inl (cJ, 14, .inr (.inl A)))]) := by
  refine Met.ofW (cc := prog_1_method_16_code) (maxL := 4) (ret := (some .int)) (by decide) rfl ?_
  intro p e s m args below meth c s₁ BB9 hml hv
  obtain ⟨rfl, hP, hK, hD0⟩ := hv
  have hx := BB9.exec
  have hb := BB9.bytes
  have hr := BB9.returns
  have hts : ∀ w ∈ TT, w.before _ s = true := fun w h => atoms_spec (ws := (Cond.code ⟨"CutPoints", "mends", "(II)I"⟩ prog_1_method_16_code 4 (some .int) :: TT)) BB9.pre w (List.mem_cons_of_mem _ h)
  have hown : s.vm.findClass "CutPoints" = some m.cls := findClass_of_methodNamed BB9.named
  have hlocks := BB9.notSynchronized
  have hD := hD0.mine
  have hS : va_S (ow [(cp, .inr (0, [.ref g, .ref k, .ref k2, .ref fl, .ref co, .ref sp])), (g, .inr (1, [.ref a1, .ref a2, .int (nI nd), .int (nI ar), .long pr])), (a1, .inl (cI, 41, .inl (nF F))), (a2, .inl (cI, 41, .inl (nF G))), (k2, .inr (2, [.ref nr2, .ref fr2, .ref rs2, .ref at2, .ref h2, .int al0, .long br0])), (nr2, .inl (cI, 14, .inl N0)), (fr2, .inl (cI, 14, .inl Fm0)), (at2, .inl (cJ, 14, .inr (.inl A0))), (h2, .inr (3, [.ref b2, .int zi])), (b2, .inl (cJ, 41, .inr (.inl S0))), (k, .inr (2, [.ref nr, .ref fr, .ref rs, .ref at_, .ref h, .int al, .long br])), (fr, .inl (cI, 14, .inl Fm)), (at_, .inl (cJ, 14, .inr (.inl A)))]) s.heap s.heap [] := va_S.rf
  have hnd14 := hGA.1
  have har40 := hGA.2.1
  have hG9 := GAR_m hGA ha hb_
  have hl := lv_entry ([.ref cp, .int (nI a), .int (nI b)]) (n := 4) (Nat.le_of_ble_eq_true rfl)
  rw [lg_entry_eq]
  generalize (lg_sl ([.ref cp, .int (nI a), .int (nI b)]) ++ List.replicate (4 - (lg_sl ([.ref cp, .int (nI a), .int (nI b)])).length) Slot.unset).toArray = ls at hl ⊢
  have hl : lv_has ls 4 [(0, .ref cp), (1, .int (nI a)), (2, .int (nI b))] := hl
  refine lv_aload_n hx hb d_CP_mends_0 rfl (lv_at hl 0 rfl) ?_
  refine lv_iload_n hx hb d_CP_mends_1 rfl (lv_at hl 1 rfl) ?_
  refine lv_iload_n hx hb d_CP_mends_2 rfl (lv_at hl 2 rfl) ?_
  refine vp_callSi (va_Run.run (k_V (n := 2) (C := R_CP) (rest := []) ⟨hx, hb, hml, hown, hts⟩ (c_CP_pairCode l dC dI cI cJ cZ cp g k k2 fl co sp a1 a2 nd ar pr (nI a) (nI b) (by first | assumption | omega)) wml_CP_61 wim_CP_pairCode wsel_CP_pairCode wini_CP wcode_CP_pairCode (by decide +kernel) ⟨Nat.le_of_ble_eq_true rfl, Nat.le_of_ble_eq_true rfl⟩ (preV_R (q := (R_CP, F_CP, 6)) (ci := 0) (q0 := 0) (hP.sub (ws' := [(cp, .inr (0, [.ref g, .ref k, .ref k2, .ref fl, .ref co, .ref sp])), (g, .inr (1, [.ref a1, .ref a2, .int (nI nd), .int (nI ar), .long pr]))]) [0, 1] rfl) hK rfl rfl) rfl hl.1 rfl (Nat.le_of_ble_eq_true rfl) d_CP_mends_3 ⟨Nat.zero_le _, Nat.zero_le _⟩)) (fun r_1 hr_2 => ?_)
  refine xe_i (y := (pcd (nI a) (nI b) nd)) hr_2 ?_
  refine xe_i (y := (nI 0)) (pcd_ok hnd14 ha hb_ hab) ?_
  refine lv_istore_n (lv' := [(3, .int (nI 0)), (0, .ref cp), (1, .int (nI a)), (2, .int (nI b))]) hx hb d_CP_mends_6 rfl hl (by decide) rfl (fun ls hl => ?_)
  refine lv_iload_n hx hb d_CP_mends_7 rfl (lv_at hl 0 rfl) ?_
  refine lv_if_eq (tgt := 13) hx hb d_CP_mends_8 (by decide) (fun _ => ?_) (fun c9 => absurd (by decide : ((nI 0) : Int32) = 0) c9)
  refine lv_aload_n hx hb d_CP_mends_13 rfl (lv_at hl 1 rfl) ?_
  refine va_get (D := (dC, dI)) (ci := 0) (v := .ref g) (C := R_CP) (T := F_CP) (N := 6) hx hb hts in_CP hown hK.1 hP 0 rfl rfl 0 (by decide) (hts _ wfl_CP_12) (fun _ h9 => h9) rfl d_CP_mends_14 ?_
  refine lv_bipush (v := (nI 40)) hx hb d_CP_mends_17 (by decide) ?_
  refine lv_iload_n hx hb d_CP_mends_19 rfl (lv_at hl 2 rfl) ?_
  refine lv_iload_n hx hb d_CP_mends_20 rfl (lv_at hl 3 rfl) ?_
  refine x_cv (k_V (n := 3) (C := R_GR) (rest := []) ⟨hx, hb, hml, hown, hts⟩ (c_GR_lay l dC dI cI cJ cZ g a1 a2 nd ar pr F G 40 a b (by first | assumption | omega)) wml_CP_65 wim_GR_lay wsel_GR_lay wini_GR wcode_GR_lay (by decide +kernel) ⟨Nat.le_of_ble_eq_true rfl, Nat.le_of_ble_eq_true rfl⟩ (preV_M (q := (R_GR, F_GR, 5)) (ci := 1) (q0 := 0) (hP.sub (ws' := [(g, .inr (1, [.ref a1, .ref a2, .int (nI nd), .int (nI ar), .long pr])), (a1, .inl (cI, 41, .inl (nF F))), (a2, .inl (cI, 41, .inl (nF G)))]) [1, 2, 3] rfl) hK (hD.sub (ws' := [(g, .inr (1, [.ref a1, .ref a2, .int (nI nd), .int (nI ar), .long pr])), (a1, .inl (cI, 41, .inl (nF F))), (a2, .inl (cI, 41, .inl (nF G)))]) [1, 2, 3] (by decide) rfl) rfl rfl) rfl hl.1 rfl (Nat.le_of_ble_eq_true rfl) d_CP_mends_21 ⟨Nat.zero_le _, Nat.zero_le _⟩) hP hD hS [1, 2, 3] rfl (fun _ => rfl) (fun u_4 H locs hu_4 hP hS => ?_)
  have hP : va_P (dC, dI) cls [(cp, .inr (0, [.ref g, .ref k, .ref k2, .ref fl, .ref co, .ref sp])), (g, .inr (1, [.ref a1, .ref a2, .int (nI nd), .int (nI ar), .long pr])), (a1, .inl (cI, 41, .inl (nF (va_up F 40 a)))), (a2, .inl (cI, 41, .inl (nF (va_up G 40 b)))), (k2, .inr (2, [.ref nr2, .ref fr2, .ref rs2, .ref at2, .ref h2, .int al0, .long br0])), (nr2, .inl (cI, 14, .inl N0)), (fr2, .inl (cI, 14, .inl Fm0)), (at2, .inl (cJ, 14, .inr (.inl A0))), (h2, .inr (3, [.ref b2, .int zi])), (b2, .inl (cJ, 41, .inr (.inl S0))), (k, .inr (2, [.ref nr, .ref fr, .ref rs, .ref at_, .ref h, .int al, .long br])), (fr, .inl (cI, 14, .inl Fm)), (at_, .inl (cJ, 14, .inr (.inl A)))] H := hP
  have hD := hD.addr (ws' := [(cp, .inr (0, [.ref g, .ref k, .ref k2, .ref fl, .ref co, .ref sp])), (g, .inr (1, [.ref a1, .ref a2, .int (nI nd), .int (nI ar), .long pr])), (a1, .inl (cI, 41, .inl (nF (va_up F 40 a)))), (a2, .inl (cI, 41, .inl (nF (va_up G 40 b)))), (k2, .inr (2, [.ref nr2, .ref fr2, .ref rs2, .ref at2, .ref h2, .int al0, .long br0])), (nr2, .inl (cI, 14, .inl N0)), (fr2, .inl (cI, 14, .inl Fm0)), (at2, .inl (cJ, 14, .inr (.inl A0))), (h2, .inr (3, [.ref b2, .int zi])), (b2, .inl (cJ, 41, .inr (.inl S0))), (k, .inr (2, [.ref nr, .ref fr, .ref rs, .ref at_, .ref h, .int al, .long br])), (fr, .inl (cI, 14, .inl Fm)), (at_, .inl (cJ, 14, .inr (.inl A)))]) rfl
  refine lv_aload_n hx hb d_CP_mends_24 rfl (lv_at hl 1 rfl) ?_
  refine va_get (D := (dC, dI)) (ci := 0) (v := .ref k2) (C := R_CP) (T := F_CP) (N := 6) hx hb hts in_CP hown hK.1 hP 0 rfl rfl 2 (by decide) (hts _ wfl_CP_23) (fun _ h9 => h9) rfl d_CP_mends_25 ?_
  refine lv_aload_n hx hb d_CP_mends_28 rfl (lv_at hl 1 rfl) ?_
  refine va_get (D := (dC, dI)) (ci := 0) (v := .ref g) (C := R_CP) (T := F_CP) (N := 6) hx hb hts in_CP hown hK.1 hP 0 rfl rfl 0 (by decide) (hts _ wfl_CP_12) (fun _ h9 => h9) rfl d_CP_mends_29 ?_
  refine lv_aload_n hx hb d_CP_mends_32 rfl (lv_at hl 1 rfl) ?_
  refine va_get (D := (dC, dI)) (ci := 0) (v := .ref g) (C := R_CP) (T := F_CP) (N := 6) hx hb hts in_CP hown hK.1 hP 0 rfl rfl 0 (by decide) (hts _ wfl_CP_12) (fun _ h9 => h9) rfl d_CP_mends_33 ?_
  refine va_get (D := (dC, dI)) (ci := 1) (v := .long pr) (C := R_GR) (T := F_GR) (N := 5) hx hb hts in_GR hown hK.1 hP 1 rfl rfl 4 (by decide) (hts _ wfl_CP_54) (fun _ h9 => h9) rfl d_CP_mends_36 ?_
  refine lv_ldc2 (v := 1099511627776) hx hb hown (hts _ wkl_CP_164) d_CP_mends_39 ?_
  refine lv_lor hx hb d_CP_mends_42 ?_
  refine x_cv (k_V (n := 2) (C := R_SK) (rest := []) ⟨hx, hb, hml, hown, hts⟩ (c_SK_draw l dC dI cI cJ cZ k2 nr2 fr2 rs2 at2 h2 al0 br0 g a1 a2 nd ar pr (va_up F 40 a) (va_up G 40 b) hG9.2.2.2.2.1 hG9.2.2.2.2.2 N0 Fm0 A0 b2 zi S0 (pr ||| (1099511627776 : Int64)) (GOK_m hGA ha hb_ hab)) wml_CP_166 wim_SK_draw wsel_SK_draw wini_SK wcode_SK_draw (by decide +kernel) ⟨Nat.le_of_ble_eq_true rfl, Nat.le_of_ble_eq_true rfl⟩ (preV_M (q := (R_SK, F_SK, 7)) (ci := 2) (q0 := 0) (hP.sub (ws' := [(k2, .inr (2, [.ref nr2, .ref fr2, .ref rs2, .ref at2, .ref h2, .int al0, .long br0])), (nr2, .inl (cI, 14, .inl N0)), (fr2, .inl (cI, 14, .inl Fm0)), (at2, .inl (cJ, 14, .inr (.inl A0))), (h2, .inr (3, [.ref b2, .int zi])), (b2, .inl (cJ, 41, .inr (.inl S0))), (g, .inr (1, [.ref a1, .ref a2, .int (nI nd), .int (nI ar), .long pr])), (a1, .inl (cI, 41, .inl (nF (va_up F 40 a)))), (a2, .inl (cI, 41, .inl (nF (va_up G 40 b))))]) [4, 5, 6, 7, 8, 9, 1, 2, 3] rfl) hK (hD.sub (ws' := [(k2, .inr (2, [.ref nr2, .ref fr2, .ref rs2, .ref at2, .ref h2, .int al0, .long br0])), (nr2, .inl (cI, 14, .inl N0)), (fr2, .inl (cI, 14, .inl Fm0)), (at2, .inl (cJ, 14, .inr (.inl A0))), (h2, .inr (3, [.ref b2, .int zi])), (b2, .inl (cJ, 41, .inr (.inl S0))), (g, .inr (1, [.ref a1, .ref a2, .int (nI nd), .int (nI ar), .long pr])), (a1, .inl (cI, 41, .inl (nF (va_up F 40 a)))), (a2, .inl (cI, 41, .inl (nF (va_up G 40 b))))]) [4, 5, 6, 7, 8, 9, 1, 2, 3] (by decide) rfl) rfl rfl) rfl hl.1 rfl (Nat.le_of_ble_eq_true rfl) d_CP_mends_43 ⟨Nat.zero_le _, Nat.zero_le _⟩) hP hD hS [4, 5, 6, 7, 8, 9, 1, 2, 3] rfl (fun _ => rfl) (fun u_5 H locs hu_5 hP hS => ?_)
  obtain ⟨N9_5, Fm9_5, A9_5, S9_5, z9_5, al9_5, br9_5⟩ := u_5
  have hP : va_P (dC, dI) cls [(cp, .inr (0, [.ref g, .ref k, .ref k2, .ref fl, .ref co, .ref sp])), (g, .inr (1, [.ref a1, .ref a2, .int (nI nd), .int (nI ar), .long pr])), (a1, .inl (cI, 41, .inl (nF (va_up F 40 a)))), (a2, .inl (cI, 41, .inl (nF (va_up G 40 b)))), (k2, .inr (2, [.ref nr2, .ref fr2, .ref rs2, .ref at2, .ref h2, .int al9_5, .long br9_5])), (nr2, .inl (cI, 14, .inl N9_5)), (fr2, .inl (cI, 14, .inl Fm9_5)), (at2, .inl (cJ, 14, .inr (.inl A9_5))), (h2, .inr (3, [.ref b2, .int (nI z9_5)])), (b2, .inl (cJ, 41, .inr (.inl S9_5))), (k, .inr (2, [.ref nr, .ref fr, .ref rs, .ref at_, .ref h, .int al, .long br])), (fr, .inl (cI, 14, .inl Fm)), (at_, .inl (cJ, 14, .inr (.inl A)))] H := hP
  have hD := hD.addr (ws' := [(cp, .inr (0, [.ref g, .ref k, .ref k2, .ref fl, .ref co, .ref sp])), (g, .inr (1, [.ref a1, .ref a2, .int (nI nd), .int (nI ar), .long pr])), (a1, .inl (cI, 41, .inl (nF (va_up F 40 a)))), (a2, .inl (cI, 41, .inl (nF (va_up G 40 b)))), (k2, .inr (2, [.ref nr2, .ref fr2, .ref rs2, .ref at2, .ref h2, .int al9_5, .long br9_5])), (nr2, .inl (cI, 14, .inl N9_5)), (fr2, .inl (cI, 14, .inl Fm9_5)), (at2, .inl (cJ, 14, .inr (.inl A9_5))), (h2, .inr (3, [.ref b2, .int (nI z9_5)])), (b2, .inl (cJ, 41, .inr (.inl S9_5))), (k, .inr (2, [.ref nr, .ref fr, .ref rs, .ref at_, .ref h, .int al, .long br])), (fr, .inl (cI, 14, .inl Fm)), (at_, .inl (cJ, 14, .inr (.inl A)))]) rfl
  refine lv_aload_n hx hb d_CP_mends_46 rfl (lv_at hl 1 rfl) ?_
  refine va_get (D := (dC, dI)) (ci := 0) (v := .ref k2) (C := R_CP) (T := F_CP) (N := 6) hx hb hts in_CP hown hK.1 hP 0 rfl rfl 2 (by decide) (hts _ wfl_CP_23) (fun _ h9 => h9) rfl d_CP_mends_47 ?_
  refine vp_callSi (va_Run.run (k_V (n := 0) (C := R_SK) (rest := []) ⟨hx, hb, hml, hown, hts⟩ (c_SK_countNeeded l dC dI cI cJ cZ k2 nr2 fr2 rs2 at2 h2 al9_5 br9_5 Fm9_5 A9_5 (hu_5.rw _)) wml_CP_104 wim_SK_countNeeded wsel_SK_countNeeded wini_SK wcode_SK_countNeeded (by decide +kernel) ⟨Nat.le_of_ble_eq_true rfl, Nat.le_of_ble_eq_true rfl⟩ (preV_R (q := (R_SK, F_SK, 7)) (ci := 2) (q0 := 0) (hP.sub (ws' := [(k2, .inr (2, [.ref nr2, .ref fr2, .ref rs2, .ref at2, .ref h2, .int al9_5, .long br9_5])), (fr2, .inl (cI, 14, .inl Fm9_5)), (at2, .inl (cJ, 14, .inr (.inl A9_5)))]) [4, 6, 7] rfl) hK rfl rfl) rfl hl.1 rfl (Nat.le_of_ble_eq_true rfl) d_CP_mends_50 ⟨Nat.zero_le _, Nat.zero_le _⟩)) (fun r_6 hr_7 => ?_)
  refine xe_i (y := (nI (need Fm9_5 al9_5 A9_5 br9_5))) hr_7 ?_
  refine lv_aload_n hx hb d_CP_mends_53 rfl (lv_at hl 1 rfl) ?_
  refine va_get (D := (dC, dI)) (ci := 0) (v := .ref k) (C := R_CP) (T := F_CP) (N := 6) hx hb hts in_CP hown hK.1 hP 0 rfl rfl 1 (by decide) (hts _ wfl_CP_19) (fun _ h9 => h9) rfl d_CP_mends_54 ?_
  refine vp_callSi (va_Run.run (k_V (n := 0) (C := R_SK) (rest := [.int (nI (need Fm9_5 al9_5 A9_5 br9_5))]) ⟨hx, hb, hml, hown, hts⟩ (c_SK_countNeeded l dC dI cI cJ cZ k nr fr rs at_ h al br Fm A (hSK.rw Fm)) wml_CP_104 wim_SK_countNeeded wsel_SK_countNeeded wini_SK wcode_SK_countNeeded (by decide +kernel) ⟨Nat.le_of_ble_eq_true rfl, Nat.le_of_ble_eq_true rfl⟩ (preV_R (q := (R_SK, F_SK, 7)) (ci := 2) (q0 := 0) (hP.sub (ws' := [(k, .inr (2, [.ref nr, .ref fr, .ref rs, .ref at_, .ref h, .int al, .long br])), (fr, .inl (cI, 14, .inl Fm)), (at_, .inl (cJ, 14, .inr (.inl A)))]) [10, 11, 12] rfl) hK rfl rfl) rfl hl.1 rfl (Nat.le_of_ble_eq_true rfl) d_CP_mends_57 ⟨Nat.zero_le _, Nat.zero_le _⟩)) (fun r_8 hr_9 => ?_)
  refine xe_i (y := (nI (need Fm al A br))) hr_9 ?_
  refine x_cmp_ge (a := (need Fm9_5 al9_5 A9_5 br9_5)) (b := (need Fm al A br)) (tgt := 67) hx hb (need_lt _ _ _ _) (need_lt _ _ _ _) d_CP_mends_60 (by decide) (fun c_10 => ?_) (fun c_10 => ?_)
  · skip
    refine lv_iconst (v := (nI 0)) hx hb d_CP_mends_67 (by decide) ?_
    exact W.iret (v := (nI 0)) hx hb hr (fun t9 ht9 _ => ⟨⟨_, (N9_5, Fm9_5, A9_5, S9_5, z9_5, al9_5, br9_5), rfl, ⟨by rw [decide_eq_false (Nat.not_lt.mpr c_10)]; rfl, hu_5⟩, by show va_P (dC, dI) cls _ t9.heap; rw [ht9]; exact hP⟩, hS.F ht9⟩) hS.2.2 d_CP_mends_68
  · skip
    refine lv_iconst (v := (nI 1)) hx hb d_CP_mends_63 (by decide) ?_
    refine lv_goto (tgt := 68) hx hb d_CP_mends_64 (by decide) ?_
    exact W.iret (v := (nI 1)) hx hb hr (fun t9 ht9 _ => ⟨⟨_, (N9_5, Fm9_5, A9_5, S9_5, z9_5, al9_5, br9_5), rfl, ⟨by rw [decide_eq_true c_10]; rfl, hu_5⟩, by show va_P (dC, dI) cls _ t9.heap; rw [ht9]; exact hP⟩, hS.F ht9⟩) hS.2.2 d_CP_mends_68

set_option maxHeartbeats 4000000 in
set_option maxRecDepth 100000 in
theorem c_CP_way_n (l : Launch) (dC : Nat → ClassId) (dI : Nat → Nat → Nat) (cI cJ cZ : ClassId) (cp g k k2 fl co sp : Nat) (a1 a2 nd ar : Nat) (pr : Int64) (F G : Nat → Nat) (hGA : GAR F G nd ar pr) (nr fr rs at_ h : Nat) (al : Int32) (br : Int64) (N Fm : Nat → Int32) (A : Nat → Int64) (b1 z : Nat) (Se : Nat → Int64) (hSK : SKI (lb pr) F G nd N Fm A Se z al br) (x : Nat) (hxn : x < ar) (hxl : lb pr x = true) (hbr : ∀ pt op, SpR N (F x) al pt → AtR A pt op 14 → ¬ op &&& br = 0) : Met l ⟨"CutPoints", "way", "(I)I"⟩ (Cond.code ⟨"CutPoints", "way", "(I)I"⟩ prog_1_method_17_code 4 (some .int) :: TT) (rmk 3 69) (PR dC dI cI cJ cZ [.ref cp, .int (nI x)] [(cp, .inr (0, [.ref g, .ref k, .ref k2, .ref fl, .ref co, .ref sp])), (g, .inr (1, [.ref a1, .ref a2, .int (nI nd), .int (nI ar), .long pr])), (a1, .inl (cI, 41, .inl (nF F))), (a2, .inl (cI, 41, .inl (nF G))), (k, .inr (2, [.ref nr, .ref fr, .ref rs, .ref at_, .ref h, .int al, .long br])), (nr, .inl (cI, 14, .inl N)), (at_, .inl (cJ, 14, .inr (.inl A)))]) (vp_Si (fun r => r = -3)) 0 0 (fun _ => False) := by
  refine Met.ofW (cc := prog_1_method_17_code) (maxL := 4) (ret := (some .int)) (by decide) rfl ?_
  intro p e s m args below meth c s₁ BB9 hml hv
  obtain ⟨rfl, hP, hK⟩ := hv
  have hx := BB9.exec
  have hb := BB9.bytes
  have hr := BB9.returns
  have hts : ∀ w ∈ TT, w.before _ s = true := fun w h => atoms_spec (ws := (Cond.code ⟨"CutPoints", "way", "(I)I"⟩ prog_1_method_17_code 4 (some .int) :: TT)) BB9.pre w (List.mem_cons_of_mem _ h)
  have hown : s.vm.findClass "CutPoints" = some m.cls := findClass_of_methodNamed BB9.named
  have hlocks := BB9.notSynchronized
  have hnd14 := hGA.1
  have har40 := hGA.2.1
  have hF9 := hGA.2.2.2.2.1
  have hG9 := hGA.2.2.2.2.2
  have hl := lv_entry ([.ref cp, .int (nI x)]) (n := 4) (Nat.le_of_ble_eq_true rfl)
  rw [lg_entry_eq]
  generalize (lg_sl ([.ref cp, .int (nI x)]) ++ List.replicate (4 - (lg_sl ([.ref cp, .int (nI x)])).length) Slot.unset).toArray = ls at hl ⊢
  have hl : lv_has ls 4 [(0, .ref cp), (1, .int (nI x))] := hl
  refine lv_aload_n hx hb d_CP_way_0 rfl (lv_at hl 0 rfl) ?_
  refine va_get (D := (dC, dI)) (ci := 0) (v := .ref g) (C := R_CP) (T := F_CP) (N := 6) hx hb hts in_CP hown hK.1 hP 0 rfl rfl 0 (by decide) (hts _ wfl_CP_12) (fun _ h9 => h9) rfl d_CP_way_1 ?_
  refine lv_iload_n hx hb d_CP_way_4 rfl (lv_at hl 1 rfl) ?_
  refine vp_callSi (va_Run.run (k_V (n := 1) (C := R_GR) (rest := []) ⟨hx, hb, hml, hown, hts⟩ (c_GR_isThere l dC dI cI cJ cZ g a1 a2 nd ar pr (nI x) (by first | assumption | omega)) wml_CP_73 wim_GR_isThere wsel_GR_isThere wini_GR wcode_GR_isThere (by decide +kernel) ⟨Nat.le_of_ble_eq_true rfl, Nat.le_of_ble_eq_true rfl⟩ (preV_R (q := (R_GR, F_GR, 5)) (ci := 1) (q0 := 0) (hP.sub (ws' := [(g, .inr (1, [.ref a1, .ref a2, .int (nI nd), .int (nI ar), .long pr]))]) [1] rfl) hK rfl rfl) rfl hl.1 rfl (Nat.le_of_ble_eq_true rfl) d_CP_way_5 ⟨Nat.zero_le _, Nat.zero_le _⟩)) (fun r_1 hr_2 => ?_)
  refine xe_i (y := (bI (vd (nI x) ar && lb pr (nI x).toNatClampNeg))) hr_2 ?_
  refine xe_i (y := (bI true)) (by rw [th_tt (by omega) hxn hxl]) ?_
  refine lv_if_ne (tgt := 13) hx hb d_CP_way_8 (by decide) (fun _ => ?_) (fun c9 => absurd c9 (by decide : ¬ ((bI true) : Int32) = 0))
  refine lv_aload_n hx hb d_CP_way_13 rfl (lv_at hl 0 rfl) ?_
  refine va_get (D := (dC, dI)) (ci := 0) (v := .ref k) (C := R_CP) (T := F_CP) (N := 6) hx hb hts in_CP hown hK.1 hP 0 rfl rfl 1 (by decide) (hts _ wfl_CP_19) (fun _ h9 => h9) rfl d_CP_way_14 ?_
  refine lv_aload_n hx hb d_CP_way_17 rfl (lv_at hl 0 rfl) ?_
  refine va_get (D := (dC, dI)) (ci := 0) (v := .ref k) (C := R_CP) (T := F_CP) (N := 6) hx hb hts in_CP hown hK.1 hP 0 rfl rfl 1 (by decide) (hts _ wfl_CP_19) (fun _ h9 => h9) rfl d_CP_way_18 ?_
  refine lv_aload_n hx hb d_CP_way_21 rfl (lv_at hl 0 rfl) ?_
  refine va_get (D := (dC, dI)) (ci := 0) (v := .ref g) (C := R_CP) (T := F_CP) (N := 6) hx hb hts in_CP hown hK.1 hP 0 rfl rfl 0 (by decide) (hts _ wfl_CP_12) (fun _ h9 => h9) rfl d_CP_way_22 ?_
  refine va_get (D := (dC, dI)) (ci := 1) (v := .ref a1) (C := R_GR) (T := F_GR) (N := 5) hx hb hts in_GR hown hK.1 hP 1 rfl rfl 0 (by decide) (hts _ wfl_CP_170) (fun _ h9 => h9) rfl d_CP_way_25 ?_
  refine lv_iload_n hx hb d_CP_way_28 rfl (lv_at hl 1 rfl) ?_
  refine x_iald (n := 41) (f := (nF F)) (j := x) hx hb hK.1 hP 2 0 rfl rfl (by omega) (by omega) d_CP_way_29 ?_
  refine xe_i (y := (nI (F x))) rfl ?_
  refine vp_callSi (va_Run.run (k_V (n := 1) (C := R_SK) (rest := [.ref k]) ⟨hx, hb, hml, hown, hts⟩ (c_SK_partOf l dC dI cI cJ cZ k nr fr rs at_ h al br N (hSK.rw N) (F x) (hF9 x)) wml_CP_118 wim_SK_partOf wsel_SK_partOf wini_SK wcode_SK_partOf (by decide +kernel) ⟨Nat.le_of_ble_eq_true rfl, Nat.le_of_ble_eq_true rfl⟩ (preV_R (q := (R_SK, F_SK, 7)) (ci := 2) (q0 := 0) (hP.sub (ws' := [(k, .inr (2, [.ref nr, .ref fr, .ref rs, .ref at_, .ref h, .int al, .long br])), (nr, .inl (cI, 14, .inl N))]) [4, 5] rfl) hK rfl rfl) rfl hl.1 rfl (Nat.le_of_ble_eq_true rfl) d_CP_way_30 ⟨Nat.zero_le _, Nat.zero_le _⟩)) (fun r_4 hr_5 => ?_)
  refine vp_callSl (va_Run.run (k_V (n := 1) (C := R_SK) (rest := []) ⟨hx, hb, hml, hown, hts⟩ (c_SK_arcsAt l dC dI cI cJ cZ k nr fr rs at_ h al br A r_4) wml_CP_173 wim_SK_arcsAt wsel_SK_arcsAt wini_SK wcode_SK_arcsAt (by decide +kernel) ⟨Nat.le_of_ble_eq_true rfl, Nat.le_of_ble_eq_true rfl⟩ (preV_R (q := (R_SK, F_SK, 7)) (ci := 2) (q0 := 0) (hP.sub (ws' := [(k, .inr (2, [.ref nr, .ref fr, .ref rs, .ref at_, .ref h, .int al, .long br])), (at_, .inl (cJ, 14, .inr (.inl A)))]) [4, 6] rfl) hK rfl rfl) rfl hl.1 rfl (Nat.le_of_ble_eq_true rfl) d_CP_way_33 ⟨Nat.zero_le _, Nat.zero_le _⟩)) (fun r_6 hr_7 => ?_)
  refine lv_lstore_n (lv' := [(2, .long r_6), (0, .ref cp), (1, .int (nI x))]) hx hb d_CP_way_36 rfl hl (by decide) rfl (fun ls hl => ?_)
  refine lv_lload_n hx hb d_CP_way_37 rfl (lv_at hl 0 rfl) ?_
  refine lv_aload_n hx hb d_CP_way_38 rfl (lv_at hl 1 rfl) ?_
  refine va_get (D := (dC, dI)) (ci := 0) (v := .ref k) (C := R_CP) (T := F_CP) (N := 6) hx hb hts in_CP hown hK.1 hP 0 rfl rfl 1 (by decide) (hts _ wfl_CP_19) (fun _ h9 => h9) rfl d_CP_way_39 ?_
  refine va_get (D := (dC, dI)) (ci := 2) (v := .long br) (C := R_SK) (T := F_SK) (N := 7) hx hb hts in_SK hown hK.1 hP 4 rfl rfl 6 (by decide) (hts _ wfl_CP_86) (fun _ h9 => h9) rfl d_CP_way_42 ?_
  refine lv_land hx hb d_CP_way_45 ?_
  refine lv_lconst (v := 0) hx hb d_CP_way_46 rfl ?_
  refine x_lcmp_eq (tgt := 54) hx hb d_CP_way_47 d_CP_way_48 (by decide) (fun c_8 => ?_) (fun c_8 => ?_)
  · skip
    exact absurd c_8 (hbr _ _ hr_5 hr_7)
  · skip
    refine lv_bipush (v := (-3)) hx hb d_CP_way_51 (by decide) ?_
    exact W.iret (v := (-3)) hx hb hr (fun t9 ht9 _ => ⟨_, rfl, rfl, ht9⟩) t_nil d_CP_way_53

set_option maxHeartbeats 4000000 in
set_option maxRecDepth 100000 in
theorem c_CP_way_k (l : Launch) (dC : Nat → ClassId) (dI : Nat → Nat → Nat) (cI cJ cZ : ClassId) (cp g k k2 fl co sp : Nat) (a1 a2 nd ar : Nat) (pr : Int64) (F G : Nat → Nat) (hGA : GAR F G nd ar pr) (nr fr rs at_ h : Nat) (al : Int32) (br : Int64) (N Fm : Nat → Int32) (A : Nat → Int64) (b1 z : Nat) (Se : Nat → Int64) (hSK : SKI (lb pr) F G nd N Fm A Se z al br) (ld : Nat) (r0 : Nat → Int32) (x : Nat) (hxn : x < ar) (hxl : lb pr x = true) (hbr : ∀ pt op, SpR N (F x) al pt → AtR A pt op 14 → op &&& br = 0) : Met l ⟨"CutPoints", "way", "(I)I"⟩ (Cond.code ⟨"CutPoints", "way", "(I)I"⟩ prog_1_method_17_code 4 (some .int) :: TT) (rmk 3 80) (PM dC dI cI cJ cZ [.ref cp, .int (nI x)] [(cp, .inr (0, [.ref g, .ref k, .ref k2, .ref fl, .ref co, .ref sp])), (g, .inr (1, [.ref a1, .ref a2, .int (nI nd), .int (nI ar), .long pr])), (a1, .inl (cI, 41, .inl (nF F))), (a2, .inl (cI, 41, .inl (nF G))), (k, .inr (2, [.ref nr, .ref fr, .ref rs, .ref at_, .ref h, .int al, .long br])), (nr, .inl (cI, 14, .inl N)), (at_, .inl (cJ, 14, .inr (.inl A))), (co, .inr (5, [.ref ld])), (ld, .inl (cI, 14, .inl r0))]) (va_Qi (S := Nat → Int32) (fun r u9 => ∃ pt op dF, SpR N (F x) al pt ∧ AtR A pt op 14 ∧ GF op F G dF (x + 1) ∧ r = bI (dF x)) (fun u9 t9 => va_P (dC, dI) cls ([(cp, .inr (0, [.ref g, .ref k, .ref k2, .ref fl, .ref co, .ref sp])), (g, .inr (1, [.ref a1, .ref a2, .int (nI nd), .int (nI ar), .long pr])), (a1, .inl (cI, 41, .inl (nF F))), (a2, .inl (cI, 41, .inl (nF G))), (k, .inr (2, [.ref nr, .ref fr, .ref rs, .ref at_, .ref h, .int al, .long br])), (nr, .inl (cI, 14, .inl N)), (at_, .inl (cJ, 14, .inr (.inl A))), (co, .inr (5, [.ref ld])), (ld, .inl (cI, 14, .inl u9))]) t9.heap) (ow [(cp, .inr (0, [.ref g, .ref k, .ref k2, .ref fl, .ref co, .ref sp])), (g, .inr (1, [.ref a1, .ref a2, .int (nI nd), .int (nI ar), .long pr])), (a1, .inl (cI, 41, .inl (nF F))), (a2, .inl (cI, 41, .inl (nF G))), (k, .inr (2, [.ref nr, .ref fr, .ref rs, .ref at_, .ref h, .int al, .long br])), (nr, .inl (cI, 14, .inl N)), (at_, .inl (cJ, 14, .inr (.inl A))), (co, .inr (5, [.ref ld])), (ld, .inl (cI, 14, .inl r0))])) 0 0 (ow [(cp, .inr (0, [.ref g, .ref k, .ref k2, .ref fl, .ref co, .ref sp])), (g, .inr (1, [.ref a1, .ref a2, .int (nI nd), .int (nI ar), .long pr])), (a1, .inl (cI, 41, .inl (nF F))), (a2, .inl (cI, 41, .inl (nF G))), (k, .inr (2, [.ref nr, .ref fr, .ref rs, .ref at_, .ref h, .int al, .long br])), (nr, .inl (cI, 14, .inl N)), (at_, .inl (cJ, 14, .inr (.inl A))), (co, .inr (5, [.ref ld])), (ld, .inl (cI, 14, .inl r0))]) := by
  refine Met.ofW (cc := prog_1_method_17_code) (maxL := 4) (ret := (some .int)) (by decide) rfl ?_
  intro p e s m args below meth c s₁ BB9 hml hv
  obtain ⟨rfl, hP, hK, hD0⟩ := hv
  have hx := BB9.exec
  have hb := BB9.bytes
  have hr := BB9.returns
  have hts : ∀ w ∈ TT, w.before _ s = true := fun w h => atoms_spec (ws := (Cond.code ⟨"CutPoints", "way", "(I)I"⟩ prog_1_method_17_code 4 (some .int) :: TT)) BB9.pre w (List.mem_cons_of_mem _ h)
  have hown : s.vm.findClass "CutPoints" = some m.cls := findClass_of_methodNamed BB9.named
  have hlocks := BB9.notSynchronized
  have hD := hD0.mine
  have hS : va_S (ow [(cp, .inr (0, [.ref g, .ref k, .ref k2, .ref fl, .ref co, .ref sp])), (g, .inr (1, [.ref a1, .ref a2, .int (nI nd), .int (nI ar), .long pr])), (a1, .inl (cI, 41, .inl (nF F))), (a2, .inl (cI, 41, .inl (nF G))), (k, .inr (2, [.ref nr, .ref fr, .ref rs, .ref at_, .ref h, .int al, .long br])), (nr, .inl (cI, 14, .inl N)), (at_, .inl (cJ, 14, .inr (.inl A))), (co, .inr (5, [.ref ld])), (ld, .inl (cI, 14, .inl r0))]) s.heap s.heap [] := va_S.rf
  have hnd14 := hGA.1
  have har40 := hGA.2.1
  have hF9 := hGA.2.2.2.2.1
  have hG9 := hGA.2.2.2.2.2
  have hl := lv_entry ([.ref cp, .int (nI x)]) (n := 4) (Nat.le_of_ble_eq_true rfl)
  rw [lg_entry_eq]
  generalize (lg_sl ([.ref cp, .int (nI x)]) ++ List.replicate (4 - (lg_sl ([.ref cp, .int (nI x)])).length) Slot.unset).toArray = ls at hl ⊢
  have hl : lv_has ls 4 [(0, .ref cp), (1, .int (nI x))] := hl
  refine lv_aload_n hx hb d_CP_way_0 rfl (lv_at hl 0 rfl) ?_
  refine va_get (D := (dC, dI)) (ci := 0) (v := .ref g) (C := R_CP) (T := F_CP) (N := 6) hx hb hts in_CP hown hK.1 hP 0 rfl rfl 0 (by decide) (hts _ wfl_CP_12) (fun _ h9 => h9) rfl d_CP_way_1 ?_
  refine lv_iload_n hx hb d_CP_way_4 rfl (lv_at hl 1 rfl) ?_
  refine vp_callSi (va_Run.run (k_V (n := 1) (C := R_GR) (rest := []) ⟨hx, hb, hml, hown, hts⟩ (c_GR_isThere l dC dI cI cJ cZ g a1 a2 nd ar pr (nI x) (by first | assumption | omega)) wml_CP_73 wim_GR_isThere wsel_GR_isThere wini_GR wcode_GR_isThere (by decide +kernel) ⟨Nat.le_of_ble_eq_true rfl, Nat.le_of_ble_eq_true rfl⟩ (preV_R (q := (R_GR, F_GR, 5)) (ci := 1) (q0 := 0) (hP.sub (ws' := [(g, .inr (1, [.ref a1, .ref a2, .int (nI nd), .int (nI ar), .long pr]))]) [1] rfl) hK rfl rfl) rfl hl.1 rfl (Nat.le_of_ble_eq_true rfl) d_CP_way_5 ⟨Nat.zero_le _, Nat.zero_le _⟩)) (fun r_1 hr_2 => ?_)
  refine xe_i (y := (bI (vd (nI x) ar && lb pr (nI x).toNatClampNeg))) hr_2 ?_
  refine xe_i (y := (bI true)) (by rw [th_tt (by omega) hxn hxl]) ?_
  refine lv_if_ne (tgt := 13) hx hb d_CP_way_8 (by decide) (fun _ => ?_) (fun c9 => absurd c9 (by decide : ¬ ((bI true) : Int32) = 0))
  refine lv_aload_n hx hb d_CP_way_13 rfl (lv_at hl 0 rfl) ?_
  refine va_get (D := (dC, dI)) (ci := 0) (v := .ref k) (C := R_CP) (T := F_CP) (N := 6) hx hb hts in_CP hown hK.1 hP 0 rfl rfl 1 (by decide) (hts _ wfl_CP_19) (fun _ h9 => h9) rfl d_CP_way_14 ?_
  refine lv_aload_n hx hb d_CP_way_17 rfl (lv_at hl 0 rfl) ?_
  refine va_get (D := (dC, dI)) (ci := 0) (v := .ref k) (C := R_CP) (T := F_CP) (N := 6) hx hb hts in_CP hown hK.1 hP 0 rfl rfl 1 (by decide) (hts _ wfl_CP_19) (fun _ h9 => h9) rfl d_CP_way_18 ?_
  refine lv_aload_n hx hb d_CP_way_21 rfl (lv_at hl 0 rfl) ?_
  refine va_get (D := (dC, dI)) (ci := 0) (v := .ref g) (C := R_CP) (T := F_CP) (N := 6) hx hb hts in_CP hown hK.1 hP 0 rfl rfl 0 (by decide) (hts _ wfl_CP_12) (fun _ h9 => h9) rfl d_CP_way_22 ?_
  refine va_get (D := (dC, dI)) (ci := 1) (v := .ref a1) (C := R_GR) (T := F_GR) (N := 5) hx hb hts in_GR hown hK.1 hP 1 rfl rfl 0 (by decide) (hts _ wfl_CP_170) (fun _ h9 => h9) rfl d_CP_way_25 ?_
  refine lv_iload_n hx hb d_CP_way_28 rfl (lv_at hl 1 rfl) ?_
  refine x_iald (n := 41) (f := (nF F)) (j := x) hx hb hK.1 hP 2 0 rfl rfl (by omega) (by omega) d_CP_way_29 ?_
  refine xe_i (y := (nI (F x))) rfl ?_
  refine vp_callSi (va_Run.run (k_V (n := 1) (C := R_SK) (rest := [.ref k]) ⟨hx, hb, hml, hown, hts⟩ (c_SK_partOf l dC dI cI cJ cZ k nr fr rs at_ h al br N (hSK.rw N) (F x) (hF9 x)) wml_CP_118 wim_SK_partOf wsel_SK_partOf wini_SK wcode_SK_partOf (by decide +kernel) ⟨Nat.le_of_ble_eq_true rfl, Nat.le_of_ble_eq_true rfl⟩ (preV_R (q := (R_SK, F_SK, 7)) (ci := 2) (q0 := 0) (hP.sub (ws' := [(k, .inr (2, [.ref nr, .ref fr, .ref rs, .ref at_, .ref h, .int al, .long br])), (nr, .inl (cI, 14, .inl N))]) [4, 5] rfl) hK rfl rfl) rfl hl.1 rfl (Nat.le_of_ble_eq_true rfl) d_CP_way_30 ⟨Nat.zero_le _, Nat.zero_le _⟩)) (fun r_4 hr_5 => ?_)
  refine vp_callSl (va_Run.run (k_V (n := 1) (C := R_SK) (rest := []) ⟨hx, hb, hml, hown, hts⟩ (c_SK_arcsAt l dC dI cI cJ cZ k nr fr rs at_ h al br A r_4) wml_CP_173 wim_SK_arcsAt wsel_SK_arcsAt wini_SK wcode_SK_arcsAt (by decide +kernel) ⟨Nat.le_of_ble_eq_true rfl, Nat.le_of_ble_eq_true rfl⟩ (preV_R (q := (R_SK, F_SK, 7)) (ci := 2) (q0 := 0) (hP.sub (ws' := [(k, .inr (2, [.ref nr, .ref fr, .ref rs, .ref at_, .ref h, .int al, .long br])), (at_, .inl (cJ, 14, .inr (.inl A)))]) [4, 6] rfl) hK rfl rfl) rfl hl.1 rfl (Nat.le_of_ble_eq_true rfl) d_CP_way_33 ⟨Nat.zero_le _, Nat.zero_le _⟩)) (fun r_6 hr_7 => ?_)
  refine lv_lstore_n (lv' := [(2, .long r_6), (0, .ref cp), (1, .int (nI x))]) hx hb d_CP_way_36 rfl hl (by decide) rfl (fun ls hl => ?_)
  refine lv_lload_n hx hb d_CP_way_37 rfl (lv_at hl 0 rfl) ?_
  refine lv_aload_n hx hb d_CP_way_38 rfl (lv_at hl 1 rfl) ?_
  refine va_get (D := (dC, dI)) (ci := 0) (v := .ref k) (C := R_CP) (T := F_CP) (N := 6) hx hb hts in_CP hown hK.1 hP 0 rfl rfl 1 (by decide) (hts _ wfl_CP_19) (fun _ h9 => h9) rfl d_CP_way_39 ?_
  refine va_get (D := (dC, dI)) (ci := 2) (v := .long br) (C := R_SK) (T := F_SK) (N := 7) hx hb hts in_SK hown hK.1 hP 4 rfl rfl 6 (by decide) (hts _ wfl_CP_86) (fun _ h9 => h9) rfl d_CP_way_42 ?_
  refine lv_land hx hb d_CP_way_45 ?_
  refine lv_lconst (v := 0) hx hb d_CP_way_46 rfl ?_
  refine x_lcmp_eq (tgt := 54) hx hb d_CP_way_47 d_CP_way_48 (by decide) (fun c_8 => ?_) (fun c_8 => ?_)
  · skip
    refine lv_aload_n hx hb d_CP_way_54 rfl (lv_at hl 1 rfl) ?_
    refine va_get (D := (dC, dI)) (ci := 0) (v := .ref co) (C := R_CP) (T := F_CP) (N := 6) hx hb hts in_CP hown hK.1 hP 0 rfl rfl 4 (by decide) (hts _ wfl_CP_36) (fun _ h9 => h9) rfl d_CP_way_55 ?_
    refine lv_aload_n hx hb d_CP_way_58 rfl (lv_at hl 1 rfl) ?_
    refine va_get (D := (dC, dI)) (ci := 0) (v := .ref g) (C := R_CP) (T := F_CP) (N := 6) hx hb hts in_CP hown hK.1 hP 0 rfl rfl 0 (by decide) (hts _ wfl_CP_12) (fun _ h9 => h9) rfl d_CP_way_59 ?_
    refine lv_lload_n hx hb d_CP_way_62 rfl (lv_at hl 0 rfl) ?_
    refine lv_iload_n hx hb d_CP_way_63 rfl (lv_at hl 2 rfl) ?_
    refine x_ci (k_V (n := 3) (C := R_CO) (rest := []) ⟨hx, hb, hml, hown, hts⟩ (c_CO_goesForth l dC dI cI cJ cZ co ld g a1 a2 nd ar pr F G hF9 hG9 r0 r_6 x (by first | assumption | omega)) wml_CP_176 wim_CO_goesForth wsel_CO_goesForth wini_CO wcode_CO_goesForth (by decide +kernel) ⟨Nat.le_of_ble_eq_true rfl, Nat.le_of_ble_eq_true rfl⟩ (preV_M (q := (R_CO, F_CO, 1)) (ci := 5) (q0 := 0) (hP.sub (ws' := [(co, .inr (5, [.ref ld])), (ld, .inl (cI, 14, .inl r0)), (g, .inr (1, [.ref a1, .ref a2, .int (nI nd), .int (nI ar), .long pr])), (a1, .inl (cI, 41, .inl (nF F))), (a2, .inl (cI, 41, .inl (nF G)))]) [7, 8, 1, 2, 3] rfl) hK (hD.sub (ws' := [(co, .inr (5, [.ref ld])), (ld, .inl (cI, 14, .inl r0)), (g, .inr (1, [.ref a1, .ref a2, .int (nI nd), .int (nI ar), .long pr])), (a1, .inl (cI, 41, .inl (nF F))), (a2, .inl (cI, 41, .inl (nF G)))]) [7, 8, 1, 2, 3] (by decide) rfl) rfl rfl) rfl hl.1 rfl (Nat.le_of_ble_eq_true rfl) d_CP_way_64 ⟨Nat.zero_le _, Nat.zero_le _⟩) hP hD hS [7, 8, 1, 2, 3] rfl (fun _ => rfl) (fun r_9 u_9 H locs hu_9 hP hS => ?_)
    obtain ⟨r9_9, rfl⟩ : ∃ z, z = u_9 := ⟨_, rfl⟩
    have hP : va_P (dC, dI) cls [(cp, .inr (0, [.ref g, .ref k, .ref k2, .ref fl, .ref co, .ref sp])), (g, .inr (1, [.ref a1, .ref a2, .int (nI nd), .int (nI ar), .long pr])), (a1, .inl (cI, 41, .inl (nF F))), (a2, .inl (cI, 41, .inl (nF G))), (k, .inr (2, [.ref nr, .ref fr, .ref rs, .ref at_, .ref h, .int al, .long br])), (nr, .inl (cI, 14, .inl N)), (at_, .inl (cJ, 14, .inr (.inl A))), (co, .inr (5, [.ref ld])), (ld, .inl (cI, 14, .inl r9_9))] H := hP
    have hD := hD.addr (ws' := [(cp, .inr (0, [.ref g, .ref k, .ref k2, .ref fl, .ref co, .ref sp])), (g, .inr (1, [.ref a1, .ref a2, .int (nI nd), .int (nI ar), .long pr])), (a1, .inl (cI, 41, .inl (nF F))), (a2, .inl (cI, 41, .inl (nF G))), (k, .inr (2, [.ref nr, .ref fr, .ref rs, .ref at_, .ref h, .int al, .long br])), (nr, .inl (cI, 14, .inl N)), (at_, .inl (cJ, 14, .inr (.inl A))), (co, .inr (5, [.ref ld])), (ld, .inl (cI, 14, .inl r9_9))]) rfl
    obtain ⟨dF, hGF, hdF⟩ := hu_9
    refine xe_i (y := (bI (dF x))) hdF ?_
    refine x_if_eq (tgt := 74) hx hb d_CP_way_67 (by decide) (fun c_10 => ?_) (fun c_10 => ?_)
    · skip
      refine lv_iconst (v := (nI 0)) hx hb d_CP_way_74 (by decide) ?_
      exact W.iret (v := (nI 0)) hx hb hr (fun t9 ht9 _ => ⟨⟨_, (r9_9), rfl, ⟨_, _, dF, hr_5, hr_7, hGF, by rw [c_10]; rfl⟩, by show va_P (dC, dI) cls _ t9.heap; rw [ht9]; exact hP⟩, hS.F ht9⟩) hS.2.2 d_CP_way_75
    · skip
      refine lv_iconst (v := (nI 1)) hx hb d_CP_way_70 (by decide) ?_
      refine lv_goto (tgt := 75) hx hb d_CP_way_71 (by decide) ?_
      exact W.iret (v := (nI 1)) hx hb hr (fun t9 ht9 _ => ⟨⟨_, (r9_9), rfl, ⟨_, _, dF, hr_5, hr_7, hGF, by rw [c_10]; rfl⟩, by show va_P (dC, dI) cls _ t9.heap; rw [ht9]; exact hP⟩, hS.F ht9⟩) hS.2.2 d_CP_way_75
  · skip
    exact absurd (hbr _ _ hr_5 hr_7) c_8

theorem d_CP_together_0 : decode prog_1_method_18_code 0 = .ok (.aload_n 0, 1) := by decide +kernel
theorem d_CP_together_1 : decode prog_1_method_18_code 1 = .ok (.getfield 12, 3) := by decide +kernel
theorem d_CP_together_4 : decode prog_1_method_18_code 4 = .ok (.iload_n 1, 1) := by decide +kernel
theorem d_CP_together_5 : decode prog_1_method_18_code 5 = .ok (.invokevirtual 73, 3) := by decide +kernel
theorem d_CP_together_8 : decode prog_1_method_18_code 8 = .ok (.ifCond .eq 14, 3) := by decide +kernel
theorem d_CP_together_11 : decode prog_1_method_18_code 11 = .ok (.aload_n 0, 1) := by decide +kernel
theorem d_CP_together_12 : decode prog_1_method_18_code 12 = .ok (.getfield 12, 3) := by decide +kernel
theorem d_CP_together_15 : decode prog_1_method_18_code 15 = .ok (.iload_n 2, 1) := by decide +kernel
theorem d_CP_together_16 : decode prog_1_method_18_code 16 = .ok (.invokevirtual 73, 3) := by decide +kernel
theorem d_CP_together_19 : decode prog_1_method_18_code 19 = .ok (.ifCond .ne 5, 3) := by decide +kernel
theorem d_CP_together_22 : decode prog_1_method_18_code 22 = .ok (.iconst (-1), 1) := by decide +kernel
theorem d_CP_together_23 : decode prog_1_method_18_code 23 = .ok (.ireturn, 1) := by decide +kernel
theorem d_CP_together_24 : decode prog_1_method_18_code 24 = .ok (.aload_n 0, 1) := by decide +kernel
theorem d_CP_together_25 : decode prog_1_method_18_code 25 = .ok (.getfield 19, 3) := by decide +kernel
theorem d_CP_together_28 : decode prog_1_method_18_code 28 = .ok (.getfield 92, 3) := by decide +kernel
theorem d_CP_together_31 : decode prog_1_method_18_code 31 = .ok (.iload_n 1, 1) := by decide +kernel
theorem d_CP_together_32 : decode prog_1_method_18_code 32 = .ok (.invokevirtual 131, 3) := by decide +kernel
theorem d_CP_together_35 : decode prog_1_method_18_code 35 = .ok (.lstore_n 3, 1) := by decide +kernel
theorem d_CP_together_36 : decode prog_1_method_18_code 36 = .ok (.lload_n 3, 1) := by decide +kernel
theorem d_CP_together_37 : decode prog_1_method_18_code 37 = .ok (.iload_n 2, 1) := by decide +kernel
theorem d_CP_together_38 : decode prog_1_method_18_code 38 = .ok (.invokestatic 124, 3) := by decide +kernel
theorem d_CP_together_41 : decode prog_1_method_18_code 41 = .ok (.ifCond .ne 6, 3) := by decide +kernel
theorem d_CP_together_44 : decode prog_1_method_18_code 44 = .ok (.bipush (-3), 2) := by decide +kernel
theorem d_CP_together_46 : decode prog_1_method_18_code 46 = .ok (.ireturn, 1) := by decide +kernel
theorem d_CP_together_47 : decode prog_1_method_18_code 47 = .ok (.lload_n 3, 1) := by decide +kernel
theorem d_CP_together_48 : decode prog_1_method_18_code 48 = .ok (.invokestatic 76, 3) := by decide +kernel
theorem d_CP_together_51 : decode prog_1_method_18_code 51 = .ok (.bipush 14, 2) := by decide +kernel
theorem d_CP_together_53 : decode prog_1_method_18_code 53 = .ok (.if_icmp .le 6, 3) := by decide +kernel
theorem d_CP_together_56 : decode prog_1_method_18_code 56 = .ok (.bipush (-4), 2) := by decide +kernel
theorem d_CP_together_58 : decode prog_1_method_18_code 58 = .ok (.ireturn, 1) := by decide +kernel
theorem d_CP_together_59 : decode prog_1_method_18_code 59 = .ok (.aload_n 0, 1) := by decide +kernel
theorem d_CP_together_60 : decode prog_1_method_18_code 60 = .ok (.getfield 43, 3) := by decide +kernel
theorem d_CP_together_63 : decode prog_1_method_18_code 63 = .ok (.aload_n 0, 1) := by decide +kernel
theorem d_CP_together_64 : decode prog_1_method_18_code 64 = .ok (.getfield 19, 3) := by decide +kernel
theorem d_CP_together_67 : decode prog_1_method_18_code 67 = .ok (.lload_n 3, 1) := by decide +kernel
theorem d_CP_together_68 : decode prog_1_method_18_code 68 = .ok (.invokevirtual 180, 3) := by decide +kernel
theorem d_CP_together_71 : decode prog_1_method_18_code 71 = .ok (.aload_n 0, 1) := by decide +kernel
theorem d_CP_together_72 : decode prog_1_method_18_code 72 = .ok (.getfield 43, 3) := by decide +kernel
theorem d_CP_together_75 : decode prog_1_method_18_code 75 = .ok (.iload_n 1, 1) := by decide +kernel
theorem d_CP_together_76 : decode prog_1_method_18_code 76 = .ok (.invokevirtual 184, 3) := by decide +kernel
theorem d_CP_together_79 : decode prog_1_method_18_code 79 = .ok (.iload_n 2, 1) := by decide +kernel
theorem d_CP_together_80 : decode prog_1_method_18_code 80 = .ok (.invokestatic 124, 3) := by decide +kernel
theorem d_CP_together_83 : decode prog_1_method_18_code 83 = .ok (.ifCond .eq 7, 3) := by decide +kernel
theorem d_CP_together_86 : decode prog_1_method_18_code 86 = .ok (.iconst 1, 1) := by decide +kernel
theorem d_CP_together_87 : decode prog_1_method_18_code 87 = .ok (.goto 4, 3) := by decide +kernel
theorem d_CP_together_90 : decode prog_1_method_18_code 90 = .ok (.iconst 0, 1) := by decide +kernel
theorem d_CP_together_91 : decode prog_1_method_18_code 91 = .ok (.ireturn, 1) := by decide +kernel
set_option maxHeartbeats 4000000 in
set_option maxRecDepth 100000 in
theorem c_CP_together_b (l : Launch) (dC : Nat → ClassId) (dI : Nat → Nat → Nat) (cI cJ cZ : ClassId) (cp g k k2 fl co sp : Nat) (a1 a2 nd ar : Nat) (pr : Int64) (x y : Int32) (har : ar ≤ 41) (hbad : (vd x ar && lb pr x.toNatClampNeg) = false) : Met l ⟨"CutPoints", "together", "(II)I"⟩ (Cond.code ⟨"CutPoints", "together", "(II)I"⟩ prog_1_method_18_code 5 (some .int) :: TT) (rmk 2 43) (PR dC dI cI cJ cZ [.ref cp, .int x, .int y] [(cp, .inr (0, [.ref g, .ref k, .ref k2, .ref fl, .ref co, .ref sp])), (g, .inr (1, [.ref a1, .ref a2, .int (nI nd), .int (nI ar), .long pr]))]) (vp_Si (fun r => r = -1)) 0 0 (fun _ => False) := by
  refine Met.ofW (cc := prog_1_method_18_code) (maxL := 5) (ret := (some .int)) (by decide) rfl ?_
  intro p e s m args below meth c s₁ BB9 hml hv
  obtain ⟨rfl, hP, hK⟩ := hv
  have hx := BB9.exec
  have hb := BB9.bytes
  have hr := BB9.returns
  have hts : ∀ w ∈ TT, w.before _ s = true := fun w h => atoms_spec (ws := (Cond.code ⟨"CutPoints", "together", "(II)I"⟩ prog_1_method_18_code 5 (some .int) :: TT)) BB9.pre w (List.mem_cons_of_mem _ h)
  have hown : s.vm.findClass "CutPoints" = some m.cls := findClass_of_methodNamed BB9.named
  have hlocks := BB9.notSynchronized
  have hl := lv_entry ([.ref cp, .int x, .int y]) (n := 5) (Nat.le_of_ble_eq_true rfl)
  rw [lg_entry_eq]
  generalize (lg_sl ([.ref cp, .int x, .int y]) ++ List.replicate (5 - (lg_sl ([.ref cp, .int x, .int y])).length) Slot.unset).toArray = ls at hl ⊢
  have hl : lv_has ls 5 [(0, .ref cp), (1, .int x), (2, .int y)] := hl
  refine lv_aload_n hx hb d_CP_together_0 rfl (lv_at hl 0 rfl) ?_
  refine va_get (D := (dC, dI)) (ci := 0) (v := .ref g) (C := R_CP) (T := F_CP) (N := 6) hx hb hts in_CP hown hK.1 hP 0 rfl rfl 0 (by decide) (hts _ wfl_CP_12) (fun _ h9 => h9) rfl d_CP_together_1 ?_
  refine lv_iload_n hx hb d_CP_together_4 rfl (lv_at hl 1 rfl) ?_
  refine vp_callSi (va_Run.run (k_V (n := 1) (C := R_GR) (rest := []) ⟨hx, hb, hml, hown, hts⟩ (c_GR_isThere l dC dI cI cJ cZ g a1 a2 nd ar pr x (by first | assumption | omega)) wml_CP_73 wim_GR_isThere wsel_GR_isThere wini_GR wcode_GR_isThere (by decide +kernel) ⟨Nat.le_of_ble_eq_true rfl, Nat.le_of_ble_eq_true rfl⟩ (preV_R (q := (R_GR, F_GR, 5)) (ci := 1) (q0 := 0) (hP.sub (ws' := [(g, .inr (1, [.ref a1, .ref a2, .int (nI nd), .int (nI ar), .long pr]))]) [1] rfl) hK rfl rfl) rfl hl.1 rfl (Nat.le_of_ble_eq_true rfl) d_CP_together_5 ⟨Nat.zero_le _, Nat.zero_le _⟩)) (fun r_1 hr_2 => ?_)
  refine xe_i (y := (bI (vd x ar && lb pr x.toNatClampNeg))) hr_2 ?_
  refine xe_i (y := (bI false)) (by rw [hbad]) ?_
  refine lv_if_eq (tgt := 22) hx hb d_CP_together_8 (by decide) (fun _ => ?_) (fun c9 => absurd (by decide : ((bI false) : Int32) = 0) c9)
  refine lv_iconst (v := (-1)) hx hb d_CP_together_22 (by decide) ?_
  exact W.iret (v := (-1)) hx hb hr (fun t9 ht9 _ => ⟨_, rfl, rfl, ht9⟩) t_nil d_CP_together_23

set_option maxHeartbeats 4000000 in
set_option maxRecDepth 100000 in
theorem c_CP_together_c (l : Launch) (dC : Nat → ClassId) (dI : Nat → Nat → Nat) (cI cJ cZ : ClassId) (cp g k k2 fl co sp : Nat) (a1 a2 nd ar : Nat) (pr : Int64) (x : Nat) (y : Int32) (har : ar ≤ 41) (hxn : x < ar) (hxl : lb pr x = true) (hbad : (vd y ar && lb pr y.toNatClampNeg) = false) : Met l ⟨"CutPoints", "together", "(II)I"⟩ (Cond.code ⟨"CutPoints", "together", "(II)I"⟩ prog_1_method_18_code 5 (some .int) :: TT) (rmk 2 43) (PR dC dI cI cJ cZ [.ref cp, .int (nI x), .int y] [(cp, .inr (0, [.ref g, .ref k, .ref k2, .ref fl, .ref co, .ref sp])), (g, .inr (1, [.ref a1, .ref a2, .int (nI nd), .int (nI ar), .long pr]))]) (vp_Si (fun r => r = -1)) 0 0 (fun _ => False) := by
  refine Met.ofW (cc := prog_1_method_18_code) (maxL := 5) (ret := (some .int)) (by decide) rfl ?_
  intro p e s m args below meth c s₁ BB9 hml hv
  obtain ⟨rfl, hP, hK⟩ := hv
  have hx := BB9.exec
  have hb := BB9.bytes
  have hr := BB9.returns
  have hts : ∀ w ∈ TT, w.before _ s = true := fun w h => atoms_spec (ws := (Cond.code ⟨"CutPoints", "together", "(II)I"⟩ prog_1_method_18_code 5 (some .int) :: TT)) BB9.pre w (List.mem_cons_of_mem _ h)
  have hown : s.vm.findClass "CutPoints" = some m.cls := findClass_of_methodNamed BB9.named
  have hlocks := BB9.notSynchronized
  have hl := lv_entry ([.ref cp, .int (nI x), .int y]) (n := 5) (Nat.le_of_ble_eq_true rfl)
  rw [lg_entry_eq]
  generalize (lg_sl ([.ref cp, .int (nI x), .int y]) ++ List.replicate (5 - (lg_sl ([.ref cp, .int (nI x), .int y])).length) Slot.unset).toArray = ls at hl ⊢
  have hl : lv_has ls 5 [(0, .ref cp), (1, .int (nI x)), (2, .int y)] := hl
  refine lv_aload_n hx hb d_CP_together_0 rfl (lv_at hl 0 rfl) ?_
  refine va_get (D := (dC, dI)) (ci := 0) (v := .ref g) (C := R_CP) (T := F_CP) (N := 6) hx hb hts in_CP hown hK.1 hP 0 rfl rfl 0 (by decide) (hts _ wfl_CP_12) (fun _ h9 => h9) rfl d_CP_together_1 ?_
  refine lv_iload_n hx hb d_CP_together_4 rfl (lv_at hl 1 rfl) ?_
  refine vp_callSi (va_Run.run (k_V (n := 1) (C := R_GR) (rest := []) ⟨hx, hb, hml, hown, hts⟩ (c_GR_isThere l dC dI cI cJ cZ g a1 a2 nd ar pr (nI x) (by first | assumption | omega)) wml_CP_73 wim_GR_isThere wsel_GR_isThere wini_GR wcode_GR_isThere (by decide +kernel) ⟨Nat.le_of_ble_eq_true rfl, Nat.le_of_ble_eq_true rfl⟩ (preV_R (q := (R_GR, F_GR, 5)) (ci := 1) (q0 := 0) (hP.sub (ws' := [(g, .inr (1, [.ref a1, .ref a2, .int (nI nd), .int (nI ar), .long pr]))]) [1] rfl) hK rfl rfl) rfl hl.1 rfl (Nat.le_of_ble_eq_true rfl) d_CP_together_5 ⟨Nat.zero_le _, Nat.zero_le _⟩)) (fun r_1 hr_2 => ?_)
  refine xe_i (y := (bI (vd (nI x) ar && lb pr (nI x).toNatClampNeg))) hr_2 ?_
  refine xe_i (y := (bI true)) (by rw [th_tt (by omega) hxn hxl]) ?_
  refine lv_if_eq (tgt := 22) hx hb d_CP_together_8 (by decide) (fun c9 => absurd c9 (by decide : ¬ ((bI true) : Int32) = 0)) (fun _ => ?_)
  refine lv_aload_n hx hb d_CP_together_11 rfl (lv_at hl 0 rfl) ?_
  refine va_get (D := (dC, dI)) (ci := 0) (v := .ref g) (C := R_CP) (T := F_CP) (N := 6) hx hb hts in_CP hown hK.1 hP 0 rfl rfl 0 (by decide) (hts _ wfl_CP_12) (fun _ h9 => h9) rfl d_CP_together_12 ?_
  refine lv_iload_n hx hb d_CP_together_15 rfl (lv_at hl 2 rfl) ?_
  refine vp_callSi (va_Run.run (k_V (n := 1) (C := R_GR) (rest := []) ⟨hx, hb, hml, hown, hts⟩ (c_GR_isThere l dC dI cI cJ cZ g a1 a2 nd ar pr y (by first | assumption | omega)) wml_CP_73 wim_GR_isThere wsel_GR_isThere wini_GR wcode_GR_isThere (by decide +kernel) ⟨Nat.le_of_ble_eq_true rfl, Nat.le_of_ble_eq_true rfl⟩ (preV_R (q := (R_GR, F_GR, 5)) (ci := 1) (q0 := 0) (hP.sub (ws' := [(g, .inr (1, [.ref a1, .ref a2, .int (nI nd), .int (nI ar), .long pr]))]) [1] rfl) hK rfl rfl) rfl hl.1 rfl (Nat.le_of_ble_eq_true rfl) d_CP_together_16 ⟨Nat.zero_le _, Nat.zero_le _⟩)) (fun r_4 hr_5 => ?_)
  refine xe_i (y := (bI (vd y ar && lb pr y.toNatClampNeg))) hr_5 ?_
  refine xe_i (y := (bI false)) (by rw [hbad]) ?_
  refine lv_if_ne (tgt := 24) hx hb d_CP_together_19 (by decide) (fun c9 => absurd (by decide : ((bI false) : Int32) = 0) c9) (fun _ => ?_)
  refine lv_iconst (v := (-1)) hx hb d_CP_together_22 (by decide) ?_
  exact W.iret (v := (-1)) hx hb hr (fun t9 ht9 _ => ⟨_, rfl, rfl, ht9⟩) t_nil d_CP_together_23

set_option maxHeartbeats 4000000 in
set_option maxRecDepth 100000 in
theorem c_CP_together_n (l : Launch) (dC : Nat → ClassId) (dI : Nat → Nat → Nat) (cI cJ cZ : ClassId) (cp g k k2 fl co sp : Nat) (a1 a2 nd ar : Nat) (pr : Int64) (F G : Nat → Nat) (hGA : GAR F G nd ar pr) (nr fr rs at_ h : Nat) (al : Int32) (br : Int64) (N Fm : Nat → Int32) (A : Nat → Int64) (b1 z : Nat) (Se : Nat → Int64) (hSK : SKI (lb pr) F G nd N Fm A Se z al br) (x : Nat) (hxn : x < ar) (hxl : lb pr x = true) (y : Nat) (hyn : y < ar) (hyl : lb pr y = true) (i0 : Nat) (hi0 : i0 < z) (he : lb (Se i0) x = true) (hf : lb (Se i0) y = false) : Met l ⟨"CutPoints", "together", "(II)I"⟩ (Cond.code ⟨"CutPoints", "together", "(II)I"⟩ prog_1_method_18_code 5 (some .int) :: TT) (rmk 2 44) (PR dC dI cI cJ cZ [.ref cp, .int (nI x), .int (nI y)] [(cp, .inr (0, [.ref g, .ref k, .ref k2, .ref fl, .ref co, .ref sp])), (g, .inr (1, [.ref a1, .ref a2, .int (nI nd), .int (nI ar), .long pr])), (k, .inr (2, [.ref nr, .ref fr, .ref rs, .ref at_, .ref h, .int al, .long br])), (h, .inr (3, [.ref b1, .int (nI z)])), (b1, .inl (cJ, 41, .inr (.inl Se)))]) (vp_Si (fun r => r = -3)) 0 0 (fun _ => False) := by
  refine Met.ofW (cc := prog_1_method_18_code) (maxL := 5) (ret := (some .int)) (by decide) rfl ?_
  intro p e s m args below meth c s₁ BB9 hml hv
  obtain ⟨rfl, hP, hK⟩ := hv
  have hx := BB9.exec
  have hb := BB9.bytes
  have hr := BB9.returns
  have hts : ∀ w ∈ TT, w.before _ s = true := fun w h => atoms_spec (ws := (Cond.code ⟨"CutPoints", "together", "(II)I"⟩ prog_1_method_18_code 5 (some .int) :: TT)) BB9.pre w (List.mem_cons_of_mem _ h)
  have hown : s.vm.findClass "CutPoints" = some m.cls := findClass_of_methodNamed BB9.named
  have hlocks := BB9.notSynchronized
  have hnd14 := hGA.1
  have har40 := hGA.2.1
  have hl := lv_entry ([.ref cp, .int (nI x), .int (nI y)]) (n := 5) (Nat.le_of_ble_eq_true rfl)
  rw [lg_entry_eq]
  generalize (lg_sl ([.ref cp, .int (nI x), .int (nI y)]) ++ List.replicate (5 - (lg_sl ([.ref cp, .int (nI x), .int (nI y)])).length) Slot.unset).toArray = ls at hl ⊢
  have hl : lv_has ls 5 [(0, .ref cp), (1, .int (nI x)), (2, .int (nI y))] := hl
  refine lv_aload_n hx hb d_CP_together_0 rfl (lv_at hl 0 rfl) ?_
  refine va_get (D := (dC, dI)) (ci := 0) (v := .ref g) (C := R_CP) (T := F_CP) (N := 6) hx hb hts in_CP hown hK.1 hP 0 rfl rfl 0 (by decide) (hts _ wfl_CP_12) (fun _ h9 => h9) rfl d_CP_together_1 ?_
  refine lv_iload_n hx hb d_CP_together_4 rfl (lv_at hl 1 rfl) ?_
  refine vp_callSi (va_Run.run (k_V (n := 1) (C := R_GR) (rest := []) ⟨hx, hb, hml, hown, hts⟩ (c_GR_isThere l dC dI cI cJ cZ g a1 a2 nd ar pr (nI x) (by first | assumption | omega)) wml_CP_73 wim_GR_isThere wsel_GR_isThere wini_GR wcode_GR_isThere (by decide +kernel) ⟨Nat.le_of_ble_eq_true rfl, Nat.le_of_ble_eq_true rfl⟩ (preV_R (q := (R_GR, F_GR, 5)) (ci := 1) (q0 := 0) (hP.sub (ws' := [(g, .inr (1, [.ref a1, .ref a2, .int (nI nd), .int (nI ar), .long pr]))]) [1] rfl) hK rfl rfl) rfl hl.1 rfl (Nat.le_of_ble_eq_true rfl) d_CP_together_5 ⟨Nat.zero_le _, Nat.zero_le _⟩)) (fun r_1 hr_2 => ?_)
  refine xe_i (y := (bI (vd (nI x) ar && lb pr (nI x).toNatClampNeg))) hr_2 ?_
  refine xe_i (y := (bI true)) (by rw [th_tt (by omega) hxn hxl]) ?_
  refine lv_if_eq (tgt := 22) hx hb d_CP_together_8 (by decide) (fun c9 => absurd c9 (by decide : ¬ ((bI true) : Int32) = 0)) (fun _ => ?_)
  refine lv_aload_n hx hb d_CP_together_11 rfl (lv_at hl 0 rfl) ?_
  refine va_get (D := (dC, dI)) (ci := 0) (v := .ref g) (C := R_CP) (T := F_CP) (N := 6) hx hb hts in_CP hown hK.1 hP 0 rfl rfl 0 (by decide) (hts _ wfl_CP_12) (fun _ h9 => h9) rfl d_CP_together_12 ?_
  refine lv_iload_n hx hb d_CP_together_15 rfl (lv_at hl 2 rfl) ?_
  refine vp_callSi (va_Run.run (k_V (n := 1) (C := R_GR) (rest := []) ⟨hx, hb, hml, hown, hts⟩ (c_GR_isThere l dC dI cI cJ cZ g a1 a2 nd ar pr (nI y) (by first | assumption | omega)) wml_CP_73 wim_GR_isThere wsel_GR_isThere wini_GR wcode_GR_isThere (by decide +kernel) ⟨Nat.le_of_ble_eq_true rfl, Nat.le_of_ble_eq_true rfl⟩ (preV_R (q := (R_GR, F_GR, 5)) (ci := 1) (q0 := 0) (hP.sub (ws' := [(g, .inr (1, [.ref a1, .ref a2, .int (nI nd), .int (nI ar), .long pr]))]) [1] rfl) hK rfl rfl) rfl hl.1 rfl (Nat.le_of_ble_eq_true rfl) d_CP_together_16 ⟨Nat.zero_le _, Nat.zero_le _⟩)) (fun r_4 hr_5 => ?_)
  refine xe_i (y := (bI (vd (nI y) ar && lb pr (nI y).toNatClampNeg))) hr_5 ?_
  refine xe_i (y := (bI true)) (by rw [th_tt (by omega) hyn hyl]) ?_
  refine lv_if_ne (tgt := 24) hx hb d_CP_together_19 (by decide) (fun _ => ?_) (fun c9 => absurd c9 (by decide : ¬ ((bI true) : Int32) = 0))
  refine lv_aload_n hx hb d_CP_together_24 rfl (lv_at hl 0 rfl) ?_
  refine va_get (D := (dC, dI)) (ci := 0) (v := .ref k) (C := R_CP) (T := F_CP) (N := 6) hx hb hts in_CP hown hK.1 hP 0 rfl rfl 1 (by decide) (hts _ wfl_CP_19) (fun _ h9 => h9) rfl d_CP_together_25 ?_
  refine va_get (D := (dC, dI)) (ci := 2) (v := .ref h) (C := R_SK) (T := F_SK) (N := 7) hx hb hts in_SK hown hK.1 hP 2 rfl rfl 4 (by decide) (hts _ wfl_CP_92) (fun _ h9 => h9) rfl d_CP_together_28 ?_
  refine lv_iload_n hx hb d_CP_together_31 rfl (lv_at hl 1 rfl) ?_
  refine vp_callSl (va_Run.run (k_V (n := 1) (C := R_GP) (rest := []) ⟨hx, hb, hml, hown, hts⟩ (c_GP_holding l dC dI cI cJ cZ h b1 z Se x (by first | assumption | omega) hSK.2.2.2.2.1.le) wml_CP_131 wim_GP_holding wsel_GP_holding wini_GP wcode_GP_holding (by decide +kernel) ⟨Nat.le_of_ble_eq_true rfl, Nat.le_of_ble_eq_true rfl⟩ (preV_R (q := (R_GP, F_GP, 2)) (ci := 3) (q0 := 0) (hP.sub (ws' := [(h, .inr (3, [.ref b1, .int (nI z)])), (b1, .inl (cJ, 41, .inr (.inl Se)))]) [3, 4] rfl) hK rfl rfl) rfl hl.1 rfl (Nat.le_of_ble_eq_true rfl) d_CP_together_32 ⟨Nat.zero_le _, Nat.zero_le _⟩)) (fun r_7 hr_8 => ?_)
  refine xe_l (y := (Se i0)) (hold_eq hSK.2.2.2.2.1 hi0 he hr_8) ?_
  refine lv_lstore_n (lv' := [(3, .long (Se i0)), (0, .ref cp), (1, .int (nI x)), (2, .int (nI y))]) hx hb d_CP_together_35 rfl hl (by decide) rfl (fun ls hl => ?_)
  refine lv_lload_n hx hb d_CP_together_36 rfl (lv_at hl 0 rfl) ?_
  refine lv_iload_n hx hb d_CP_together_37 rfl (lv_at hl 3 rfl) ?_
  refine vp_callSi (va_Run.run (k_S (n := 2) (rest := []) ⟨hx, hb, hml, hown, hts⟩ (c_CP_hasBit l dC dI cI cJ cZ (Se i0) y (by first | assumption | omega)) wml_CP_124 wst_CP_hasBit wini_CP wcode_CP_hasBit (by decide +kernel) ⟨Nat.le_of_ble_eq_true rfl, Nat.le_of_ble_eq_true rfl⟩ (pre_R (hP.sub (ws' := []) [] rfl) hK) rfl hl.1 rfl (Nat.le_of_ble_eq_true rfl) d_CP_together_38 ⟨Nat.zero_le _, Nat.zero_le _⟩)) (fun r_9 hr_10 => ?_)
  refine xe_i (y := (bI (lb (Se i0) y))) hr_10 ?_
  refine x_if_ne (tgt := 47) hx hb d_CP_together_41 (by decide) (fun c_11 => ?_) (fun c_11 => ?_)
  · skip
    rw [hf] at c_11; cases c_11
  · skip
    refine lv_bipush (v := (-3)) hx hb d_CP_together_44 (by decide) ?_
    exact W.iret (v := (-3)) hx hb hr (fun t9 ht9 _ => ⟨_, rfl, rfl, ht9⟩) t_nil d_CP_together_46

set_option maxHeartbeats 4000000 in
set_option maxRecDepth 100000 in
theorem c_CP_together_l (l : Launch) (dC : Nat → ClassId) (dI : Nat → Nat → Nat) (cI cJ cZ : ClassId) (cp g k k2 fl co sp : Nat) (a1 a2 nd ar : Nat) (pr : Int64) (F G : Nat → Nat) (hGA : GAR F G nd ar pr) (nr fr rs at_ h : Nat) (al : Int32) (br : Int64) (N Fm : Nat → Int32) (A : Nat → Int64) (b1 z : Nat) (Se : Nat → Int64) (hSK : SKI (lb pr) F G nd N Fm A Se z al br) (x : Nat) (hxn : x < ar) (hxl : lb pr x = true) (y : Nat) (hyn : y < ar) (hyl : lb pr y = true) (i0 : Nat) (hi0 : i0 < z) (he : lb (Se i0) x = true) (hf : lb (Se i0) y = true) (h14 : 14 < cn (lb (Se i0)) 64) : Met l ⟨"CutPoints", "together", "(II)I"⟩ (Cond.code ⟨"CutPoints", "together", "(II)I"⟩ prog_1_method_18_code 5 (some .int) :: TT) (rmk 2 44) (PR dC dI cI cJ cZ [.ref cp, .int (nI x), .int (nI y)] [(cp, .inr (0, [.ref g, .ref k, .ref k2, .ref fl, .ref co, .ref sp])), (g, .inr (1, [.ref a1, .ref a2, .int (nI nd), .int (nI ar), .long pr])), (k, .inr (2, [.ref nr, .ref fr, .ref rs, .ref at_, .ref h, .int al, .long br])), (h, .inr (3, [.ref b1, .int (nI z)])), (b1, .inl (cJ, 41, .inr (.inl Se)))]) (vp_Si (fun r => r = -4)) 0 0 (fun _ => False) := by
  refine Met.ofW (cc := prog_1_method_18_code) (maxL := 5) (ret := (some .int)) (by decide) rfl ?_
  intro p e s m args below meth c s₁ BB9 hml hv
  obtain ⟨rfl, hP, hK⟩ := hv
  have hx := BB9.exec
  have hb := BB9.bytes
  have hr := BB9.returns
  have hts : ∀ w ∈ TT, w.before _ s = true := fun w h => atoms_spec (ws := (Cond.code ⟨"CutPoints", "together", "(II)I"⟩ prog_1_method_18_code 5 (some .int) :: TT)) BB9.pre w (List.mem_cons_of_mem _ h)
  have hown : s.vm.findClass "CutPoints" = some m.cls := findClass_of_methodNamed BB9.named
  have hlocks := BB9.notSynchronized
  have hnd14 := hGA.1
  have har40 := hGA.2.1
  have hl := lv_entry ([.ref cp, .int (nI x), .int (nI y)]) (n := 5) (Nat.le_of_ble_eq_true rfl)
  rw [lg_entry_eq]
  generalize (lg_sl ([.ref cp, .int (nI x), .int (nI y)]) ++ List.replicate (5 - (lg_sl ([.ref cp, .int (nI x), .int (nI y)])).length) Slot.unset).toArray = ls at hl ⊢
  have hl : lv_has ls 5 [(0, .ref cp), (1, .int (nI x)), (2, .int (nI y))] := hl
  refine lv_aload_n hx hb d_CP_together_0 rfl (lv_at hl 0 rfl) ?_
  refine va_get (D := (dC, dI)) (ci := 0) (v := .ref g) (C := R_CP) (T := F_CP) (N := 6) hx hb hts in_CP hown hK.1 hP 0 rfl rfl 0 (by decide) (hts _ wfl_CP_12) (fun _ h9 => h9) rfl d_CP_together_1 ?_
  refine lv_iload_n hx hb d_CP_together_4 rfl (lv_at hl 1 rfl) ?_
  refine vp_callSi (va_Run.run (k_V (n := 1) (C := R_GR) (rest := []) ⟨hx, hb, hml, hown, hts⟩ (c_GR_isThere l dC dI cI cJ cZ g a1 a2 nd ar pr (nI x) (by first | assumption | omega)) wml_CP_73 wim_GR_isThere wsel_GR_isThere wini_GR wcode_GR_isThere (by decide +kernel) ⟨Nat.le_of_ble_eq_true rfl, Nat.le_of_ble_eq_true rfl⟩ (preV_R (q := (R_GR, F_GR, 5)) (ci := 1) (q0 := 0) (hP.sub (ws' := [(g, .inr (1, [.ref a1, .ref a2, .int (nI nd), .int (nI ar), .long pr]))]) [1] rfl) hK rfl rfl) rfl hl.1 rfl (Nat.le_of_ble_eq_true rfl) d_CP_together_5 ⟨Nat.zero_le _, Nat.zero_le _⟩)) (fun r_1 hr_2 => ?_)
  refine xe_i (y := (bI (vd (nI x) ar && lb pr (nI x).toNatClampNeg))) hr_2 ?_
  refine xe_i (y := (bI true)) (by rw [th_tt (by omega) hxn hxl]) ?_
  refine lv_if_eq (tgt := 22) hx hb d_CP_together_8 (by decide) (fun c9 => absurd c9 (by decide : ¬ ((bI true) : Int32) = 0)) (fun _ => ?_)
  refine lv_aload_n hx hb d_CP_together_11 rfl (lv_at hl 0 rfl) ?_
  refine va_get (D := (dC, dI)) (ci := 0) (v := .ref g) (C := R_CP) (T := F_CP) (N := 6) hx hb hts in_CP hown hK.1 hP 0 rfl rfl 0 (by decide) (hts _ wfl_CP_12) (fun _ h9 => h9) rfl d_CP_together_12 ?_
  refine lv_iload_n hx hb d_CP_together_15 rfl (lv_at hl 2 rfl) ?_
  refine vp_callSi (va_Run.run (k_V (n := 1) (C := R_GR) (rest := []) ⟨hx, hb, hml, hown, hts⟩ (c_GR_isThere l dC dI cI cJ cZ g a1 a2 nd ar pr (nI y) (by first | assumption | omega)) wml_CP_73 wim_GR_isThere wsel_GR_isThere wini_GR wcode_GR_isThere (by decide +kernel) ⟨Nat.le_of_ble_eq_true rfl, Nat.le_of_ble_eq_true rfl⟩ (preV_R (q := (R_GR, F_GR, 5)) (ci := 1) (q0 := 0) (hP.sub (ws' := [(g, .inr (1, [.ref a1, .ref a2, .int (nI nd), .int (nI ar), .long pr]))]) [1] rfl) hK rfl rfl) rfl hl.1 rfl (Nat.le_of_ble_eq_true rfl) d_CP_together_16 ⟨Nat.zero_le _, Nat.zero_le _⟩)) (fun r_4 hr_5 => ?_)
  refine xe_i (y := (bI (vd (nI y) ar && lb pr (nI y).toNatClampNeg))) hr_5 ?_
  refine xe_i (y := (bI true)) (by rw [th_tt (by omega) hyn hyl]) ?_
  refine lv_if_ne (tgt := 24) hx hb d_CP_together_19 (by decide) (fun _ => ?_) (fun c9 => absurd c9 (by decide : ¬ ((bI true) : Int32) = 0))
  refine lv_aload_n hx hb d_CP_together_24 rfl (lv_at hl 0 rfl) ?_
  refine va_get (D := (dC, dI)) (ci := 0) (v := .ref k) (C := R_CP) (T := F_CP) (N := 6) hx hb hts in_CP hown hK.1 hP 0 rfl rfl 1 (by decide) (hts _ wfl_CP_19) (fun _ h9 => h9) rfl d_CP_together_25 ?_
  refine va_get (D := (dC, dI)) (ci := 2) (v := .ref h) (C := R_SK) (T := F_SK) (N := 7) hx hb hts in_SK hown hK.1 hP 2 rfl rfl 4 (by decide) (hts _ wfl_CP_92) (fun _ h9 => h9) rfl d_CP_together_28 ?_
  refine lv_iload_n hx hb d_CP_together_31 rfl (lv_at hl 1 rfl) ?_
  refine vp_callSl (va_Run.run (k_V (n := 1) (C := R_GP) (rest := []) ⟨hx, hb, hml, hown, hts⟩ (c_GP_holding l dC dI cI cJ cZ h b1 z Se x (by first | assumption | omega) hSK.2.2.2.2.1.le) wml_CP_131 wim_GP_holding wsel_GP_holding wini_GP wcode_GP_holding (by decide +kernel) ⟨Nat.le_of_ble_eq_true rfl, Nat.le_of_ble_eq_true rfl⟩ (preV_R (q := (R_GP, F_GP, 2)) (ci := 3) (q0 := 0) (hP.sub (ws' := [(h, .inr (3, [.ref b1, .int (nI z)])), (b1, .inl (cJ, 41, .inr (.inl Se)))]) [3, 4] rfl) hK rfl rfl) rfl hl.1 rfl (Nat.le_of_ble_eq_true rfl) d_CP_together_32 ⟨Nat.zero_le _, Nat.zero_le _⟩)) (fun r_7 hr_8 => ?_)
  refine xe_l (y := (Se i0)) (hold_eq hSK.2.2.2.2.1 hi0 he hr_8) ?_
  refine lv_lstore_n (lv' := [(3, .long (Se i0)), (0, .ref cp), (1, .int (nI x)), (2, .int (nI y))]) hx hb d_CP_together_35 rfl hl (by decide) rfl (fun ls hl => ?_)
  refine lv_lload_n hx hb d_CP_together_36 rfl (lv_at hl 0 rfl) ?_
  refine lv_iload_n hx hb d_CP_together_37 rfl (lv_at hl 3 rfl) ?_
  refine vp_callSi (va_Run.run (k_S (n := 2) (rest := []) ⟨hx, hb, hml, hown, hts⟩ (c_CP_hasBit l dC dI cI cJ cZ (Se i0) y (by first | assumption | omega)) wml_CP_124 wst_CP_hasBit wini_CP wcode_CP_hasBit (by decide +kernel) ⟨Nat.le_of_ble_eq_true rfl, Nat.le_of_ble_eq_true rfl⟩ (pre_R (hP.sub (ws' := []) [] rfl) hK) rfl hl.1 rfl (Nat.le_of_ble_eq_true rfl) d_CP_together_38 ⟨Nat.zero_le _, Nat.zero_le _⟩)) (fun r_9 hr_10 => ?_)
  refine xe_i (y := (bI (lb (Se i0) y))) hr_10 ?_
  refine x_if_ne (tgt := 47) hx hb d_CP_together_41 (by decide) (fun c_11 => ?_) (fun c_11 => ?_)
  · skip
    refine lv_lload_n hx hb d_CP_together_47 rfl (lv_at hl 0 rfl) ?_
    refine vp_callSi (va_Run.run (k_S (n := 1) (rest := []) ⟨hx, hb, hml, hown, hts⟩ (c_JL_bitCount l dC dI cI cJ cZ (Se i0)) wml_CP_76 wst_JL_bitCount wini_JL wcode_JL_bitCount (by decide +kernel) ⟨Nat.le_of_ble_eq_true rfl, Nat.le_of_ble_eq_true rfl⟩ (pre_R (hP.sub (ws' := []) [] rfl) hK) rfl hl.1 rfl (Nat.le_of_ble_eq_true rfl) d_CP_together_48 ⟨Nat.zero_le _, Nat.zero_le _⟩)) (fun r_12 hr_13 => ?_)
    refine xe_i (y := (nI (cn (lb (Se i0)) 64))) hr_13 ?_
    refine lv_bipush (v := (nI 14)) hx hb d_CP_together_51 (by decide) ?_
    refine x_cmp_le (a := (cn (lb (Se i0)) 64)) (b := 14) (tgt := 59) hx hb (Nat.lt_of_le_of_lt (cn_le _ _) (by decide)) (by omega) d_CP_together_53 (by decide) (fun c_14 => ?_) (fun c_14 => ?_)
    · skip
      omega
    · skip
      refine lv_bipush (v := (-4)) hx hb d_CP_together_56 (by decide) ?_
      exact W.iret (v := (-4)) hx hb hr (fun t9 ht9 _ => ⟨_, rfl, rfl, ht9⟩) t_nil d_CP_together_58
  · skip
    rw [hf] at c_11; cases c_11

set_option maxHeartbeats 4000000 in
set_option maxRecDepth 100000 in
theorem c_CP_together_k (l : Launch) (dC : Nat → ClassId) (dI : Nat → Nat → Nat) (cI cJ cZ : ClassId) (cp g k k2 fl co sp : Nat) (a1 a2 nd ar : Nat) (pr : Int64) (F G : Nat → Nat) (hGA : GAR F G nd ar pr) (nr fr rs at_ h : Nat) (al : Int32) (br : Int64) (N Fm : Nat → Int32) (A : Nat → Int64) (b1 z : Nat) (Se : Nat → Int64) (hSK : SKI (lb pr) F G nd N Fm A Se z al br) (gg pi bo gd : Nat) (pci gci : Int32) (bl0 : Int64) (gs : Nat) (zi : Int32) (Sg Pi : Nat → Int64) (Bo : Nat → Nat) (Gd : Nat → Int64) (hB0 : Bo 0 = 0) (x : Nat) (hxn : x < ar) (hxl : lb pr x = true) (y : Nat) (hyn : y < ar) (hyl : lb pr y = true) (i0 : Nat) (hi0 : i0 < z) (he : lb (Se i0) x = true) (hf : lb (Se i0) y = true) (h14 : cn (lb (Se i0)) 64 ≤ 14) : Met l ⟨"CutPoints", "together", "(II)I"⟩ (Cond.code ⟨"CutPoints", "together", "(II)I"⟩ prog_1_method_18_code 5 (some .int) :: TT) (rmk 5 114) (PM dC dI cI cJ cZ [.ref cp, .int (nI x), .int (nI y)] [(cp, .inr (0, [.ref g, .ref k, .ref k2, .ref fl, .ref co, .ref sp])), (g, .inr (1, [.ref a1, .ref a2, .int (nI nd), .int (nI ar), .long pr])), (k, .inr (2, [.ref nr, .ref fr, .ref rs, .ref at_, .ref h, .int al, .long br])), (h, .inr (3, [.ref b1, .int (nI z)])), (b1, .inl (cJ, 41, .inr (.inl Se))), (at_, .inl (cJ, 14, .inr (.inl A))), (sp, .inr (6, [.ref gg, .ref pi, .ref bo, .int pci, .ref gd, .int gci, .long bl0])), (gg, .inr (3, [.ref gs, .int zi])), (gs, .inl (cJ, 41, .inr (.inl Sg))), (pi, .inl (cJ, 1274, .inr (.inl Pi))), (bo, .inl (cI, 92, .inl (nF Bo))), (gd, .inl (cJ, 14, .inr (.inl Gd)))]) (va_Qi (S := Nat × Nat × Int32 × (Nat → Int64) × (Nat → Int64) × (Nat → Nat) × (Nat → Int64)) (fun r u9 => (PCE A (Se i0) u9.2.2.2.2.1 u9.2.2.2.2.2.1 u9.1 14 15 ∧ fgI u9.2.2.2.2.1 u9.2.2.2.2.2.1 u9.1 (Se i0) u9.2.2.2.2.2.2 u9.2.1 u9.1) ∧ ∃ w, jwI u9.2.2.2.2.2.2 (Se i0) x w u9.2.1 ∧ r = bI (lb w y)) (fun u9 t9 => va_P (dC, dI) cls ([(cp, .inr (0, [.ref g, .ref k, .ref k2, .ref fl, .ref co, .ref sp])), (g, .inr (1, [.ref a1, .ref a2, .int (nI nd), .int (nI ar), .long pr])), (k, .inr (2, [.ref nr, .ref fr, .ref rs, .ref at_, .ref h, .int al, .long br])), (h, .inr (3, [.ref b1, .int (nI z)])), (b1, .inl (cJ, 41, .inr (.inl Se))), (at_, .inl (cJ, 14, .inr (.inl A))), (sp, .inr (6, [.ref gg, .ref pi, .ref bo, .int (nI u9.1), .ref gd, .int (nI u9.2.1), .long (Se i0)])), (gg, .inr (3, [.ref gs, .int u9.2.2.1])), (gs, .inl (cJ, 41, .inr (.inl u9.2.2.2.1))), (pi, .inl (cJ, 1274, .inr (.inl u9.2.2.2.2.1))), (bo, .inl (cI, 92, .inl (nF u9.2.2.2.2.2.1))), (gd, .inl (cJ, 14, .inr (.inl u9.2.2.2.2.2.2)))]) t9.heap) (ow [(cp, .inr (0, [.ref g, .ref k, .ref k2, .ref fl, .ref co, .ref sp])), (g, .inr (1, [.ref a1, .ref a2, .int (nI nd), .int (nI ar), .long pr])), (k, .inr (2, [.ref nr, .ref fr, .ref rs, .ref at_, .ref h, .int al, .long br])), (h, .inr (3, [.ref b1, .int (nI z)])), (b1, .inl (cJ, 41, .inr (.inl Se))), (at_, .inl (cJ, 14, .inr (.inl A))), (sp, .inr (6, [.ref gg, .ref pi, .ref bo, .int pci, .ref gd, .int gci, .long bl0])), (gg, .inr (3, [.ref gs, .int zi])), (gs, .inl (cJ, 41, .inr (.inl Sg))), (pi, .inl (cJ, 1274, .inr (.inl Pi))), (bo, .inl (cI, 92, .inl (nF Bo))), (gd, .inl (cJ, 14, .inr (.inl Gd)))])) 0 0 (ow [(cp, .inr (0, [.ref g, .ref k, .ref k2, .ref fl, .ref co, .ref sp])), (g, .inr (1, [.ref a1, .ref a2, .int (nI nd), .int (nI ar), .long pr])), (k, .inr (2, [.ref nr, .ref fr, .ref rs, .ref at_, .ref h, .int al, .long br])), (h, .inr (3, [.ref b1, .int (nI z)])), (b1, .inl (cJ, 41, .inr (.inl Se))), (at_, .inl (cJ, 14, .inr (.inl A))), (sp, .inr (6, [.ref gg, .ref pi, .ref bo, .int pci, .ref gd, .int gci, .long bl0])), (gg, .inr (3, [.ref gs, .int zi])), (gs, .inl (cJ, 41, .inr (.inl Sg))), (pi, .inl (cJ, 1274, .inr (.inl Pi))), (bo, .inl (cI, 92, .inl (nF Bo))), (gd, .inl (cJ, 14, .inr (.inl Gd)))]) := by
  refine Met.ofW (cc := prog_1_method_18_code) (maxL := 5) (ret := (some .int)) (by decide) rfl ?_
  intro p e s m args below meth c s₁ BB9 hml hv
  obtain ⟨rfl, hP, hK, hD0⟩ := hv
  have hx := BB9.exec
  have hb := BB9.bytes
  have hr := BB9.returns
  have hts : ∀ w ∈ TT, w.before _ s = true := fun w h => atoms_spec (ws := (Cond.code ⟨"CutPoints", "together", "(II)I"⟩ prog_1_method_18_code 5 (some .int) :: TT)) BB9.pre w (List.mem_cons_of_mem _ h)
  have hown : s.vm.findClass "CutPoints" = some m.cls := findClass_of_methodNamed BB9.named
  have hlocks := BB9.notSynchronized
  have hD := hD0.mine
  have hS : va_S (ow [(cp, .inr (0, [.ref g, .ref k, .ref k2, .ref fl, .ref co, .ref sp])), (g, .inr (1, [.ref a1, .ref a2, .int (nI nd), .int (nI ar), .long pr])), (k, .inr (2, [.ref nr, .ref fr, .ref rs, .ref at_, .ref h, .int al, .long br])), (h, .inr (3, [.ref b1, .int (nI z)])), (b1, .inl (cJ, 41, .inr (.inl Se))), (at_, .inl (cJ, 14, .inr (.inl A))), (sp, .inr (6, [.ref gg, .ref pi, .ref bo, .int pci, .ref gd, .int gci, .long bl0])), (gg, .inr (3, [.ref gs, .int zi])), (gs, .inl (cJ, 41, .inr (.inl Sg))), (pi, .inl (cJ, 1274, .inr (.inl Pi))), (bo, .inl (cI, 92, .inl (nF Bo))), (gd, .inl (cJ, 14, .inr (.inl Gd)))]) s.heap s.heap [] := va_S.rf
  have hnd14 := hGA.1
  have har40 := hGA.2.1
  have hl := lv_entry ([.ref cp, .int (nI x), .int (nI y)]) (n := 5) (Nat.le_of_ble_eq_true rfl)
  rw [lg_entry_eq]
  generalize (lg_sl ([.ref cp, .int (nI x), .int (nI y)]) ++ List.replicate (5 - (lg_sl ([.ref cp, .int (nI x), .int (nI y)])).length) Slot.unset).toArray = ls at hl ⊢
  have hl : lv_has ls 5 [(0, .ref cp), (1, .int (nI x)), (2, .int (nI y))] := hl
  refine lv_aload_n hx hb d_CP_together_0 rfl (lv_at hl 0 rfl) ?_
  refine va_get (D := (dC, dI)) (ci := 0) (v := .ref g) (C := R_CP) (T := F_CP) (N := 6) hx hb hts in_CP hown hK.1 hP 0 rfl rfl 0 (by decide) (hts _ wfl_CP_12) (fun _ h9 => h9) rfl d_CP_together_1 ?_
  refine lv_iload_n hx hb d_CP_together_4 rfl (lv_at hl 1 rfl) ?_
  refine vp_callSi (va_Run.run (k_V (n := 1) (C := R_GR) (rest := []) ⟨hx, hb, hml, hown, hts⟩ (c_GR_isThere l dC dI cI cJ cZ g a1 a2 nd ar pr (nI x) (by first | assumption | omega)) wml_CP_73 wim_GR_isThere wsel_GR_isThere wini_GR wcode_GR_isThere (by decide +kernel) ⟨Nat.le_of_ble_eq_true rfl, Nat.le_of_ble_eq_true rfl⟩ (preV_R (q := (R_GR, F_GR, 5)) (ci := 1) (q0 := 0) (hP.sub (ws' := [(g, .inr (1, [.ref a1, .ref a2, .int (nI nd), .int (nI ar), .long pr]))]) [1] rfl) hK rfl rfl) rfl hl.1 rfl (Nat.le_of_ble_eq_true rfl) d_CP_together_5 ⟨Nat.zero_le _, Nat.zero_le _⟩)) (fun r_1 hr_2 => ?_)
  refine xe_i (y := (bI (vd (nI x) ar && lb pr (nI x).toNatClampNeg))) hr_2 ?_
  refine xe_i (y := (bI true)) (by rw [th_tt (by omega) hxn hxl]) ?_
  refine lv_if_eq (tgt := 22) hx hb d_CP_together_8 (by decide) (fun c9 => absurd c9 (by decide : ¬ ((bI true) : Int32) = 0)) (fun _ => ?_)
  refine lv_aload_n hx hb d_CP_together_11 rfl (lv_at hl 0 rfl) ?_
  refine va_get (D := (dC, dI)) (ci := 0) (v := .ref g) (C := R_CP) (T := F_CP) (N := 6) hx hb hts in_CP hown hK.1 hP 0 rfl rfl 0 (by decide) (hts _ wfl_CP_12) (fun _ h9 => h9) rfl d_CP_together_12 ?_
  refine lv_iload_n hx hb d_CP_together_15 rfl (lv_at hl 2 rfl) ?_
  refine vp_callSi (va_Run.run (k_V (n := 1) (C := R_GR) (rest := []) ⟨hx, hb, hml, hown, hts⟩ (c_GR_isThere l dC dI cI cJ cZ g a1 a2 nd ar pr (nI y) (by first | assumption | omega)) wml_CP_73 wim_GR_isThere wsel_GR_isThere wini_GR wcode_GR_isThere (by decide +kernel) ⟨Nat.le_of_ble_eq_true rfl, Nat.le_of_ble_eq_true rfl⟩ (preV_R (q := (R_GR, F_GR, 5)) (ci := 1) (q0 := 0) (hP.sub (ws' := [(g, .inr (1, [.ref a1, .ref a2, .int (nI nd), .int (nI ar), .long pr]))]) [1] rfl) hK rfl rfl) rfl hl.1 rfl (Nat.le_of_ble_eq_true rfl) d_CP_together_16 ⟨Nat.zero_le _, Nat.zero_le _⟩)) (fun r_4 hr_5 => ?_)
  refine xe_i (y := (bI (vd (nI y) ar && lb pr (nI y).toNatClampNeg))) hr_5 ?_
  refine xe_i (y := (bI true)) (by rw [th_tt (by omega) hyn hyl]) ?_
  refine lv_if_ne (tgt := 24) hx hb d_CP_together_19 (by decide) (fun _ => ?_) (fun c9 => absurd c9 (by decide : ¬ ((bI true) : Int32) = 0))
  refine lv_aload_n hx hb d_CP_together_24 rfl (lv_at hl 0 rfl) ?_
  refine va_get (D := (dC, dI)) (ci := 0) (v := .ref k) (C := R_CP) (T := F_CP) (N := 6) hx hb hts in_CP hown hK.1 hP 0 rfl rfl 1 (by decide) (hts _ wfl_CP_19) (fun _ h9 => h9) rfl d_CP_together_25 ?_
  refine va_get (D := (dC, dI)) (ci := 2) (v := .ref h) (C := R_SK) (T := F_SK) (N := 7) hx hb hts in_SK hown hK.1 hP 2 rfl rfl 4 (by decide) (hts _ wfl_CP_92) (fun _ h9 => h9) rfl d_CP_together_28 ?_
  refine lv_iload_n hx hb d_CP_together_31 rfl (lv_at hl 1 rfl) ?_
  refine vp_callSl (va_Run.run (k_V (n := 1) (C := R_GP) (rest := []) ⟨hx, hb, hml, hown, hts⟩ (c_GP_holding l dC dI cI cJ cZ h b1 z Se x (by first | assumption | omega) hSK.2.2.2.2.1.le) wml_CP_131 wim_GP_holding wsel_GP_holding wini_GP wcode_GP_holding (by decide +kernel) ⟨Nat.le_of_ble_eq_true rfl, Nat.le_of_ble_eq_true rfl⟩ (preV_R (q := (R_GP, F_GP, 2)) (ci := 3) (q0 := 0) (hP.sub (ws' := [(h, .inr (3, [.ref b1, .int (nI z)])), (b1, .inl (cJ, 41, .inr (.inl Se)))]) [3, 4] rfl) hK rfl rfl) rfl hl.1 rfl (Nat.le_of_ble_eq_true rfl) d_CP_together_32 ⟨Nat.zero_le _, Nat.zero_le _⟩)) (fun r_7 hr_8 => ?_)
  refine xe_l (y := (Se i0)) (hold_eq hSK.2.2.2.2.1 hi0 he hr_8) ?_
  refine lv_lstore_n (lv' := [(3, .long (Se i0)), (0, .ref cp), (1, .int (nI x)), (2, .int (nI y))]) hx hb d_CP_together_35 rfl hl (by decide) rfl (fun ls hl => ?_)
  refine lv_lload_n hx hb d_CP_together_36 rfl (lv_at hl 0 rfl) ?_
  refine lv_iload_n hx hb d_CP_together_37 rfl (lv_at hl 3 rfl) ?_
  refine vp_callSi (va_Run.run (k_S (n := 2) (rest := []) ⟨hx, hb, hml, hown, hts⟩ (c_CP_hasBit l dC dI cI cJ cZ (Se i0) y (by first | assumption | omega)) wml_CP_124 wst_CP_hasBit wini_CP wcode_CP_hasBit (by decide +kernel) ⟨Nat.le_of_ble_eq_true rfl, Nat.le_of_ble_eq_true rfl⟩ (pre_R (hP.sub (ws' := []) [] rfl) hK) rfl hl.1 rfl (Nat.le_of_ble_eq_true rfl) d_CP_together_38 ⟨Nat.zero_le _, Nat.zero_le _⟩)) (fun r_9 hr_10 => ?_)
  refine xe_i (y := (bI (lb (Se i0) y))) hr_10 ?_
  refine x_if_ne (tgt := 47) hx hb d_CP_together_41 (by decide) (fun c_11 => ?_) (fun c_11 => ?_)
  · skip
    refine lv_lload_n hx hb d_CP_together_47 rfl (lv_at hl 0 rfl) ?_
    refine vp_callSi (va_Run.run (k_S (n := 1) (rest := []) ⟨hx, hb, hml, hown, hts⟩ (c_JL_bitCount l dC dI cI cJ cZ (Se i0)) wml_CP_76 wst_JL_bitCount wini_JL wcode_JL_bitCount (by decide +kernel) ⟨Nat.le_of_ble_eq_true rfl, Nat.le_of_ble_eq_true rfl⟩ (pre_R (hP.sub (ws' := []) [] rfl) hK) rfl hl.1 rfl (Nat.le_of_ble_eq_true rfl) d_CP_together_48 ⟨Nat.zero_le _, Nat.zero_le _⟩)) (fun r_12 hr_13 => ?_)
    refine xe_i (y := (nI (cn (lb (Se i0)) 64))) hr_13 ?_
    refine lv_bipush (v := (nI 14)) hx hb d_CP_together_51 (by decide) ?_
    refine x_cmp_le (a := (cn (lb (Se i0)) 64)) (b := 14) (tgt := 59) hx hb (Nat.lt_of_le_of_lt (cn_le _ _) (by decide)) (by omega) d_CP_together_53 (by decide) (fun c_14 => ?_) (fun c_14 => ?_)
    · skip
      refine lv_aload_n hx hb d_CP_together_59 rfl (lv_at hl 1 rfl) ?_
      refine va_get (D := (dC, dI)) (ci := 0) (v := .ref sp) (C := R_CP) (T := F_CP) (N := 6) hx hb hts in_CP hown hK.1 hP 0 rfl rfl 5 (by decide) (hts _ wfl_CP_43) (fun _ h9 => h9) rfl d_CP_together_60 ?_
      refine lv_aload_n hx hb d_CP_together_63 rfl (lv_at hl 1 rfl) ?_
      refine va_get (D := (dC, dI)) (ci := 0) (v := .ref k) (C := R_CP) (T := F_CP) (N := 6) hx hb hts in_CP hown hK.1 hP 0 rfl rfl 1 (by decide) (hts _ wfl_CP_19) (fun _ h9 => h9) rfl d_CP_together_64 ?_
      refine lv_lload_n hx hb d_CP_together_67 rfl (lv_at hl 0 rfl) ?_
      refine x_cv (k_V (n := 2) (C := R_SP) (rest := []) ⟨hx, hb, hml, hown, hts⟩ (c_SP_findGood l dC dI cI cJ cZ sp gg pi bo gd pci gci bl0 gs zi Sg Pi Bo Gd k nr fr rs at_ h al br A (Se i0) hB0 h14 (fun e q9 => (hSK.2.2.2.2.1.2.1 i0 e hi0 q9).1)) wml_CP_180 wim_SP_findGood wsel_SP_findGood wini_SP wcode_SP_findGood (by decide +kernel) ⟨Nat.le_of_ble_eq_true rfl, Nat.le_of_ble_eq_true rfl⟩ (preV_M (q := (R_SP, F_SP, 7)) (ci := 6) (q0 := 0) (hP.sub (ws' := [(sp, .inr (6, [.ref gg, .ref pi, .ref bo, .int pci, .ref gd, .int gci, .long bl0])), (gg, .inr (3, [.ref gs, .int zi])), (gs, .inl (cJ, 41, .inr (.inl Sg))), (pi, .inl (cJ, 1274, .inr (.inl Pi))), (bo, .inl (cI, 92, .inl (nF Bo))), (gd, .inl (cJ, 14, .inr (.inl Gd))), (k, .inr (2, [.ref nr, .ref fr, .ref rs, .ref at_, .ref h, .int al, .long br])), (at_, .inl (cJ, 14, .inr (.inl A)))]) [6, 7, 8, 9, 10, 11, 2, 5] rfl) hK (hD.sub (ws' := [(sp, .inr (6, [.ref gg, .ref pi, .ref bo, .int pci, .ref gd, .int gci, .long bl0])), (gg, .inr (3, [.ref gs, .int zi])), (gs, .inl (cJ, 41, .inr (.inl Sg))), (pi, .inl (cJ, 1274, .inr (.inl Pi))), (bo, .inl (cI, 92, .inl (nF Bo))), (gd, .inl (cJ, 14, .inr (.inl Gd))), (k, .inr (2, [.ref nr, .ref fr, .ref rs, .ref at_, .ref h, .int al, .long br])), (at_, .inl (cJ, 14, .inr (.inl A)))]) [6, 7, 8, 9, 10, 11, 2, 5] (by decide) rfl) rfl rfl) rfl hl.1 rfl (Nat.le_of_ble_eq_true rfl) d_CP_together_68 ⟨Nat.zero_le _, Nat.zero_le _⟩) hP hD hS [6, 7, 8, 9, 10, 11, 2, 5] rfl (fun _ => rfl) (fun u_15 H locs hu_15 hP hS => ?_)
      obtain ⟨pc9_15, gc9_15, zi9_15, S9_15, Pi9_15, Bo9_15, Gd9_15⟩ := u_15
      have hP : va_P (dC, dI) cls [(cp, .inr (0, [.ref g, .ref k, .ref k2, .ref fl, .ref co, .ref sp])), (g, .inr (1, [.ref a1, .ref a2, .int (nI nd), .int (nI ar), .long pr])), (k, .inr (2, [.ref nr, .ref fr, .ref rs, .ref at_, .ref h, .int al, .long br])), (h, .inr (3, [.ref b1, .int (nI z)])), (b1, .inl (cJ, 41, .inr (.inl Se))), (at_, .inl (cJ, 14, .inr (.inl A))), (sp, .inr (6, [.ref gg, .ref pi, .ref bo, .int (nI pc9_15), .ref gd, .int (nI gc9_15), .long (Se i0)])), (gg, .inr (3, [.ref gs, .int zi9_15])), (gs, .inl (cJ, 41, .inr (.inl S9_15))), (pi, .inl (cJ, 1274, .inr (.inl Pi9_15))), (bo, .inl (cI, 92, .inl (nF Bo9_15))), (gd, .inl (cJ, 14, .inr (.inl Gd9_15)))] H := hP
      have hD := hD.addr (ws' := [(cp, .inr (0, [.ref g, .ref k, .ref k2, .ref fl, .ref co, .ref sp])), (g, .inr (1, [.ref a1, .ref a2, .int (nI nd), .int (nI ar), .long pr])), (k, .inr (2, [.ref nr, .ref fr, .ref rs, .ref at_, .ref h, .int al, .long br])), (h, .inr (3, [.ref b1, .int (nI z)])), (b1, .inl (cJ, 41, .inr (.inl Se))), (at_, .inl (cJ, 14, .inr (.inl A))), (sp, .inr (6, [.ref gg, .ref pi, .ref bo, .int (nI pc9_15), .ref gd, .int (nI gc9_15), .long (Se i0)])), (gg, .inr (3, [.ref gs, .int zi9_15])), (gs, .inl (cJ, 41, .inr (.inl S9_15))), (pi, .inl (cJ, 1274, .inr (.inl Pi9_15))), (bo, .inl (cI, 92, .inl (nF Bo9_15))), (gd, .inl (cJ, 14, .inr (.inl Gd9_15)))]) rfl
      refine lv_aload_n hx hb d_CP_together_71 rfl (lv_at hl 1 rfl) ?_
      refine va_get (D := (dC, dI)) (ci := 0) (v := .ref sp) (C := R_CP) (T := F_CP) (N := 6) hx hb hts in_CP hown hK.1 hP 0 rfl rfl 5 (by decide) (hts _ wfl_CP_43) (fun _ h9 => h9) rfl d_CP_together_72 ?_
      refine lv_iload_n hx hb d_CP_together_75 rfl (lv_at hl 2 rfl) ?_
      refine vp_callSl (va_Run.run (k_V (n := 1) (C := R_SP) (rest := []) ⟨hx, hb, hml, hown, hts⟩ (c_SP_joinedWith l dC dI cI cJ cZ sp gg pi bo gd (nI pc9_15) gc9_15 (Se i0) Gd9_15 x (by first | assumption | omega) hu_15.2.1) wml_CP_184 wim_SP_joinedWith wsel_SP_joinedWith wini_SP wcode_SP_joinedWith (by decide +kernel) ⟨Nat.le_of_ble_eq_true rfl, Nat.le_of_ble_eq_true rfl⟩ (preV_R (q := (R_SP, F_SP, 7)) (ci := 6) (q0 := 0) (hP.sub (ws' := [(sp, .inr (6, [.ref gg, .ref pi, .ref bo, .int (nI pc9_15), .ref gd, .int (nI gc9_15), .long (Se i0)])), (gd, .inl (cJ, 14, .inr (.inl Gd9_15)))]) [6, 11] rfl) hK rfl rfl) rfl hl.1 rfl (Nat.le_of_ble_eq_true rfl) d_CP_together_76 ⟨Nat.zero_le _, Nat.zero_le _⟩)) (fun r_16 hr_17 => ?_)
      refine lv_iload_n hx hb d_CP_together_79 rfl (lv_at hl 3 rfl) ?_
      refine vp_callSi (va_Run.run (k_S (n := 2) (rest := []) ⟨hx, hb, hml, hown, hts⟩ (c_CP_hasBit l dC dI cI cJ cZ r_16 y (by first | assumption | omega)) wml_CP_124 wst_CP_hasBit wini_CP wcode_CP_hasBit (by decide +kernel) ⟨Nat.le_of_ble_eq_true rfl, Nat.le_of_ble_eq_true rfl⟩ (pre_R (hP.sub (ws' := []) [] rfl) hK) rfl hl.1 rfl (Nat.le_of_ble_eq_true rfl) d_CP_together_80 ⟨Nat.zero_le _, Nat.zero_le _⟩)) (fun r_18 hr_19 => ?_)
      refine xe_i (y := (bI (lb r_16 y))) hr_19 ?_
      refine x_if_eq (tgt := 90) hx hb d_CP_together_83 (by decide) (fun c_20 => ?_) (fun c_20 => ?_)
      · skip
        refine lv_iconst (v := (nI 0)) hx hb d_CP_together_90 (by decide) ?_
        exact W.iret (v := (nI 0)) hx hb hr (fun t9 ht9 _ => ⟨⟨_, (pc9_15, gc9_15, zi9_15, S9_15, Pi9_15, Bo9_15, Gd9_15), rfl, ⟨hu_15, _, hr_17, by rw [c_20]; rfl⟩, by show va_P (dC, dI) cls _ t9.heap; rw [ht9]; exact hP⟩, hS.F ht9⟩) hS.2.2 d_CP_together_91
      · skip
        refine lv_iconst (v := (nI 1)) hx hb d_CP_together_86 (by decide) ?_
        refine lv_goto (tgt := 91) hx hb d_CP_together_87 (by decide) ?_
        exact W.iret (v := (nI 1)) hx hb hr (fun t9 ht9 _ => ⟨⟨_, (pc9_15, gc9_15, zi9_15, S9_15, Pi9_15, Bo9_15, Gd9_15), rfl, ⟨hu_15, _, hr_17, by rw [c_20]; rfl⟩, by show va_P (dC, dI) cls _ t9.heap; rw [ht9]; exact hP⟩, hS.F ht9⟩) hS.2.2 d_CP_together_91
    · skip
      omega
  · skip
    rw [hf] at c_11; cases c_11

theorem d_CP_splits_0 : decode prog_1_method_19_code 0 = .ok (.aload_n 0, 1) := by decide +kernel
theorem d_CP_splits_1 : decode prog_1_method_19_code 1 = .ok (.getfield 12, 3) := by decide +kernel
theorem d_CP_splits_4 : decode prog_1_method_19_code 4 = .ok (.iload_n 1, 1) := by decide +kernel
theorem d_CP_splits_5 : decode prog_1_method_19_code 5 = .ok (.invokevirtual 73, 3) := by decide +kernel
theorem d_CP_splits_8 : decode prog_1_method_19_code 8 = .ok (.ifCond .ne 5, 3) := by decide +kernel
theorem d_CP_splits_11 : decode prog_1_method_19_code 11 = .ok (.iconst (-1), 1) := by decide +kernel
theorem d_CP_splits_12 : decode prog_1_method_19_code 12 = .ok (.ireturn, 1) := by decide +kernel
theorem d_CP_splits_13 : decode prog_1_method_19_code 13 = .ok (.iload_n 2, 1) := by decide +kernel
theorem d_CP_splits_14 : decode prog_1_method_19_code 14 = .ok (.ifCond .lt 8, 3) := by decide +kernel
theorem d_CP_splits_17 : decode prog_1_method_19_code 17 = .ok (.iload_n 2, 1) := by decide +kernel
theorem d_CP_splits_18 : decode prog_1_method_19_code 18 = .ok (.iconst 3, 1) := by decide +kernel
theorem d_CP_splits_19 : decode prog_1_method_19_code 19 = .ok (.if_icmp .le 6, 3) := by decide +kernel
theorem d_CP_splits_22 : decode prog_1_method_19_code 22 = .ok (.bipush (-2), 2) := by decide +kernel
theorem d_CP_splits_24 : decode prog_1_method_19_code 24 = .ok (.ireturn, 1) := by decide +kernel
theorem d_CP_splits_25 : decode prog_1_method_19_code 25 = .ok (.aload_n 0, 1) := by decide +kernel
theorem d_CP_splits_26 : decode prog_1_method_19_code 26 = .ok (.getfield 19, 3) := by decide +kernel
theorem d_CP_splits_29 : decode prog_1_method_19_code 29 = .ok (.getfield 92, 3) := by decide +kernel
theorem d_CP_splits_32 : decode prog_1_method_19_code 32 = .ok (.iload_n 1, 1) := by decide +kernel
theorem d_CP_splits_33 : decode prog_1_method_19_code 33 = .ok (.invokevirtual 131, 3) := by decide +kernel
theorem d_CP_splits_36 : decode prog_1_method_19_code 36 = .ok (.lstore_n 3, 1) := by decide +kernel
theorem d_CP_splits_37 : decode prog_1_method_19_code 37 = .ok (.iload_n 2, 1) := by decide +kernel
theorem d_CP_splits_38 : decode prog_1_method_19_code 38 = .ok (.ifCond .ne 8, 3) := by decide +kernel
theorem d_CP_splits_41 : decode prog_1_method_19_code 41 = .ok (.lload_n 3, 1) := by decide +kernel
theorem d_CP_splits_42 : decode prog_1_method_19_code 42 = .ok (.invokestatic 76, 3) := by decide +kernel
theorem d_CP_splits_45 : decode prog_1_method_19_code 45 = .ok (.ireturn, 1) := by decide +kernel
theorem d_CP_splits_46 : decode prog_1_method_19_code 46 = .ok (.lload_n 3, 1) := by decide +kernel
theorem d_CP_splits_47 : decode prog_1_method_19_code 47 = .ok (.invokestatic 76, 3) := by decide +kernel
theorem d_CP_splits_50 : decode prog_1_method_19_code 50 = .ok (.bipush 14, 2) := by decide +kernel
theorem d_CP_splits_52 : decode prog_1_method_19_code 52 = .ok (.if_icmp .le 6, 3) := by decide +kernel
theorem d_CP_splits_55 : decode prog_1_method_19_code 55 = .ok (.bipush (-4), 2) := by decide +kernel
theorem d_CP_splits_57 : decode prog_1_method_19_code 57 = .ok (.ireturn, 1) := by decide +kernel
theorem d_CP_splits_58 : decode prog_1_method_19_code 58 = .ok (.aload_n 0, 1) := by decide +kernel
theorem d_CP_splits_59 : decode prog_1_method_19_code 59 = .ok (.getfield 43, 3) := by decide +kernel
theorem d_CP_splits_62 : decode prog_1_method_19_code 62 = .ok (.aload_n 0, 1) := by decide +kernel
theorem d_CP_splits_63 : decode prog_1_method_19_code 63 = .ok (.getfield 19, 3) := by decide +kernel
theorem d_CP_splits_66 : decode prog_1_method_19_code 66 = .ok (.lload_n 3, 1) := by decide +kernel
theorem d_CP_splits_67 : decode prog_1_method_19_code 67 = .ok (.invokevirtual 180, 3) := by decide +kernel
theorem d_CP_splits_70 : decode prog_1_method_19_code 70 = .ok (.iload_n 2, 1) := by decide +kernel
theorem d_CP_splits_71 : decode prog_1_method_19_code 71 = .ok (.iconst 1, 1) := by decide +kernel
theorem d_CP_splits_72 : decode prog_1_method_19_code 72 = .ok (.if_icmp .ne 11, 3) := by decide +kernel
theorem d_CP_splits_75 : decode prog_1_method_19_code 75 = .ok (.aload_n 0, 1) := by decide +kernel
theorem d_CP_splits_76 : decode prog_1_method_19_code 76 = .ok (.getfield 43, 3) := by decide +kernel
theorem d_CP_splits_79 : decode prog_1_method_19_code 79 = .ok (.getfield 187, 3) := by decide +kernel
theorem d_CP_splits_82 : decode prog_1_method_19_code 82 = .ok (.ireturn, 1) := by decide +kernel
theorem d_CP_splits_83 : decode prog_1_method_19_code 83 = .ok (.aload_n 0, 1) := by decide +kernel
theorem d_CP_splits_84 : decode prog_1_method_19_code 84 = .ok (.getfield 43, 3) := by decide +kernel
theorem d_CP_splits_87 : decode prog_1_method_19_code 87 = .ok (.iload_n 1, 1) := by decide +kernel
theorem d_CP_splits_88 : decode prog_1_method_19_code 88 = .ok (.invokevirtual 184, 3) := by decide +kernel
theorem d_CP_splits_91 : decode prog_1_method_19_code 91 = .ok (.lstore 5, 2) := by decide +kernel
theorem d_CP_splits_93 : decode prog_1_method_19_code 93 = .ok (.iload_n 2, 1) := by decide +kernel
theorem d_CP_splits_94 : decode prog_1_method_19_code 94 = .ok (.iconst 2, 1) := by decide +kernel
theorem d_CP_splits_95 : decode prog_1_method_19_code 95 = .ok (.if_icmp .ne 11, 3) := by decide +kernel
theorem d_CP_splits_98 : decode prog_1_method_19_code 98 = .ok (.lload 5, 2) := by decide +kernel
theorem d_CP_splits_100 : decode prog_1_method_19_code 100 = .ok (.invokestatic 76, 3) := by decide +kernel
theorem d_CP_splits_103 : decode prog_1_method_19_code 103 = .ok (.goto 8, 3) := by decide +kernel
theorem d_CP_splits_106 : decode prog_1_method_19_code 106 = .ok (.lload 5, 2) := by decide +kernel
theorem d_CP_splits_108 : decode prog_1_method_19_code 108 = .ok (.invokestatic 135, 3) := by decide +kernel
theorem d_CP_splits_111 : decode prog_1_method_19_code 111 = .ok (.ireturn, 1) := by decide +kernel
set_option maxHeartbeats 4000000 in
set_option maxRecDepth 100000 in
theorem c_CP_splits_b (l : Launch) (dC : Nat → ClassId) (dI : Nat → Nat → Nat) (cI cJ cZ : ClassId) (cp g k k2 fl co sp : Nat) (a1 a2 nd ar : Nat) (pr : Int64) (x y : Int32) (har : ar ≤ 41) (hbad : (vd x ar && lb pr x.toNatClampNeg) = false) : Met l ⟨"CutPoints", "splits", "(II)I"⟩ (Cond.code ⟨"CutPoints", "splits", "(II)I"⟩ prog_1_method_19_code 7 (some .int) :: TT) (rmk 2 43) (PR dC dI cI cJ cZ [.ref cp, .int x, .int y] [(cp, .inr (0, [.ref g, .ref k, .ref k2, .ref fl, .ref co, .ref sp])), (g, .inr (1, [.ref a1, .ref a2, .int (nI nd), .int (nI ar), .long pr]))]) (vp_Si (fun r => r = -1)) 0 0 (fun _ => False) := by
  refine Met.ofW (cc := prog_1_method_19_code) (maxL := 7) (ret := (some .int)) (by decide) rfl ?_
  intro p e s m args below meth c s₁ BB9 hml hv
  obtain ⟨rfl, hP, hK⟩ := hv
  have hx := BB9.exec
  have hb := BB9.bytes
  have hr := BB9.returns
  have hts : ∀ w ∈ TT, w.before _ s = true := fun w h => atoms_spec (ws := (Cond.code ⟨"CutPoints", "splits", "(II)I"⟩ prog_1_method_19_code 7 (some .int) :: TT)) BB9.pre w (List.mem_cons_of_mem _ h)
  have hown : s.vm.findClass "CutPoints" = some m.cls := findClass_of_methodNamed BB9.named
  have hlocks := BB9.notSynchronized
  have hl := lv_entry ([.ref cp, .int x, .int y]) (n := 7) (Nat.le_of_ble_eq_true rfl)
  rw [lg_entry_eq]
  generalize (lg_sl ([.ref cp, .int x, .int y]) ++ List.replicate (7 - (lg_sl ([.ref cp, .int x, .int y])).length) Slot.unset).toArray = ls at hl ⊢
  have hl : lv_has ls 7 [(0, .ref cp), (1, .int x), (2, .int y)] := hl
  refine lv_aload_n hx hb d_CP_splits_0 rfl (lv_at hl 0 rfl) ?_
  refine va_get (D := (dC, dI)) (ci := 0) (v := .ref g) (C := R_CP) (T := F_CP) (N := 6) hx hb hts in_CP hown hK.1 hP 0 rfl rfl 0 (by decide) (hts _ wfl_CP_12) (fun _ h9 => h9) rfl d_CP_splits_1 ?_
  refine lv_iload_n hx hb d_CP_splits_4 rfl (lv_at hl 1 rfl) ?_
  refine vp_callSi (va_Run.run (k_V (n := 1) (C := R_GR) (rest := []) ⟨hx, hb, hml, hown, hts⟩ (c_GR_isThere l dC dI cI cJ cZ g a1 a2 nd ar pr x (by first | assumption | omega)) wml_CP_73 wim_GR_isThere wsel_GR_isThere wini_GR wcode_GR_isThere (by decide +kernel) ⟨Nat.le_of_ble_eq_true rfl, Nat.le_of_ble_eq_true rfl⟩ (preV_R (q := (R_GR, F_GR, 5)) (ci := 1) (q0 := 0) (hP.sub (ws' := [(g, .inr (1, [.ref a1, .ref a2, .int (nI nd), .int (nI ar), .long pr]))]) [1] rfl) hK rfl rfl) rfl hl.1 rfl (Nat.le_of_ble_eq_true rfl) d_CP_splits_5 ⟨Nat.zero_le _, Nat.zero_le _⟩)) (fun r_1 hr_2 => ?_)
  refine xe_i (y := (bI (vd x ar && lb pr x.toNatClampNeg))) hr_2 ?_
  refine xe_i (y := (bI false)) (by rw [hbad]) ?_
  refine lv_if_ne (tgt := 13) hx hb d_CP_splits_8 (by decide) (fun c9 => absurd (by decide : ((bI false) : Int32) = 0) c9) (fun _ => ?_)
  refine lv_iconst (v := (-1)) hx hb d_CP_splits_11 (by decide) ?_
  exact W.iret (v := (-1)) hx hb hr (fun t9 ht9 _ => ⟨_, rfl, rfl, ht9⟩) t_nil d_CP_splits_12

set_option maxHeartbeats 4000000 in
set_option maxRecDepth 100000 in
theorem c_CP_splits_r (l : Launch) (dC : Nat → ClassId) (dI : Nat → Nat → Nat) (cI cJ cZ : ClassId) (cp g k k2 fl co sp : Nat) (a1 a2 nd ar : Nat) (pr : Int64) (x : Nat) (y : Int32) (har : ar ≤ 41) (hxn : x < ar) (hxl : lb pr x = true) (hout : y < 0 ∨ ¬ y ≤ nI 3) : Met l ⟨"CutPoints", "splits", "(II)I"⟩ (Cond.code ⟨"CutPoints", "splits", "(II)I"⟩ prog_1_method_19_code 7 (some .int) :: TT) (rmk 2 43) (PR dC dI cI cJ cZ [.ref cp, .int (nI x), .int y] [(cp, .inr (0, [.ref g, .ref k, .ref k2, .ref fl, .ref co, .ref sp])), (g, .inr (1, [.ref a1, .ref a2, .int (nI nd), .int (nI ar), .long pr]))]) (vp_Si (fun r => r = -2)) 0 0 (fun _ => False) := by
  refine Met.ofW (cc := prog_1_method_19_code) (maxL := 7) (ret := (some .int)) (by decide) rfl ?_
  intro p e s m args below meth c s₁ BB9 hml hv
  obtain ⟨rfl, hP, hK⟩ := hv
  have hx := BB9.exec
  have hb := BB9.bytes
  have hr := BB9.returns
  have hts : ∀ w ∈ TT, w.before _ s = true := fun w h => atoms_spec (ws := (Cond.code ⟨"CutPoints", "splits", "(II)I"⟩ prog_1_method_19_code 7 (some .int) :: TT)) BB9.pre w (List.mem_cons_of_mem _ h)
  have hown : s.vm.findClass "CutPoints" = some m.cls := findClass_of_methodNamed BB9.named
  have hlocks := BB9.notSynchronized
  have hl := lv_entry ([.ref cp, .int (nI x), .int y]) (n := 7) (Nat.le_of_ble_eq_true rfl)
  rw [lg_entry_eq]
  generalize (lg_sl ([.ref cp, .int (nI x), .int y]) ++ List.replicate (7 - (lg_sl ([.ref cp, .int (nI x), .int y])).length) Slot.unset).toArray = ls at hl ⊢
  have hl : lv_has ls 7 [(0, .ref cp), (1, .int (nI x)), (2, .int y)] := hl
  refine lv_aload_n hx hb d_CP_splits_0 rfl (lv_at hl 0 rfl) ?_
  refine va_get (D := (dC, dI)) (ci := 0) (v := .ref g) (C := R_CP) (T := F_CP) (N := 6) hx hb hts in_CP hown hK.1 hP 0 rfl rfl 0 (by decide) (hts _ wfl_CP_12) (fun _ h9 => h9) rfl d_CP_splits_1 ?_
  refine lv_iload_n hx hb d_CP_splits_4 rfl (lv_at hl 1 rfl) ?_
  refine vp_callSi (va_Run.run (k_V (n := 1) (C := R_GR) (rest := []) ⟨hx, hb, hml, hown, hts⟩ (c_GR_isThere l dC dI cI cJ cZ g a1 a2 nd ar pr (nI x) (by first | assumption | omega)) wml_CP_73 wim_GR_isThere wsel_GR_isThere wini_GR wcode_GR_isThere (by decide +kernel) ⟨Nat.le_of_ble_eq_true rfl, Nat.le_of_ble_eq_true rfl⟩ (preV_R (q := (R_GR, F_GR, 5)) (ci := 1) (q0 := 0) (hP.sub (ws' := [(g, .inr (1, [.ref a1, .ref a2, .int (nI nd), .int (nI ar), .long pr]))]) [1] rfl) hK rfl rfl) rfl hl.1 rfl (Nat.le_of_ble_eq_true rfl) d_CP_splits_5 ⟨Nat.zero_le _, Nat.zero_le _⟩)) (fun r_1 hr_2 => ?_)
  refine xe_i (y := (bI (vd (nI x) ar && lb pr (nI x).toNatClampNeg))) hr_2 ?_
  refine xe_i (y := (bI true)) (by rw [th_tt (by omega) hxn hxl]) ?_
  refine lv_if_ne (tgt := 13) hx hb d_CP_splits_8 (by decide) (fun _ => ?_) (fun c9 => absurd c9 (by decide : ¬ ((bI true) : Int32) = 0))
  refine lv_iload_n hx hb d_CP_splits_13 rfl (lv_at hl 2 rfl) ?_
  refine lv_if_lt (tgt := 22) hx hb d_CP_splits_14 (by decide) (fun c_4 => ?_) (fun c_4 => ?_)
  · skip
    refine lv_bipush (v := (-2)) hx hb d_CP_splits_22 (by decide) ?_
    exact W.iret (v := (-2)) hx hb hr (fun t9 ht9 _ => ⟨_, rfl, rfl, ht9⟩) t_nil d_CP_splits_24
  · skip
    refine lv_iload_n hx hb d_CP_splits_17 rfl (lv_at hl 2 rfl) ?_
    refine lv_iconst (v := (nI 3)) hx hb d_CP_splits_18 (by decide) ?_
    refine lv_icmp_le (tgt := 25) hx hb d_CP_splits_19 (by decide) (fun c_5 => ?_) (fun c_5 => ?_)
    · skip
      exact hout.elim (fun q9 => absurd q9 c_4) (fun q9 => absurd c_5 q9)
    · skip
      refine lv_bipush (v := (-2)) hx hb d_CP_splits_22 (by decide) ?_
      exact W.iret (v := (-2)) hx hb hr (fun t9 ht9 _ => ⟨_, rfl, rfl, ht9⟩) t_nil d_CP_splits_24

set_option maxHeartbeats 4000000 in
set_option maxRecDepth 100000 in
theorem c_CP_splits_0 (l : Launch) (dC : Nat → ClassId) (dI : Nat → Nat → Nat) (cI cJ cZ : ClassId) (cp g k k2 fl co sp : Nat) (a1 a2 nd ar : Nat) (pr : Int64) (F G : Nat → Nat) (hGA : GAR F G nd ar pr) (nr fr rs at_ h : Nat) (al : Int32) (br : Int64) (N Fm : Nat → Int32) (A : Nat → Int64) (b1 z : Nat) (Se : Nat → Int64) (hSK : SKI (lb pr) F G nd N Fm A Se z al br) (x : Nat) (hxn : x < ar) (hxl : lb pr x = true) (i0 : Nat) (hi0 : i0 < z) (he : lb (Se i0) x = true) : Met l ⟨"CutPoints", "splits", "(II)I"⟩ (Cond.code ⟨"CutPoints", "splits", "(II)I"⟩ prog_1_method_19_code 7 (some .int) :: TT) (rmk 2 44) (PR dC dI cI cJ cZ [.ref cp, .int (nI x), .int (nI 0)] [(cp, .inr (0, [.ref g, .ref k, .ref k2, .ref fl, .ref co, .ref sp])), (g, .inr (1, [.ref a1, .ref a2, .int (nI nd), .int (nI ar), .long pr])), (k, .inr (2, [.ref nr, .ref fr, .ref rs, .ref at_, .ref h, .int al, .long br])), (h, .inr (3, [.ref b1, .int (nI z)])), (b1, .inl (cJ, 41, .inr (.inl Se)))]) (vp_Si (fun r => r = nI (cn (lb (Se i0)) 64))) 0 0 (fun _ => False) := by
  refine Met.ofW (cc := prog_1_method_19_code) (maxL := 7) (ret := (some .int)) (by decide) rfl ?_
  intro p e s m args below meth c s₁ BB9 hml hv
  obtain ⟨rfl, hP, hK⟩ := hv
  have hx := BB9.exec
  have hb := BB9.bytes
  have hr := BB9.returns
  have hts : ∀ w ∈ TT, w.before _ s = true := fun w h => atoms_spec (ws := (Cond.code ⟨"CutPoints", "splits", "(II)I"⟩ prog_1_method_19_code 7 (some .int) :: TT)) BB9.pre w (List.mem_cons_of_mem _ h)
  have hown : s.vm.findClass "CutPoints" = some m.cls := findClass_of_methodNamed BB9.named
  have hlocks := BB9.notSynchronized
  have hnd14 := hGA.1
  have har40 := hGA.2.1
  have hl := lv_entry ([.ref cp, .int (nI x), .int (nI 0)]) (n := 7) (Nat.le_of_ble_eq_true rfl)
  rw [lg_entry_eq]
  generalize (lg_sl ([.ref cp, .int (nI x), .int (nI 0)]) ++ List.replicate (7 - (lg_sl ([.ref cp, .int (nI x), .int (nI 0)])).length) Slot.unset).toArray = ls at hl ⊢
  have hl : lv_has ls 7 [(0, .ref cp), (1, .int (nI x)), (2, .int (nI 0))] := hl
  refine lv_aload_n hx hb d_CP_splits_0 rfl (lv_at hl 0 rfl) ?_
  refine va_get (D := (dC, dI)) (ci := 0) (v := .ref g) (C := R_CP) (T := F_CP) (N := 6) hx hb hts in_CP hown hK.1 hP 0 rfl rfl 0 (by decide) (hts _ wfl_CP_12) (fun _ h9 => h9) rfl d_CP_splits_1 ?_
  refine lv_iload_n hx hb d_CP_splits_4 rfl (lv_at hl 1 rfl) ?_
  refine vp_callSi (va_Run.run (k_V (n := 1) (C := R_GR) (rest := []) ⟨hx, hb, hml, hown, hts⟩ (c_GR_isThere l dC dI cI cJ cZ g a1 a2 nd ar pr (nI x) (by first | assumption | omega)) wml_CP_73 wim_GR_isThere wsel_GR_isThere wini_GR wcode_GR_isThere (by decide +kernel) ⟨Nat.le_of_ble_eq_true rfl, Nat.le_of_ble_eq_true rfl⟩ (preV_R (q := (R_GR, F_GR, 5)) (ci := 1) (q0 := 0) (hP.sub (ws' := [(g, .inr (1, [.ref a1, .ref a2, .int (nI nd), .int (nI ar), .long pr]))]) [1] rfl) hK rfl rfl) rfl hl.1 rfl (Nat.le_of_ble_eq_true rfl) d_CP_splits_5 ⟨Nat.zero_le _, Nat.zero_le _⟩)) (fun r_1 hr_2 => ?_)
  refine xe_i (y := (bI (vd (nI x) ar && lb pr (nI x).toNatClampNeg))) hr_2 ?_
  refine xe_i (y := (bI true)) (by rw [th_tt (by omega) hxn hxl]) ?_
  refine lv_if_ne (tgt := 13) hx hb d_CP_splits_8 (by decide) (fun _ => ?_) (fun c9 => absurd c9 (by decide : ¬ ((bI true) : Int32) = 0))
  refine lv_iload_n hx hb d_CP_splits_13 rfl (lv_at hl 2 rfl) ?_
  refine lv_if_lt (tgt := 22) hx hb d_CP_splits_14 (by decide) (fun c_4 => ?_) (fun c_4 => ?_)
  · skip
    exact absurd c_4 (by decide)
  · skip
    refine lv_iload_n hx hb d_CP_splits_17 rfl (lv_at hl 2 rfl) ?_
    refine lv_iconst (v := (nI 3)) hx hb d_CP_splits_18 (by decide) ?_
    refine x_cmp_le (a := 0) (b := 3) (tgt := 25) hx hb (by omega) (by omega) d_CP_splits_19 (by decide) (fun c_5 => ?_) (fun c_5 => ?_)
    · skip
      refine lv_aload_n hx hb d_CP_splits_25 rfl (lv_at hl 0 rfl) ?_
      refine va_get (D := (dC, dI)) (ci := 0) (v := .ref k) (C := R_CP) (T := F_CP) (N := 6) hx hb hts in_CP hown hK.1 hP 0 rfl rfl 1 (by decide) (hts _ wfl_CP_19) (fun _ h9 => h9) rfl d_CP_splits_26 ?_
      refine va_get (D := (dC, dI)) (ci := 2) (v := .ref h) (C := R_SK) (T := F_SK) (N := 7) hx hb hts in_SK hown hK.1 hP 2 rfl rfl 4 (by decide) (hts _ wfl_CP_92) (fun _ h9 => h9) rfl d_CP_splits_29 ?_
      refine lv_iload_n hx hb d_CP_splits_32 rfl (lv_at hl 1 rfl) ?_
      refine vp_callSl (va_Run.run (k_V (n := 1) (C := R_GP) (rest := []) ⟨hx, hb, hml, hown, hts⟩ (c_GP_holding l dC dI cI cJ cZ h b1 z Se x (by first | assumption | omega) hSK.2.2.2.2.1.le) wml_CP_131 wim_GP_holding wsel_GP_holding wini_GP wcode_GP_holding (by decide +kernel) ⟨Nat.le_of_ble_eq_true rfl, Nat.le_of_ble_eq_true rfl⟩ (preV_R (q := (R_GP, F_GP, 2)) (ci := 3) (q0 := 0) (hP.sub (ws' := [(h, .inr (3, [.ref b1, .int (nI z)])), (b1, .inl (cJ, 41, .inr (.inl Se)))]) [3, 4] rfl) hK rfl rfl) rfl hl.1 rfl (Nat.le_of_ble_eq_true rfl) d_CP_splits_33 ⟨Nat.zero_le _, Nat.zero_le _⟩)) (fun r_6 hr_7 => ?_)
      refine xe_l (y := (Se i0)) (hold_eq hSK.2.2.2.2.1 hi0 he hr_7) ?_
      refine lv_lstore_n (lv' := [(3, .long (Se i0)), (0, .ref cp), (1, .int (nI x)), (2, .int (nI 0))]) hx hb d_CP_splits_36 rfl hl (by decide) rfl (fun ls hl => ?_)
      refine lv_iload_n hx hb d_CP_splits_37 rfl (lv_at hl 3 rfl) ?_
      refine lv_if_ne (tgt := 46) hx hb d_CP_splits_38 (by decide) (fun c9 => absurd (by decide : ((nI 0) : Int32) = 0) c9) (fun _ => ?_)
      refine lv_lload_n hx hb d_CP_splits_41 rfl (lv_at hl 0 rfl) ?_
      refine vp_callSi (va_Run.run (k_S (n := 1) (rest := []) ⟨hx, hb, hml, hown, hts⟩ (c_JL_bitCount l dC dI cI cJ cZ (Se i0)) wml_CP_76 wst_JL_bitCount wini_JL wcode_JL_bitCount (by decide +kernel) ⟨Nat.le_of_ble_eq_true rfl, Nat.le_of_ble_eq_true rfl⟩ (pre_R (hP.sub (ws' := []) [] rfl) hK) rfl hl.1 rfl (Nat.le_of_ble_eq_true rfl) d_CP_splits_42 ⟨Nat.zero_le _, Nat.zero_le _⟩)) (fun r_9 hr_10 => ?_)
      refine xe_i (y := (nI (cn (lb (Se i0)) 64))) hr_10 ?_
      exact W.iret (v := (nI (cn (lb (Se i0)) 64))) hx hb hr (fun t9 ht9 _ => ⟨_, rfl, rfl, ht9⟩) t_nil d_CP_splits_45
    · skip
      omega

set_option maxHeartbeats 4000000 in
set_option maxRecDepth 100000 in
theorem c_CP_splits_l1 (l : Launch) (dC : Nat → ClassId) (dI : Nat → Nat → Nat) (cI cJ cZ : ClassId) (cp g k k2 fl co sp : Nat) (a1 a2 nd ar : Nat) (pr : Int64) (F G : Nat → Nat) (hGA : GAR F G nd ar pr) (nr fr rs at_ h : Nat) (al : Int32) (br : Int64) (N Fm : Nat → Int32) (A : Nat → Int64) (b1 z : Nat) (Se : Nat → Int64) (hSK : SKI (lb pr) F G nd N Fm A Se z al br) (x : Nat) (hxn : x < ar) (hxl : lb pr x = true) (i0 : Nat) (hi0 : i0 < z) (he : lb (Se i0) x = true) (h14 : 14 < cn (lb (Se i0)) 64) : Met l ⟨"CutPoints", "splits", "(II)I"⟩ (Cond.code ⟨"CutPoints", "splits", "(II)I"⟩ prog_1_method_19_code 7 (some .int) :: TT) (rmk 2 44) (PR dC dI cI cJ cZ [.ref cp, .int (nI x), .int (nI 1)] [(cp, .inr (0, [.ref g, .ref k, .ref k2, .ref fl, .ref co, .ref sp])), (g, .inr (1, [.ref a1, .ref a2, .int (nI nd), .int (nI ar), .long pr])), (k, .inr (2, [.ref nr, .ref fr, .ref rs, .ref at_, .ref h, .int al, .long br])), (h, .inr (3, [.ref b1, .int (nI z)])), (b1, .inl (cJ, 41, .inr (.inl Se)))]) (vp_Si (fun r => r = -4)) 0 0 (fun _ => False) := by
  refine Met.ofW (cc := prog_1_method_19_code) (maxL := 7) (ret := (some .int)) (by decide) rfl ?_
  intro p e s m args below meth c s₁ BB9 hml hv
  obtain ⟨rfl, hP, hK⟩ := hv
  have hx := BB9.exec
  have hb := BB9.bytes
  have hr := BB9.returns
  have hts : ∀ w ∈ TT, w.before _ s = true := fun w h => atoms_spec (ws := (Cond.code ⟨"CutPoints", "splits", "(II)I"⟩ prog_1_method_19_code 7 (some .int) :: TT)) BB9.pre w (List.mem_cons_of_mem _ h)
  have hown : s.vm.findClass "CutPoints" = some m.cls := findClass_of_methodNamed BB9.named
  have hlocks := BB9.notSynchronized
  have hnd14 := hGA.1
  have har40 := hGA.2.1
  have hl := lv_entry ([.ref cp, .int (nI x), .int (nI 1)]) (n := 7) (Nat.le_of_ble_eq_true rfl)
  rw [lg_entry_eq]
  generalize (lg_sl ([.ref cp, .int (nI x), .int (nI 1)]) ++ List.replicate (7 - (lg_sl ([.ref cp, .int (nI x), .int (nI 1)])).length) Slot.unset).toArray = ls at hl ⊢
  have hl : lv_has ls 7 [(0, .ref cp), (1, .int (nI x)), (2, .int (nI 1))] := hl
  refine lv_aload_n hx hb d_CP_splits_0 rfl (lv_at hl 0 rfl) ?_
  refine va_get (D := (dC, dI)) (ci := 0) (v := .ref g) (C := R_CP) (T := F_CP) (N := 6) hx hb hts in_CP hown hK.1 hP 0 rfl rfl 0 (by decide) (hts _ wfl_CP_12) (fun _ h9 => h9) rfl d_CP_splits_1 ?_
  refine lv_iload_n hx hb d_CP_splits_4 rfl (lv_at hl 1 rfl) ?_
  refine vp_callSi (va_Run.run (k_V (n := 1) (C := R_GR) (rest := []) ⟨hx, hb, hml, hown, hts⟩ (c_GR_isThere l dC dI cI cJ cZ g a1 a2 nd ar pr (nI x) (by first | assumption | omega)) wml_CP_73 wim_GR_isThere wsel_GR_isThere wini_GR wcode_GR_isThere (by decide +kernel) ⟨Nat.le_of_ble_eq_true rfl, Nat.le_of_ble_eq_true rfl⟩ (preV_R (q := (R_GR, F_GR, 5)) (ci := 1) (q0 := 0) (hP.sub (ws' := [(g, .inr (1, [.ref a1, .ref a2, .int (nI nd), .int (nI ar), .long pr]))]) [1] rfl) hK rfl rfl) rfl hl.1 rfl (Nat.le_of_ble_eq_true rfl) d_CP_splits_5 ⟨Nat.zero_le _, Nat.zero_le _⟩)) (fun r_1 hr_2 => ?_)
  refine xe_i (y := (bI (vd (nI x) ar && lb pr (nI x).toNatClampNeg))) hr_2 ?_
  refine xe_i (y := (bI true)) (by rw [th_tt (by omega) hxn hxl]) ?_
  refine lv_if_ne (tgt := 13) hx hb d_CP_splits_8 (by decide) (fun _ => ?_) (fun c9 => absurd c9 (by decide : ¬ ((bI true) : Int32) = 0))
  refine lv_iload_n hx hb d_CP_splits_13 rfl (lv_at hl 2 rfl) ?_
  refine lv_if_lt (tgt := 22) hx hb d_CP_splits_14 (by decide) (fun c_4 => ?_) (fun c_4 => ?_)
  · skip
    exact absurd c_4 (by decide)
  · skip
    refine lv_iload_n hx hb d_CP_splits_17 rfl (lv_at hl 2 rfl) ?_
    refine lv_iconst (v := (nI 3)) hx hb d_CP_splits_18 (by decide) ?_
    refine x_cmp_le (a := 1) (b := 3) (tgt := 25) hx hb (by omega) (by omega) d_CP_splits_19 (by decide) (fun c_5 => ?_) (fun c_5 => ?_)
    · skip
      refine lv_aload_n hx hb d_CP_splits_25 rfl (lv_at hl 0 rfl) ?_
      refine va_get (D := (dC, dI)) (ci := 0) (v := .ref k) (C := R_CP) (T := F_CP) (N := 6) hx hb hts in_CP hown hK.1 hP 0 rfl rfl 1 (by decide) (hts _ wfl_CP_19) (fun _ h9 => h9) rfl d_CP_splits_26 ?_
      refine va_get (D := (dC, dI)) (ci := 2) (v := .ref h) (C := R_SK) (T := F_SK) (N := 7) hx hb hts in_SK hown hK.1 hP 2 rfl rfl 4 (by decide) (hts _ wfl_CP_92) (fun _ h9 => h9) rfl d_CP_splits_29 ?_
      refine lv_iload_n hx hb d_CP_splits_32 rfl (lv_at hl 1 rfl) ?_
      refine vp_callSl (va_Run.run (k_V (n := 1) (C := R_GP) (rest := []) ⟨hx, hb, hml, hown, hts⟩ (c_GP_holding l dC dI cI cJ cZ h b1 z Se x (by first | assumption | omega) hSK.2.2.2.2.1.le) wml_CP_131 wim_GP_holding wsel_GP_holding wini_GP wcode_GP_holding (by decide +kernel) ⟨Nat.le_of_ble_eq_true rfl, Nat.le_of_ble_eq_true rfl⟩ (preV_R (q := (R_GP, F_GP, 2)) (ci := 3) (q0 := 0) (hP.sub (ws' := [(h, .inr (3, [.ref b1, .int (nI z)])), (b1, .inl (cJ, 41, .inr (.inl Se)))]) [3, 4] rfl) hK rfl rfl) rfl hl.1 rfl (Nat.le_of_ble_eq_true rfl) d_CP_splits_33 ⟨Nat.zero_le _, Nat.zero_le _⟩)) (fun r_6 hr_7 => ?_)
      refine xe_l (y := (Se i0)) (hold_eq hSK.2.2.2.2.1 hi0 he hr_7) ?_
      refine lv_lstore_n (lv' := [(3, .long (Se i0)), (0, .ref cp), (1, .int (nI x)), (2, .int (nI 1))]) hx hb d_CP_splits_36 rfl hl (by decide) rfl (fun ls hl => ?_)
      refine lv_iload_n hx hb d_CP_splits_37 rfl (lv_at hl 3 rfl) ?_
      refine lv_if_ne (tgt := 46) hx hb d_CP_splits_38 (by decide) (fun _ => ?_) (fun c9 => absurd c9 (by decide : ¬ ((nI 1) : Int32) = 0))
      refine lv_lload_n hx hb d_CP_splits_46 rfl (lv_at hl 0 rfl) ?_
      refine vp_callSi (va_Run.run (k_S (n := 1) (rest := []) ⟨hx, hb, hml, hown, hts⟩ (c_JL_bitCount l dC dI cI cJ cZ (Se i0)) wml_CP_76 wst_JL_bitCount wini_JL wcode_JL_bitCount (by decide +kernel) ⟨Nat.le_of_ble_eq_true rfl, Nat.le_of_ble_eq_true rfl⟩ (pre_R (hP.sub (ws' := []) [] rfl) hK) rfl hl.1 rfl (Nat.le_of_ble_eq_true rfl) d_CP_splits_47 ⟨Nat.zero_le _, Nat.zero_le _⟩)) (fun r_9 hr_10 => ?_)
      refine xe_i (y := (nI (cn (lb (Se i0)) 64))) hr_10 ?_
      refine lv_bipush (v := (nI 14)) hx hb d_CP_splits_50 (by decide) ?_
      refine x_cmp_le (a := (cn (lb (Se i0)) 64)) (b := 14) (tgt := 58) hx hb (Nat.lt_of_le_of_lt (cn_le _ _) (by decide)) (by omega) d_CP_splits_52 (by decide) (fun c_11 => ?_) (fun c_11 => ?_)
      · skip
        omega
      · skip
        refine lv_bipush (v := (-4)) hx hb d_CP_splits_55 (by decide) ?_
        exact W.iret (v := (-4)) hx hb hr (fun t9 ht9 _ => ⟨_, rfl, rfl, ht9⟩) t_nil d_CP_splits_57
    · skip
      omega

set_option maxHeartbeats 4000000 in
set_option maxRecDepth 100000 in
theorem c_CP_splits_1 (l : Launch) (dC : Nat → ClassId) (dI : Nat → Nat → Nat) (cI cJ cZ : ClassId) (cp g k k2 fl co sp : Nat) (a1 a2 nd ar : Nat) (pr : Int64) (F G : Nat → Nat) (hGA : GAR F G nd ar pr) (nr fr rs at_ h : Nat) (al : Int32) (br : Int64) (N Fm : Nat → Int32) (A : Nat → Int64) (b1 z : Nat) (Se : Nat → Int64) (hSK : SKI (lb pr) F G nd N Fm A Se z al br) (gg pi bo gd : Nat) (pci gci : Int32) (bl0 : Int64) (gs : Nat) (zi : Int32) (Sg Pi : Nat → Int64) (Bo : Nat → Nat) (Gd : Nat → Int64) (hB0 : Bo 0 = 0) (x : Nat) (hxn : x < ar) (hxl : lb pr x = true) (i0 : Nat) (hi0 : i0 < z) (he : lb (Se i0) x = true) (h14 : cn (lb (Se i0)) 64 ≤ 14) : Met l ⟨"CutPoints", "splits", "(II)I"⟩ (Cond.code ⟨"CutPoints", "splits", "(II)I"⟩ prog_1_method_19_code 7 (some .int) :: TT) (rmk 5 114) (PM dC dI cI cJ cZ [.ref cp, .int (nI x), .int (nI 1)] [(cp, .inr (0, [.ref g, .ref k, .ref k2, .ref fl, .ref co, .ref sp])), (g, .inr (1, [.ref a1, .ref a2, .int (nI nd), .int (nI ar), .long pr])), (k, .inr (2, [.ref nr, .ref fr, .ref rs, .ref at_, .ref h, .int al, .long br])), (h, .inr (3, [.ref b1, .int (nI z)])), (b1, .inl (cJ, 41, .inr (.inl Se))), (at_, .inl (cJ, 14, .inr (.inl A))), (sp, .inr (6, [.ref gg, .ref pi, .ref bo, .int pci, .ref gd, .int gci, .long bl0])), (gg, .inr (3, [.ref gs, .int zi])), (gs, .inl (cJ, 41, .inr (.inl Sg))), (pi, .inl (cJ, 1274, .inr (.inl Pi))), (bo, .inl (cI, 92, .inl (nF Bo))), (gd, .inl (cJ, 14, .inr (.inl Gd)))]) (va_Qi (S := Nat × Nat × Int32 × (Nat → Int64) × (Nat → Int64) × (Nat → Nat) × (Nat → Int64)) (fun r u9 => r = nI u9.2.1 ∧ (PCE A (Se i0) u9.2.2.2.2.1 u9.2.2.2.2.2.1 u9.1 14 15 ∧ fgI u9.2.2.2.2.1 u9.2.2.2.2.2.1 u9.1 (Se i0) u9.2.2.2.2.2.2 u9.2.1 u9.1)) (fun u9 t9 => va_P (dC, dI) cls ([(cp, .inr (0, [.ref g, .ref k, .ref k2, .ref fl, .ref co, .ref sp])), (g, .inr (1, [.ref a1, .ref a2, .int (nI nd), .int (nI ar), .long pr])), (k, .inr (2, [.ref nr, .ref fr, .ref rs, .ref at_, .ref h, .int al, .long br])), (h, .inr (3, [.ref b1, .int (nI z)])), (b1, .inl (cJ, 41, .inr (.inl Se))), (at_, .inl (cJ, 14, .inr (.inl A))), (sp, .inr (6, [.ref gg, .ref pi, .ref bo, .int (nI u9.1), .ref gd, .int (nI u9.2.1), .long (Se i0)])), (gg, .inr (3, [.ref gs, .int u9.2.2.1])), (gs, .inl (cJ, 41, .inr (.inl u9.2.2.2.1))), (pi, .inl (cJ, 1274, .inr (.inl u9.2.2.2.2.1))), (bo, .inl (cI, 92, .inl (nF u9.2.2.2.2.2.1))), (gd, .inl (cJ, 14, .inr (.inl u9.2.2.2.2.2.2)))]) t9.heap) (ow [(cp, .inr (0, [.ref g, .ref k, .ref k2, .ref fl, .ref co, .ref sp])), (g, .inr (1, [.ref a1, .ref a2, .int (nI nd), .int (nI ar), .long pr])), (k, .inr (2, [.ref nr, .ref fr, .ref rs, .ref at_, .ref h, .int al, .long br])), (h, .inr (3, [.ref b1, .int (nI z)])), (b1, .inl (cJ, 41, .inr (.inl Se))), (at_, .inl (cJ, 14, .inr (.inl A))), (sp, .inr (6, [.ref gg, .ref pi, .ref bo, .int pci, .ref gd, .int gci, .long bl0])), (gg, .inr (3, [.ref gs, .int zi])), (gs, .inl (cJ, 41, .inr (.inl Sg))), (pi, .inl (cJ, 1274, .inr (.inl Pi))), (bo, .inl (cI, 92, .inl (nF Bo))), (gd, .inl (cJ, 14, .inr (.inl Gd)))])) 0 0 (ow [(cp, .inr (0, [.ref g, .ref k, .ref k2, .ref fl, .ref co, .ref sp])), (g, .inr (1, [.ref a1, .ref a2, .int (nI nd), .int (nI ar), .long pr])), (k, .inr (2, [.ref nr, .ref fr, .ref rs, .ref at_, .ref h, .int al, .long br])), (h, .inr (3, [.ref b1, .int (nI z)])), (b1, .inl (cJ, 41, .inr (.inl Se))), (at_, .inl (cJ, 14, .inr (.inl A))), (sp, .inr (6, [.ref gg, .ref pi, .ref bo, .int pci, .ref gd, .int gci, .long bl0])), (gg, .inr (3, [.ref gs, .int zi])), (gs, .inl (cJ, 41, .inr (.inl Sg))), (pi, .inl (cJ, 1274, .inr (.inl Pi))), (bo, .inl (cI, 92, .inl (nF Bo))), (gd, .inl (cJ, 14, .inr (.inl Gd)))]) := by
  refine Met.ofW (cc := prog_1_method_19_code) (maxL := 7) (ret := (some .int)) (by decide) rfl ?_
  intro p e s m args below meth c s₁ BB9 hml hv
  obtain ⟨rfl, hP, hK, hD0⟩ := hv
  have hx := BB9.exec
  have hb := BB9.bytes
  have hr := BB9.returns
  have hts : ∀ w ∈ TT, w.before _ s = true := fun w h => atoms_spec (ws := (Cond.code ⟨"CutPoints", "splits", "(II)I"⟩ prog_1_method_19_code 7 (some .int) :: TT)) BB9.pre w (List.mem_cons_of_mem _ h)
  have hown : s.vm.findClass "CutPoints" = some m.cls := findClass_of_methodNamed BB9.named
  have hlocks := BB9.notSynchronized
  have hD := hD0.mine
  have hS : va_S (ow [(cp, .inr (0, [.ref g, .ref k, .ref k2, .ref fl, .ref co, .ref sp])), (g, .inr (1, [.ref a1, .ref a2, .int (nI nd), .int (nI ar), .long pr])), (k, .inr (2, [.ref nr, .ref fr, .ref rs, .ref at_, .ref h, .int al, .long br])), (h, .inr (3, [.ref b1, .int (nI z)])), (b1, .inl (cJ, 41, .inr (.inl Se))), (at_, .inl (cJ, 14, .inr (.inl A))), (sp, .inr (6, [.ref gg, .ref pi, .ref bo, .int pci, .ref gd, .int gci, .long bl0])), (gg, .inr (3, [.ref gs, .int zi])), (gs, .inl (cJ, 41, .inr (.inl Sg))), (pi, .inl (cJ, 1274, .inr (.inl Pi))), (bo, .inl (cI, 92, .inl (nF Bo))), (gd, .inl (cJ, 14, .inr (.inl Gd)))]) s.heap s.heap [] := va_S.rf
  have hnd14 := hGA.1
  have har40 := hGA.2.1
  have hl := lv_entry ([.ref cp, .int (nI x), .int (nI 1)]) (n := 7) (Nat.le_of_ble_eq_true rfl)
  rw [lg_entry_eq]
  generalize (lg_sl ([.ref cp, .int (nI x), .int (nI 1)]) ++ List.replicate (7 - (lg_sl ([.ref cp, .int (nI x), .int (nI 1)])).length) Slot.unset).toArray = ls at hl ⊢
  have hl : lv_has ls 7 [(0, .ref cp), (1, .int (nI x)), (2, .int (nI 1))] := hl
  refine lv_aload_n hx hb d_CP_splits_0 rfl (lv_at hl 0 rfl) ?_
  refine va_get (D := (dC, dI)) (ci := 0) (v := .ref g) (C := R_CP) (T := F_CP) (N := 6) hx hb hts in_CP hown hK.1 hP 0 rfl rfl 0 (by decide) (hts _ wfl_CP_12) (fun _ h9 => h9) rfl d_CP_splits_1 ?_
  refine lv_iload_n hx hb d_CP_splits_4 rfl (lv_at hl 1 rfl) ?_
  refine vp_callSi (va_Run.run (k_V (n := 1) (C := R_GR) (rest := []) ⟨hx, hb, hml, hown, hts⟩ (c_GR_isThere l dC dI cI cJ cZ g a1 a2 nd ar pr (nI x) (by first | assumption | omega)) wml_CP_73 wim_GR_isThere wsel_GR_isThere wini_GR wcode_GR_isThere (by decide +kernel) ⟨Nat.le_of_ble_eq_true rfl, Nat.le_of_ble_eq_true rfl⟩ (preV_R (q := (R_GR, F_GR, 5)) (ci := 1) (q0 := 0) (hP.sub (ws' := [(g, .inr (1, [.ref a1, .ref a2, .int (nI nd), .int (nI ar), .long pr]))]) [1] rfl) hK rfl rfl) rfl hl.1 rfl (Nat.le_of_ble_eq_true rfl) d_CP_splits_5 ⟨Nat.zero_le _, Nat.zero_le _⟩)) (fun r_1 hr_2 => ?_)
  refine xe_i (y := (bI (vd (nI x) ar && lb pr (nI x).toNatClampNeg))) hr_2 ?_
  refine xe_i (y := (bI true)) (by rw [th_tt (by omega) hxn hxl]) ?_
  refine lv_if_ne (tgt := 13) hx hb d_CP_splits_8 (by decide) (fun _ => ?_) (fun c9 => absurd c9 (by decide : ¬ ((bI true) : Int32) = 0))
  refine lv_iload_n hx hb d_CP_splits_13 rfl (lv_at hl 2 rfl) ?_
  refine lv_if_lt (tgt := 22) hx hb d_CP_splits_14 (by decide) (fun c_4 => ?_) (fun c_4 => ?_)
  · skip
    exact absurd c_4 (by decide)
  · skip
    refine lv_iload_n hx hb d_CP_splits_17 rfl (lv_at hl 2 rfl) ?_
    refine lv_iconst (v := (nI 3)) hx hb d_CP_splits_18 (by decide) ?_
    refine x_cmp_le (a := 1) (b := 3) (tgt := 25) hx hb (by omega) (by omega) d_CP_splits_19 (by decide) (fun c_5 => ?_) (fun c_5 => ?_)
    · skip
      refine lv_aload_n hx hb d_CP_splits_25 rfl (lv_at hl 0 rfl) ?_
      refine va_get (D := (dC, dI)) (ci := 0) (v := .ref k) (C := R_CP) (T := F_CP) (N := 6) hx hb hts in_CP hown hK.1 hP 0 rfl rfl 1 (by decide) (hts _ wfl_CP_19) (fun _ h9 => h9) rfl d_CP_splits_26 ?_
      refine va_get (D := (dC, dI)) (ci := 2) (v := .ref h) (C := R_SK) (T := F_SK) (N := 7) hx hb hts in_SK hown hK.1 hP 2 rfl rfl 4 (by decide) (hts _ wfl_CP_92) (fun _ h9 => h9) rfl d_CP_splits_29 ?_
      refine lv_iload_n hx hb d_CP_splits_32 rfl (lv_at hl 1 rfl) ?_
      refine vp_callSl (va_Run.run (k_V (n := 1) (C := R_GP) (rest := []) ⟨hx, hb, hml, hown, hts⟩ (c_GP_holding l dC dI cI cJ cZ h b1 z Se x (by first | assumption | omega) hSK.2.2.2.2.1.le) wml_CP_131 wim_GP_holding wsel_GP_holding wini_GP wcode_GP_holding (by decide +kernel) ⟨Nat.le_of_ble_eq_true rfl, Nat.le_of_ble_eq_true rfl⟩ (preV_R (q := (R_GP, F_GP, 2)) (ci := 3) (q0 := 0) (hP.sub (ws' := [(h, .inr (3, [.ref b1, .int (nI z)])), (b1, .inl (cJ, 41, .inr (.inl Se)))]) [3, 4] rfl) hK rfl rfl) rfl hl.1 rfl (Nat.le_of_ble_eq_true rfl) d_CP_splits_33 ⟨Nat.zero_le _, Nat.zero_le _⟩)) (fun r_6 hr_7 => ?_)
      refine xe_l (y := (Se i0)) (hold_eq hSK.2.2.2.2.1 hi0 he hr_7) ?_
      refine lv_lstore_n (lv' := [(3, .long (Se i0)), (0, .ref cp), (1, .int (nI x)), (2, .int (nI 1))]) hx hb d_CP_splits_36 rfl hl (by decide) rfl (fun ls hl => ?_)
      refine lv_iload_n hx hb d_CP_splits_37 rfl (lv_at hl 3 rfl) ?_
      refine lv_if_ne (tgt := 46) hx hb d_CP_splits_38 (by decide) (fun _ => ?_) (fun c9 => absurd c9 (by decide : ¬ ((nI 1) : Int32) = 0))
      refine lv_lload_n hx hb d_CP_splits_46 rfl (lv_at hl 0 rfl) ?_
      refine vp_callSi (va_Run.run (k_S (n := 1) (rest := []) ⟨hx, hb, hml, hown, hts⟩ (c_JL_bitCount l dC dI cI cJ cZ (Se i0)) wml_CP_76 wst_JL_bitCount wini_JL wcode_JL_bitCount (by decide +kernel) ⟨Nat.le_of_ble_eq_true rfl, Nat.le_of_ble_eq_true rfl⟩ (pre_R (hP.sub (ws' := []) [] rfl) hK) rfl hl.1 rfl (Nat.le_of_ble_eq_true rfl) d_CP_splits_47 ⟨Nat.zero_le _, Nat.zero_le _⟩)) (fun r_9 hr_10 => ?_)
      refine xe_i (y := (nI (cn (lb (Se i0)) 64))) hr_10 ?_
      refine lv_bipush (v := (nI 14)) hx hb d_CP_splits_50 (by decide) ?_
      refine x_cmp_le (a := (cn (lb (Se i0)) 64)) (b := 14) (tgt := 58) hx hb (Nat.lt_of_le_of_lt (cn_le _ _) (by decide)) (by omega) d_CP_splits_52 (by decide) (fun c_11 => ?_) (fun c_11 => ?_)
      · skip
        refine lv_aload_n hx hb d_CP_splits_58 rfl (lv_at hl 1 rfl) ?_
        refine va_get (D := (dC, dI)) (ci := 0) (v := .ref sp) (C := R_CP) (T := F_CP) (N := 6) hx hb hts in_CP hown hK.1 hP 0 rfl rfl 5 (by decide) (hts _ wfl_CP_43) (fun _ h9 => h9) rfl d_CP_splits_59 ?_
        refine lv_aload_n hx hb d_CP_splits_62 rfl (lv_at hl 1 rfl) ?_
        refine va_get (D := (dC, dI)) (ci := 0) (v := .ref k) (C := R_CP) (T := F_CP) (N := 6) hx hb hts in_CP hown hK.1 hP 0 rfl rfl 1 (by decide) (hts _ wfl_CP_19) (fun _ h9 => h9) rfl d_CP_splits_63 ?_
        refine lv_lload_n hx hb d_CP_splits_66 rfl (lv_at hl 0 rfl) ?_
        refine x_cv (k_V (n := 2) (C := R_SP) (rest := []) ⟨hx, hb, hml, hown, hts⟩ (c_SP_findGood l dC dI cI cJ cZ sp gg pi bo gd pci gci bl0 gs zi Sg Pi Bo Gd k nr fr rs at_ h al br A (Se i0) hB0 h14 (fun e q9 => (hSK.2.2.2.2.1.2.1 i0 e hi0 q9).1)) wml_CP_180 wim_SP_findGood wsel_SP_findGood wini_SP wcode_SP_findGood (by decide +kernel) ⟨Nat.le_of_ble_eq_true rfl, Nat.le_of_ble_eq_true rfl⟩ (preV_M (q := (R_SP, F_SP, 7)) (ci := 6) (q0 := 0) (hP.sub (ws' := [(sp, .inr (6, [.ref gg, .ref pi, .ref bo, .int pci, .ref gd, .int gci, .long bl0])), (gg, .inr (3, [.ref gs, .int zi])), (gs, .inl (cJ, 41, .inr (.inl Sg))), (pi, .inl (cJ, 1274, .inr (.inl Pi))), (bo, .inl (cI, 92, .inl (nF Bo))), (gd, .inl (cJ, 14, .inr (.inl Gd))), (k, .inr (2, [.ref nr, .ref fr, .ref rs, .ref at_, .ref h, .int al, .long br])), (at_, .inl (cJ, 14, .inr (.inl A)))]) [6, 7, 8, 9, 10, 11, 2, 5] rfl) hK (hD.sub (ws' := [(sp, .inr (6, [.ref gg, .ref pi, .ref bo, .int pci, .ref gd, .int gci, .long bl0])), (gg, .inr (3, [.ref gs, .int zi])), (gs, .inl (cJ, 41, .inr (.inl Sg))), (pi, .inl (cJ, 1274, .inr (.inl Pi))), (bo, .inl (cI, 92, .inl (nF Bo))), (gd, .inl (cJ, 14, .inr (.inl Gd))), (k, .inr (2, [.ref nr, .ref fr, .ref rs, .ref at_, .ref h, .int al, .long br])), (at_, .inl (cJ, 14, .inr (.inl A)))]) [6, 7, 8, 9, 10, 11, 2, 5] (by decide) rfl) rfl rfl) rfl hl.1 rfl (Nat.le_of_ble_eq_true rfl) d_CP_splits_67 ⟨Nat.zero_le _, Nat.zero_le _⟩) hP hD hS [6, 7, 8, 9, 10, 11, 2, 5] rfl (fun _ => rfl) (fun u_12 H locs hu_12 hP hS => ?_)
        obtain ⟨pc9_12, gc9_12, zi9_12, S9_12, Pi9_12, Bo9_12, Gd9_12⟩ := u_12
        have hP : va_P (dC, dI) cls [(cp, .inr (0, [.ref g, .ref k, .ref k2, .ref fl, .ref co, .ref sp])), (g, .inr (1, [.ref a1, .ref a2, .int (nI nd), .int (nI ar), .long pr])), (k, .inr (2, [.ref nr, .ref fr, .ref rs, .ref at_, .ref h, .int al, .long br])), (h, .inr (3, [.ref b1, .int (nI z)])), (b1, .inl (cJ, 41, .inr (.inl Se))), (at_, .inl (cJ, 14, .inr (.inl A))), (sp, .inr (6, [.ref gg, .ref pi, .ref bo, .int (nI pc9_12), .ref gd, .int (nI gc9_12), .long (Se i0)])), (gg, .inr (3, [.ref gs, .int zi9_12])), (gs, .inl (cJ, 41, .inr (.inl S9_12))), (pi, .inl (cJ, 1274, .inr (.inl Pi9_12))), (bo, .inl (cI, 92, .inl (nF Bo9_12))), (gd, .inl (cJ, 14, .inr (.inl Gd9_12)))] H := hP
        have hD := hD.addr (ws' := [(cp, .inr (0, [.ref g, .ref k, .ref k2, .ref fl, .ref co, .ref sp])), (g, .inr (1, [.ref a1, .ref a2, .int (nI nd), .int (nI ar), .long pr])), (k, .inr (2, [.ref nr, .ref fr, .ref rs, .ref at_, .ref h, .int al, .long br])), (h, .inr (3, [.ref b1, .int (nI z)])), (b1, .inl (cJ, 41, .inr (.inl Se))), (at_, .inl (cJ, 14, .inr (.inl A))), (sp, .inr (6, [.ref gg, .ref pi, .ref bo, .int (nI pc9_12), .ref gd, .int (nI gc9_12), .long (Se i0)])), (gg, .inr (3, [.ref gs, .int zi9_12])), (gs, .inl (cJ, 41, .inr (.inl S9_12))), (pi, .inl (cJ, 1274, .inr (.inl Pi9_12))), (bo, .inl (cI, 92, .inl (nF Bo9_12))), (gd, .inl (cJ, 14, .inr (.inl Gd9_12)))]) rfl
        refine lv_iload_n hx hb d_CP_splits_70 rfl (lv_at hl 3 rfl) ?_
        refine lv_iconst (v := (nI 1)) hx hb d_CP_splits_71 (by decide) ?_
        refine x_cmp_ne (a := 1) (b := 1) (tgt := 83) hx hb (by omega) (by omega) d_CP_splits_72 (by decide) (fun c_13 => ?_) (fun c_13 => ?_)
        · skip
          omega
        · skip
          refine lv_aload_n hx hb d_CP_splits_75 rfl (lv_at hl 1 rfl) ?_
          refine va_get (D := (dC, dI)) (ci := 0) (v := .ref sp) (C := R_CP) (T := F_CP) (N := 6) hx hb hts in_CP hown hK.1 hP 0 rfl rfl 5 (by decide) (hts _ wfl_CP_43) (fun _ h9 => h9) rfl d_CP_splits_76 ?_
          refine va_get (D := (dC, dI)) (ci := 6) (v := .int (nI gc9_12)) (C := R_SP) (T := F_SP) (N := 7) hx hb hts in_SP hown hK.1 hP 6 rfl rfl 5 (by decide) (hts _ wfl_CP_187) (fun _ h9 => h9) rfl d_CP_splits_79 ?_
          exact W.iret (v := (nI gc9_12)) hx hb hr (fun t9 ht9 _ => ⟨⟨_, (pc9_12, gc9_12, zi9_12, S9_12, Pi9_12, Bo9_12, Gd9_12), rfl, ⟨rfl, hu_12⟩, by show va_P (dC, dI) cls _ t9.heap; rw [ht9]; exact hP⟩, hS.F ht9⟩) hS.2.2 d_CP_splits_82
      · skip
        omega
    · skip
      omega

set_option maxHeartbeats 4000000 in
set_option maxRecDepth 100000 in
theorem c_CP_splits_l2 (l : Launch) (dC : Nat → ClassId) (dI : Nat → Nat → Nat) (cI cJ cZ : ClassId) (cp g k k2 fl co sp : Nat) (a1 a2 nd ar : Nat) (pr : Int64) (F G : Nat → Nat) (hGA : GAR F G nd ar pr) (nr fr rs at_ h : Nat) (al : Int32) (br : Int64) (N Fm : Nat → Int32) (A : Nat → Int64) (b1 z : Nat) (Se : Nat → Int64) (hSK : SKI (lb pr) F G nd N Fm A Se z al br) (x : Nat) (hxn : x < ar) (hxl : lb pr x = true) (i0 : Nat) (hi0 : i0 < z) (he : lb (Se i0) x = true) (h14 : 14 < cn (lb (Se i0)) 64) : Met l ⟨"CutPoints", "splits", "(II)I"⟩ (Cond.code ⟨"CutPoints", "splits", "(II)I"⟩ prog_1_method_19_code 7 (some .int) :: TT) (rmk 2 44) (PR dC dI cI cJ cZ [.ref cp, .int (nI x), .int (nI 2)] [(cp, .inr (0, [.ref g, .ref k, .ref k2, .ref fl, .ref co, .ref sp])), (g, .inr (1, [.ref a1, .ref a2, .int (nI nd), .int (nI ar), .long pr])), (k, .inr (2, [.ref nr, .ref fr, .ref rs, .ref at_, .ref h, .int al, .long br])), (h, .inr (3, [.ref b1, .int (nI z)])), (b1, .inl (cJ, 41, .inr (.inl Se)))]) (vp_Si (fun r => r = -4)) 0 0 (fun _ => False) := by
  refine Met.ofW (cc := prog_1_method_19_code) (maxL := 7) (ret := (some .int)) (by decide) rfl ?_
  intro p e s m args below meth c s₁ BB9 hml hv
  obtain ⟨rfl, hP, hK⟩ := hv
  have hx := BB9.exec
  have hb := BB9.bytes
  have hr := BB9.returns
  have hts : ∀ w ∈ TT, w.before _ s = true := fun w h => atoms_spec (ws := (Cond.code ⟨"CutPoints", "splits", "(II)I"⟩ prog_1_method_19_code 7 (some .int) :: TT)) BB9.pre w (List.mem_cons_of_mem _ h)
  have hown : s.vm.findClass "CutPoints" = some m.cls := findClass_of_methodNamed BB9.named
  have hlocks := BB9.notSynchronized
  have hnd14 := hGA.1
  have har40 := hGA.2.1
  have hl := lv_entry ([.ref cp, .int (nI x), .int (nI 2)]) (n := 7) (Nat.le_of_ble_eq_true rfl)
  rw [lg_entry_eq]
  generalize (lg_sl ([.ref cp, .int (nI x), .int (nI 2)]) ++ List.replicate (7 - (lg_sl ([.ref cp, .int (nI x), .int (nI 2)])).length) Slot.unset).toArray = ls at hl ⊢
  have hl : lv_has ls 7 [(0, .ref cp), (1, .int (nI x)), (2, .int (nI 2))] := hl
  refine lv_aload_n hx hb d_CP_splits_0 rfl (lv_at hl 0 rfl) ?_
  refine va_get (D := (dC, dI)) (ci := 0) (v := .ref g) (C := R_CP) (T := F_CP) (N := 6) hx hb hts in_CP hown hK.1 hP 0 rfl rfl 0 (by decide) (hts _ wfl_CP_12) (fun _ h9 => h9) rfl d_CP_splits_1 ?_
  refine lv_iload_n hx hb d_CP_splits_4 rfl (lv_at hl 1 rfl) ?_
  refine vp_callSi (va_Run.run (k_V (n := 1) (C := R_GR) (rest := []) ⟨hx, hb, hml, hown, hts⟩ (c_GR_isThere l dC dI cI cJ cZ g a1 a2 nd ar pr (nI x) (by first | assumption | omega)) wml_CP_73 wim_GR_isThere wsel_GR_isThere wini_GR wcode_GR_isThere (by decide +kernel) ⟨Nat.le_of_ble_eq_true rfl, Nat.le_of_ble_eq_true rfl⟩ (preV_R (q := (R_GR, F_GR, 5)) (ci := 1) (q0 := 0) (hP.sub (ws' := [(g, .inr (1, [.ref a1, .ref a2, .int (nI nd), .int (nI ar), .long pr]))]) [1] rfl) hK rfl rfl) rfl hl.1 rfl (Nat.le_of_ble_eq_true rfl) d_CP_splits_5 ⟨Nat.zero_le _, Nat.zero_le _⟩)) (fun r_1 hr_2 => ?_)
  refine xe_i (y := (bI (vd (nI x) ar && lb pr (nI x).toNatClampNeg))) hr_2 ?_
  refine xe_i (y := (bI true)) (by rw [th_tt (by omega) hxn hxl]) ?_
  refine lv_if_ne (tgt := 13) hx hb d_CP_splits_8 (by decide) (fun _ => ?_) (fun c9 => absurd c9 (by decide : ¬ ((bI true) : Int32) = 0))
  refine lv_iload_n hx hb d_CP_splits_13 rfl (lv_at hl 2 rfl) ?_
  refine lv_if_lt (tgt := 22) hx hb d_CP_splits_14 (by decide) (fun c_4 => ?_) (fun c_4 => ?_)
  · skip
    exact absurd c_4 (by decide)
  · skip
    refine lv_iload_n hx hb d_CP_splits_17 rfl (lv_at hl 2 rfl) ?_
    refine lv_iconst (v := (nI 3)) hx hb d_CP_splits_18 (by decide) ?_
    refine x_cmp_le (a := 2) (b := 3) (tgt := 25) hx hb (by omega) (by omega) d_CP_splits_19 (by decide) (fun c_5 => ?_) (fun c_5 => ?_)
    · skip
      refine lv_aload_n hx hb d_CP_splits_25 rfl (lv_at hl 0 rfl) ?_
      refine va_get (D := (dC, dI)) (ci := 0) (v := .ref k) (C := R_CP) (T := F_CP) (N := 6) hx hb hts in_CP hown hK.1 hP 0 rfl rfl 1 (by decide) (hts _ wfl_CP_19) (fun _ h9 => h9) rfl d_CP_splits_26 ?_
      refine va_get (D := (dC, dI)) (ci := 2) (v := .ref h) (C := R_SK) (T := F_SK) (N := 7) hx hb hts in_SK hown hK.1 hP 2 rfl rfl 4 (by decide) (hts _ wfl_CP_92) (fun _ h9 => h9) rfl d_CP_splits_29 ?_
      refine lv_iload_n hx hb d_CP_splits_32 rfl (lv_at hl 1 rfl) ?_
      refine vp_callSl (va_Run.run (k_V (n := 1) (C := R_GP) (rest := []) ⟨hx, hb, hml, hown, hts⟩ (c_GP_holding l dC dI cI cJ cZ h b1 z Se x (by first | assumption | omega) hSK.2.2.2.2.1.le) wml_CP_131 wim_GP_holding wsel_GP_holding wini_GP wcode_GP_holding (by decide +kernel) ⟨Nat.le_of_ble_eq_true rfl, Nat.le_of_ble_eq_true rfl⟩ (preV_R (q := (R_GP, F_GP, 2)) (ci := 3) (q0 := 0) (hP.sub (ws' := [(h, .inr (3, [.ref b1, .int (nI z)])), (b1, .inl (cJ, 41, .inr (.inl Se)))]) [3, 4] rfl) hK rfl rfl) rfl hl.1 rfl (Nat.le_of_ble_eq_true rfl) d_CP_splits_33 ⟨Nat.zero_le _, Nat.zero_le _⟩)) (fun r_6 hr_7 => ?_)
      refine xe_l (y := (Se i0)) (hold_eq hSK.2.2.2.2.1 hi0 he hr_7) ?_
      refine lv_lstore_n (lv' := [(3, .long (Se i0)), (0, .ref cp), (1, .int (nI x)), (2, .int (nI 2))]) hx hb d_CP_splits_36 rfl hl (by decide) rfl (fun ls hl => ?_)
      refine lv_iload_n hx hb d_CP_splits_37 rfl (lv_at hl 3 rfl) ?_
      refine lv_if_ne (tgt := 46) hx hb d_CP_splits_38 (by decide) (fun _ => ?_) (fun c9 => absurd c9 (by decide : ¬ ((nI 2) : Int32) = 0))
      refine lv_lload_n hx hb d_CP_splits_46 rfl (lv_at hl 0 rfl) ?_
      refine vp_callSi (va_Run.run (k_S (n := 1) (rest := []) ⟨hx, hb, hml, hown, hts⟩ (c_JL_bitCount l dC dI cI cJ cZ (Se i0)) wml_CP_76 wst_JL_bitCount wini_JL wcode_JL_bitCount (by decide +kernel) ⟨Nat.le_of_ble_eq_true rfl, Nat.le_of_ble_eq_true rfl⟩ (pre_R (hP.sub (ws' := []) [] rfl) hK) rfl hl.1 rfl (Nat.le_of_ble_eq_true rfl) d_CP_splits_47 ⟨Nat.zero_le _, Nat.zero_le _⟩)) (fun r_9 hr_10 => ?_)
      refine xe_i (y := (nI (cn (lb (Se i0)) 64))) hr_10 ?_
      refine lv_bipush (v := (nI 14)) hx hb d_CP_splits_50 (by decide) ?_
      refine x_cmp_le (a := (cn (lb (Se i0)) 64)) (b := 14) (tgt := 58) hx hb (Nat.lt_of_le_of_lt (cn_le _ _) (by decide)) (by omega) d_CP_splits_52 (by decide) (fun c_11 => ?_) (fun c_11 => ?_)
      · skip
        omega
      · skip
        refine lv_bipush (v := (-4)) hx hb d_CP_splits_55 (by decide) ?_
        exact W.iret (v := (-4)) hx hb hr (fun t9 ht9 _ => ⟨_, rfl, rfl, ht9⟩) t_nil d_CP_splits_57
    · skip
      omega

set_option maxHeartbeats 4000000 in
set_option maxRecDepth 100000 in
theorem c_CP_splits_2 (l : Launch) (dC : Nat → ClassId) (dI : Nat → Nat → Nat) (cI cJ cZ : ClassId) (cp g k k2 fl co sp : Nat) (a1 a2 nd ar : Nat) (pr : Int64) (F G : Nat → Nat) (hGA : GAR F G nd ar pr) (nr fr rs at_ h : Nat) (al : Int32) (br : Int64) (N Fm : Nat → Int32) (A : Nat → Int64) (b1 z : Nat) (Se : Nat → Int64) (hSK : SKI (lb pr) F G nd N Fm A Se z al br) (gg pi bo gd : Nat) (pci gci : Int32) (bl0 : Int64) (gs : Nat) (zi : Int32) (Sg Pi : Nat → Int64) (Bo : Nat → Nat) (Gd : Nat → Int64) (hB0 : Bo 0 = 0) (x : Nat) (hxn : x < ar) (hxl : lb pr x = true) (i0 : Nat) (hi0 : i0 < z) (he : lb (Se i0) x = true) (h14 : cn (lb (Se i0)) 64 ≤ 14) : Met l ⟨"CutPoints", "splits", "(II)I"⟩ (Cond.code ⟨"CutPoints", "splits", "(II)I"⟩ prog_1_method_19_code 7 (some .int) :: TT) (rmk 5 114) (PM dC dI cI cJ cZ [.ref cp, .int (nI x), .int (nI 2)] [(cp, .inr (0, [.ref g, .ref k, .ref k2, .ref fl, .ref co, .ref sp])), (g, .inr (1, [.ref a1, .ref a2, .int (nI nd), .int (nI ar), .long pr])), (k, .inr (2, [.ref nr, .ref fr, .ref rs, .ref at_, .ref h, .int al, .long br])), (h, .inr (3, [.ref b1, .int (nI z)])), (b1, .inl (cJ, 41, .inr (.inl Se))), (at_, .inl (cJ, 14, .inr (.inl A))), (sp, .inr (6, [.ref gg, .ref pi, .ref bo, .int pci, .ref gd, .int gci, .long bl0])), (gg, .inr (3, [.ref gs, .int zi])), (gs, .inl (cJ, 41, .inr (.inl Sg))), (pi, .inl (cJ, 1274, .inr (.inl Pi))), (bo, .inl (cI, 92, .inl (nF Bo))), (gd, .inl (cJ, 14, .inr (.inl Gd)))]) (va_Qi (S := Nat × Nat × Int32 × (Nat → Int64) × (Nat → Int64) × (Nat → Nat) × (Nat → Int64)) (fun r u9 => (PCE A (Se i0) u9.2.2.2.2.1 u9.2.2.2.2.2.1 u9.1 14 15 ∧ fgI u9.2.2.2.2.1 u9.2.2.2.2.2.1 u9.1 (Se i0) u9.2.2.2.2.2.2 u9.2.1 u9.1) ∧ ∃ w, jwI u9.2.2.2.2.2.2 (Se i0) x w u9.2.1 ∧ r = nI (cn (lb w) 64)) (fun u9 t9 => va_P (dC, dI) cls ([(cp, .inr (0, [.ref g, .ref k, .ref k2, .ref fl, .ref co, .ref sp])), (g, .inr (1, [.ref a1, .ref a2, .int (nI nd), .int (nI ar), .long pr])), (k, .inr (2, [.ref nr, .ref fr, .ref rs, .ref at_, .ref h, .int al, .long br])), (h, .inr (3, [.ref b1, .int (nI z)])), (b1, .inl (cJ, 41, .inr (.inl Se))), (at_, .inl (cJ, 14, .inr (.inl A))), (sp, .inr (6, [.ref gg, .ref pi, .ref bo, .int (nI u9.1), .ref gd, .int (nI u9.2.1), .long (Se i0)])), (gg, .inr (3, [.ref gs, .int u9.2.2.1])), (gs, .inl (cJ, 41, .inr (.inl u9.2.2.2.1))), (pi, .inl (cJ, 1274, .inr (.inl u9.2.2.2.2.1))), (bo, .inl (cI, 92, .inl (nF u9.2.2.2.2.2.1))), (gd, .inl (cJ, 14, .inr (.inl u9.2.2.2.2.2.2)))]) t9.heap) (ow [(cp, .inr (0, [.ref g, .ref k, .ref k2, .ref fl, .ref co, .ref sp])), (g, .inr (1, [.ref a1, .ref a2, .int (nI nd), .int (nI ar), .long pr])), (k, .inr (2, [.ref nr, .ref fr, .ref rs, .ref at_, .ref h, .int al, .long br])), (h, .inr (3, [.ref b1, .int (nI z)])), (b1, .inl (cJ, 41, .inr (.inl Se))), (at_, .inl (cJ, 14, .inr (.inl A))), (sp, .inr (6, [.ref gg, .ref pi, .ref bo, .int pci, .ref gd, .int gci, .long bl0])), (gg, .inr (3, [.ref gs, .int zi])), (gs, .inl (cJ, 41, .inr (.inl Sg))), (pi, .inl (cJ, 1274, .inr (.inl Pi))), (bo, .inl (cI, 92, .inl (nF Bo))), (gd, .inl (cJ, 14, .inr (.inl Gd)))])) 0 0 (ow [(cp, .inr (0, [.ref g, .ref k, .ref k2, .ref fl, .ref co, .ref sp])), (g, .inr (1, [.ref a1, .ref a2, .int (nI nd), .int (nI ar), .long pr])), (k, .inr (2, [.ref nr, .ref fr, .ref rs, .ref at_, .ref h, .int al, .long br])), (h, .inr (3, [.ref b1, .int (nI z)])), (b1, .inl (cJ, 41, .inr (.inl Se))), (at_, .inl (cJ, 14, .inr (.inl A))), (sp, .inr (6, [.ref gg, .ref pi, .ref bo, .int pci, .ref gd, .int gci, .long bl0])), (gg, .inr (3, [.ref gs, .int zi])), (gs, .inl (cJ, 41, .inr (.inl Sg))), (pi, .inl (cJ, 1274, .inr (.inl Pi))), (bo, .inl (cI, 92, .inl (nF Bo))), (gd, .inl (cJ, 14, .inr (.inl Gd)))]) := by
  refine Met.ofW (cc := prog_1_method_19_code) (maxL := 7) (ret := (some .int)) (by decide) rfl ?_
  intro p e s m args below meth c s₁ BB9 hml hv
  obtain ⟨rfl, hP, hK, hD0⟩ := hv
  have hx := BB9.exec
  have hb := BB9.bytes
  have hr := BB9.returns
  have hts : ∀ w ∈ TT, w.before _ s = true := fun w h => atoms_spec (ws := (Cond.code ⟨"CutPoints", "splits", "(II)I"⟩ prog_1_method_19_code 7 (some .int) :: TT)) BB9.pre w (List.mem_cons_of_mem _ h)
  have hown : s.vm.findClass "CutPoints" = some m.cls := findClass_of_methodNamed BB9.named
  have hlocks := BB9.notSynchronized
  have hD := hD0.mine
  have hS : va_S (ow [(cp, .inr (0, [.ref g, .ref k, .ref k2, .ref fl, .ref co, .ref sp])), (g, .inr (1, [.ref a1, .ref a2, .int (nI nd), .int (nI ar), .long pr])), (k, .inr (2, [.ref nr, .ref fr, .ref rs, .ref at_, .ref h, .int al, .long br])), (h, .inr (3, [.ref b1, .int (nI z)])), (b1, .inl (cJ, 41, .inr (.inl Se))), (at_, .inl (cJ, 14, .inr (.inl A))), (sp, .inr (6, [.ref gg, .ref pi, .ref bo, .int pci, .ref gd, .int gci, .long bl0])), (gg, .inr (3, [.ref gs, .int zi])), (gs, .inl (cJ, 41, .inr (.inl Sg))), (pi, .inl (cJ, 1274, .inr (.inl Pi))), (bo, .inl (cI, 92, .inl (nF Bo))), (gd, .inl (cJ, 14, .inr (.inl Gd)))]) s.heap s.heap [] := va_S.rf
  have hnd14 := hGA.1
  have har40 := hGA.2.1
  have hl := lv_entry ([.ref cp, .int (nI x), .int (nI 2)]) (n := 7) (Nat.le_of_ble_eq_true rfl)
  rw [lg_entry_eq]
  generalize (lg_sl ([.ref cp, .int (nI x), .int (nI 2)]) ++ List.replicate (7 - (lg_sl ([.ref cp, .int (nI x), .int (nI 2)])).length) Slot.unset).toArray = ls at hl ⊢
  have hl : lv_has ls 7 [(0, .ref cp), (1, .int (nI x)), (2, .int (nI 2))] := hl
  refine lv_aload_n hx hb d_CP_splits_0 rfl (lv_at hl 0 rfl) ?_
  refine va_get (D := (dC, dI)) (ci := 0) (v := .ref g) (C := R_CP) (T := F_CP) (N := 6) hx hb hts in_CP hown hK.1 hP 0 rfl rfl 0 (by decide) (hts _ wfl_CP_12) (fun _ h9 => h9) rfl d_CP_splits_1 ?_
  refine lv_iload_n hx hb d_CP_splits_4 rfl (lv_at hl 1 rfl) ?_
  refine vp_callSi (va_Run.run (k_V (n := 1) (C := R_GR) (rest := []) ⟨hx, hb, hml, hown, hts⟩ (c_GR_isThere l dC dI cI cJ cZ g a1 a2 nd ar pr (nI x) (by first | assumption | omega)) wml_CP_73 wim_GR_isThere wsel_GR_isThere wini_GR wcode_GR_isThere (by decide +kernel) ⟨Nat.le_of_ble_eq_true rfl, Nat.le_of_ble_eq_true rfl⟩ (preV_R (q := (R_GR, F_GR, 5)) (ci := 1) (q0 := 0) (hP.sub (ws' := [(g, .inr (1, [.ref a1, .ref a2, .int (nI nd), .int (nI ar), .long pr]))]) [1] rfl) hK rfl rfl) rfl hl.1 rfl (Nat.le_of_ble_eq_true rfl) d_CP_splits_5 ⟨Nat.zero_le _, Nat.zero_le _⟩)) (fun r_1 hr_2 => ?_)
  refine xe_i (y := (bI (vd (nI x) ar && lb pr (nI x).toNatClampNeg))) hr_2 ?_
  refine xe_i (y := (bI true)) (by rw [th_tt (by omega) hxn hxl]) ?_
  refine lv_if_ne (tgt := 13) hx hb d_CP_splits_8 (by decide) (fun _ => ?_) (fun c9 => absurd c9 (by decide : ¬ ((bI true) : Int32) = 0))
  refine lv_iload_n hx hb d_CP_splits_13 rfl (lv_at hl 2 rfl) ?_
  refine lv_if_lt (tgt := 22) hx hb d_CP_splits_14 (by decide) (fun c_4 => ?_) (fun c_4 => ?_)
  · skip
    exact absurd c_4 (by decide)
  · skip
    refine lv_iload_n hx hb d_CP_splits_17 rfl (lv_at hl 2 rfl) ?_
    refine lv_iconst (v := (nI 3)) hx hb d_CP_splits_18 (by decide) ?_
    refine x_cmp_le (a := 2) (b := 3) (tgt := 25) hx hb (by omega) (by omega) d_CP_splits_19 (by decide) (fun c_5 => ?_) (fun c_5 => ?_)
    · skip
      refine lv_aload_n hx hb d_CP_splits_25 rfl (lv_at hl 0 rfl) ?_
      refine va_get (D := (dC, dI)) (ci := 0) (v := .ref k) (C := R_CP) (T := F_CP) (N := 6) hx hb hts in_CP hown hK.1 hP 0 rfl rfl 1 (by decide) (hts _ wfl_CP_19) (fun _ h9 => h9) rfl d_CP_splits_26 ?_
      refine va_get (D := (dC, dI)) (ci := 2) (v := .ref h) (C := R_SK) (T := F_SK) (N := 7) hx hb hts in_SK hown hK.1 hP 2 rfl rfl 4 (by decide) (hts _ wfl_CP_92) (fun _ h9 => h9) rfl d_CP_splits_29 ?_
      refine lv_iload_n hx hb d_CP_splits_32 rfl (lv_at hl 1 rfl) ?_
      refine vp_callSl (va_Run.run (k_V (n := 1) (C := R_GP) (rest := []) ⟨hx, hb, hml, hown, hts⟩ (c_GP_holding l dC dI cI cJ cZ h b1 z Se x (by first | assumption | omega) hSK.2.2.2.2.1.le) wml_CP_131 wim_GP_holding wsel_GP_holding wini_GP wcode_GP_holding (by decide +kernel) ⟨Nat.le_of_ble_eq_true rfl, Nat.le_of_ble_eq_true rfl⟩ (preV_R (q := (R_GP, F_GP, 2)) (ci := 3) (q0 := 0) (hP.sub (ws' := [(h, .inr (3, [.ref b1, .int (nI z)])), (b1, .inl (cJ, 41, .inr (.inl Se)))]) [3, 4] rfl) hK rfl rfl) rfl hl.1 rfl (Nat.le_of_ble_eq_true rfl) d_CP_splits_33 ⟨Nat.zero_le _, Nat.zero_le _⟩)) (fun r_6 hr_7 => ?_)
      refine xe_l (y := (Se i0)) (hold_eq hSK.2.2.2.2.1 hi0 he hr_7) ?_
      refine lv_lstore_n (lv' := [(3, .long (Se i0)), (0, .ref cp), (1, .int (nI x)), (2, .int (nI 2))]) hx hb d_CP_splits_36 rfl hl (by decide) rfl (fun ls hl => ?_)
      refine lv_iload_n hx hb d_CP_splits_37 rfl (lv_at hl 3 rfl) ?_
      refine lv_if_ne (tgt := 46) hx hb d_CP_splits_38 (by decide) (fun _ => ?_) (fun c9 => absurd c9 (by decide : ¬ ((nI 2) : Int32) = 0))
      refine lv_lload_n hx hb d_CP_splits_46 rfl (lv_at hl 0 rfl) ?_
      refine vp_callSi (va_Run.run (k_S (n := 1) (rest := []) ⟨hx, hb, hml, hown, hts⟩ (c_JL_bitCount l dC dI cI cJ cZ (Se i0)) wml_CP_76 wst_JL_bitCount wini_JL wcode_JL_bitCount (by decide +kernel) ⟨Nat.le_of_ble_eq_true rfl, Nat.le_of_ble_eq_true rfl⟩ (pre_R (hP.sub (ws' := []) [] rfl) hK) rfl hl.1 rfl (Nat.le_of_ble_eq_true rfl) d_CP_splits_47 ⟨Nat.zero_le _, Nat.zero_le _⟩)) (fun r_9 hr_10 => ?_)
      refine xe_i (y := (nI (cn (lb (Se i0)) 64))) hr_10 ?_
      refine lv_bipush (v := (nI 14)) hx hb d_CP_splits_50 (by decide) ?_
      refine x_cmp_le (a := (cn (lb (Se i0)) 64)) (b := 14) (tgt := 58) hx hb (Nat.lt_of_le_of_lt (cn_le _ _) (by decide)) (by omega) d_CP_splits_52 (by decide) (fun c_11 => ?_) (fun c_11 => ?_)
      · skip
        refine lv_aload_n hx hb d_CP_splits_58 rfl (lv_at hl 1 rfl) ?_
        refine va_get (D := (dC, dI)) (ci := 0) (v := .ref sp) (C := R_CP) (T := F_CP) (N := 6) hx hb hts in_CP hown hK.1 hP 0 rfl rfl 5 (by decide) (hts _ wfl_CP_43) (fun _ h9 => h9) rfl d_CP_splits_59 ?_
        refine lv_aload_n hx hb d_CP_splits_62 rfl (lv_at hl 1 rfl) ?_
        refine va_get (D := (dC, dI)) (ci := 0) (v := .ref k) (C := R_CP) (T := F_CP) (N := 6) hx hb hts in_CP hown hK.1 hP 0 rfl rfl 1 (by decide) (hts _ wfl_CP_19) (fun _ h9 => h9) rfl d_CP_splits_63 ?_
        refine lv_lload_n hx hb d_CP_splits_66 rfl (lv_at hl 0 rfl) ?_
        refine x_cv (k_V (n := 2) (C := R_SP) (rest := []) ⟨hx, hb, hml, hown, hts⟩ (c_SP_findGood l dC dI cI cJ cZ sp gg pi bo gd pci gci bl0 gs zi Sg Pi Bo Gd k nr fr rs at_ h al br A (Se i0) hB0 h14 (fun e q9 => (hSK.2.2.2.2.1.2.1 i0 e hi0 q9).1)) wml_CP_180 wim_SP_findGood wsel_SP_findGood wini_SP wcode_SP_findGood (by decide +kernel) ⟨Nat.le_of_ble_eq_true rfl, Nat.le_of_ble_eq_true rfl⟩ (preV_M (q := (R_SP, F_SP, 7)) (ci := 6) (q0 := 0) (hP.sub (ws' := [(sp, .inr (6, [.ref gg, .ref pi, .ref bo, .int pci, .ref gd, .int gci, .long bl0])), (gg, .inr (3, [.ref gs, .int zi])), (gs, .inl (cJ, 41, .inr (.inl Sg))), (pi, .inl (cJ, 1274, .inr (.inl Pi))), (bo, .inl (cI, 92, .inl (nF Bo))), (gd, .inl (cJ, 14, .inr (.inl Gd))), (k, .inr (2, [.ref nr, .ref fr, .ref rs, .ref at_, .ref h, .int al, .long br])), (at_, .inl (cJ, 14, .inr (.inl A)))]) [6, 7, 8, 9, 10, 11, 2, 5] rfl) hK (hD.sub (ws' := [(sp, .inr (6, [.ref gg, .ref pi, .ref bo, .int pci, .ref gd, .int gci, .long bl0])), (gg, .inr (3, [.ref gs, .int zi])), (gs, .inl (cJ, 41, .inr (.inl Sg))), (pi, .inl (cJ, 1274, .inr (.inl Pi))), (bo, .inl (cI, 92, .inl (nF Bo))), (gd, .inl (cJ, 14, .inr (.inl Gd))), (k, .inr (2, [.ref nr, .ref fr, .ref rs, .ref at_, .ref h, .int al, .long br])), (at_, .inl (cJ, 14, .inr (.inl A)))]) [6, 7, 8, 9, 10, 11, 2, 5] (by decide) rfl) rfl rfl) rfl hl.1 rfl (Nat.le_of_ble_eq_true rfl) d_CP_splits_67 ⟨Nat.zero_le _, Nat.zero_le _⟩) hP hD hS [6, 7, 8, 9, 10, 11, 2, 5] rfl (fun _ => rfl) (fun u_12 H locs hu_12 hP hS => ?_)
        obtain ⟨pc9_12, gc9_12, zi9_12, S9_12, Pi9_12, Bo9_12, Gd9_12⟩ := u_12
        have hP : va_P (dC, dI) cls [(cp, .inr (0, [.ref g, .ref k, .ref k2, .ref fl, .ref co, .ref sp])), (g, .inr (1, [.ref a1, .ref a2, .int (nI nd), .int (nI ar), .long pr])), (k, .inr (2, [.ref nr, .ref fr, .ref rs, .ref at_, .ref h, .int al, .long br])), (h, .inr (3, [.ref b1, .int (nI z)])), (b1, .inl (cJ, 41, .inr (.inl Se))), (at_, .inl (cJ, 14, .inr (.inl A))), (sp, .inr (6, [.ref gg, .ref pi, .ref bo, .int (nI pc9_12), .ref gd, .int (nI gc9_12), .long (Se i0)])), (gg, .inr (3, [.ref gs, .int zi9_12])), (gs, .inl (cJ, 41, .inr (.inl S9_12))), (pi, .inl (cJ, 1274, .inr (.inl Pi9_12))), (bo, .inl (cI, 92, .inl (nF Bo9_12))), (gd, .inl (cJ, 14, .inr (.inl Gd9_12)))] H := hP
        have hD := hD.addr (ws' := [(cp, .inr (0, [.ref g, .ref k, .ref k2, .ref fl, .ref co, .ref sp])), (g, .inr (1, [.ref a1, .ref a2, .int (nI nd), .int (nI ar), .long pr])), (k, .inr (2, [.ref nr, .ref fr, .ref rs, .ref at_, .ref h, .int al, .long br])), (h, .inr (3, [.ref b1, .int (nI z)])), (b1, .inl (cJ, 41, .inr (.inl Se))), (at_, .inl (cJ, 14, .inr (.inl A))), (sp, .inr (6, [.ref gg, .ref pi, .ref bo, .int (nI pc9_12), .ref gd, .int (nI gc9_12), .long (Se i0)])), (gg, .inr (3, [.ref gs, .int zi9_12])), (gs, .inl (cJ, 41, .inr (.inl S9_12))), (pi, .inl (cJ, 1274, .inr (.inl Pi9_12))), (bo, .inl (cI, 92, .inl (nF Bo9_12))), (gd, .inl (cJ, 14, .inr (.inl Gd9_12)))]) rfl
        refine lv_iload_n hx hb d_CP_splits_70 rfl (lv_at hl 3 rfl) ?_
        refine lv_iconst (v := (nI 1)) hx hb d_CP_splits_71 (by decide) ?_
        refine x_cmp_ne (a := 2) (b := 1) (tgt := 83) hx hb (by omega) (by omega) d_CP_splits_72 (by decide) (fun c_13 => ?_) (fun c_13 => ?_)
        · skip
          refine lv_aload_n hx hb d_CP_splits_83 rfl (lv_at hl 1 rfl) ?_
          refine va_get (D := (dC, dI)) (ci := 0) (v := .ref sp) (C := R_CP) (T := F_CP) (N := 6) hx hb hts in_CP hown hK.1 hP 0 rfl rfl 5 (by decide) (hts _ wfl_CP_43) (fun _ h9 => h9) rfl d_CP_splits_84 ?_
          refine lv_iload_n hx hb d_CP_splits_87 rfl (lv_at hl 2 rfl) ?_
          refine vp_callSl (va_Run.run (k_V (n := 1) (C := R_SP) (rest := []) ⟨hx, hb, hml, hown, hts⟩ (c_SP_joinedWith l dC dI cI cJ cZ sp gg pi bo gd (nI pc9_12) gc9_12 (Se i0) Gd9_12 x (by first | assumption | omega) hu_12.2.1) wml_CP_184 wim_SP_joinedWith wsel_SP_joinedWith wini_SP wcode_SP_joinedWith (by decide +kernel) ⟨Nat.le_of_ble_eq_true rfl, Nat.le_of_ble_eq_true rfl⟩ (preV_R (q := (R_SP, F_SP, 7)) (ci := 6) (q0 := 0) (hP.sub (ws' := [(sp, .inr (6, [.ref gg, .ref pi, .ref bo, .int (nI pc9_12), .ref gd, .int (nI gc9_12), .long (Se i0)])), (gd, .inl (cJ, 14, .inr (.inl Gd9_12)))]) [6, 11] rfl) hK rfl rfl) rfl hl.1 rfl (Nat.le_of_ble_eq_true rfl) d_CP_splits_88 ⟨Nat.zero_le _, Nat.zero_le _⟩)) (fun r_14 hr_15 => ?_)
          refine lv_lstore (lv' := [(5, .long r_14), (3, .long (Se i0)), (0, .ref cp), (1, .int (nI x)), (2, .int (nI 2))]) hx hb d_CP_splits_91 hl (by decide) rfl (fun ls hl => ?_)
          refine lv_iload_n hx hb d_CP_splits_93 rfl (lv_at hl 4 rfl) ?_
          refine lv_iconst (v := (nI 2)) hx hb d_CP_splits_94 (by decide) ?_
          refine x_cmp_ne (a := 2) (b := 2) (tgt := 106) hx hb (by omega) (by omega) d_CP_splits_95 (by decide) (fun c_16 => ?_) (fun c_16 => ?_)
          · skip
            omega
          · skip
            refine lv_lload hx hb d_CP_splits_98 (lv_at hl 0 rfl) ?_
            refine vp_callSi (va_Run.run (k_S (n := 1) (rest := []) ⟨hx, hb, hml, hown, hts⟩ (c_JL_bitCount l dC dI cI cJ cZ r_14) wml_CP_76 wst_JL_bitCount wini_JL wcode_JL_bitCount (by decide +kernel) ⟨Nat.le_of_ble_eq_true rfl, Nat.le_of_ble_eq_true rfl⟩ (pre_R (hP.sub (ws' := []) [] rfl) hK) rfl hl.1 rfl (Nat.le_of_ble_eq_true rfl) d_CP_splits_100 ⟨Nat.zero_le _, Nat.zero_le _⟩)) (fun r_17 hr_18 => ?_)
            refine xe_i (y := (nI (cn (lb r_14) 64))) hr_18 ?_
            refine lv_goto (tgt := 111) hx hb d_CP_splits_103 (by decide) ?_
            exact W.iret (v := (nI (cn (lb r_14) 64))) hx hb hr (fun t9 ht9 _ => ⟨⟨_, (pc9_12, gc9_12, zi9_12, S9_12, Pi9_12, Bo9_12, Gd9_12), rfl, ⟨hu_12, _, hr_15, rfl⟩, by show va_P (dC, dI) cls _ t9.heap; rw [ht9]; exact hP⟩, hS.F ht9⟩) hS.2.2 d_CP_splits_111
        · skip
          omega
      · skip
        omega
    · skip
      omega

set_option maxHeartbeats 4000000 in
set_option maxRecDepth 100000 in
theorem c_CP_splits_l3 (l : Launch) (dC : Nat → ClassId) (dI : Nat → Nat → Nat) (cI cJ cZ : ClassId) (cp g k k2 fl co sp : Nat) (a1 a2 nd ar : Nat) (pr : Int64) (F G : Nat → Nat) (hGA : GAR F G nd ar pr) (nr fr rs at_ h : Nat) (al : Int32) (br : Int64) (N Fm : Nat → Int32) (A : Nat → Int64) (b1 z : Nat) (Se : Nat → Int64) (hSK : SKI (lb pr) F G nd N Fm A Se z al br) (x : Nat) (hxn : x < ar) (hxl : lb pr x = true) (i0 : Nat) (hi0 : i0 < z) (he : lb (Se i0) x = true) (h14 : 14 < cn (lb (Se i0)) 64) : Met l ⟨"CutPoints", "splits", "(II)I"⟩ (Cond.code ⟨"CutPoints", "splits", "(II)I"⟩ prog_1_method_19_code 7 (some .int) :: TT) (rmk 2 44) (PR dC dI cI cJ cZ [.ref cp, .int (nI x), .int (nI 3)] [(cp, .inr (0, [.ref g, .ref k, .ref k2, .ref fl, .ref co, .ref sp])), (g, .inr (1, [.ref a1, .ref a2, .int (nI nd), .int (nI ar), .long pr])), (k, .inr (2, [.ref nr, .ref fr, .ref rs, .ref at_, .ref h, .int al, .long br])), (h, .inr (3, [.ref b1, .int (nI z)])), (b1, .inl (cJ, 41, .inr (.inl Se)))]) (vp_Si (fun r => r = -4)) 0 0 (fun _ => False) := by
  refine Met.ofW (cc := prog_1_method_19_code) (maxL := 7) (ret := (some .int)) (by decide) rfl ?_
  intro p e s m args below meth c s₁ BB9 hml hv
  obtain ⟨rfl, hP, hK⟩ := hv
  have hx := BB9.exec
  have hb := BB9.bytes
  have hr := BB9.returns
  have hts : ∀ w ∈ TT, w.before _ s = true := fun w h => atoms_spec (ws := (Cond.code ⟨"CutPoints", "splits", "(II)I"⟩ prog_1_method_19_code 7 (some .int) :: TT)) BB9.pre w (List.mem_cons_of_mem _ h)
  have hown : s.vm.findClass "CutPoints" = some m.cls := findClass_of_methodNamed BB9.named
  have hlocks := BB9.notSynchronized
  have hnd14 := hGA.1
  have har40 := hGA.2.1
  have hl := lv_entry ([.ref cp, .int (nI x), .int (nI 3)]) (n := 7) (Nat.le_of_ble_eq_true rfl)
  rw [lg_entry_eq]
  generalize (lg_sl ([.ref cp, .int (nI x), .int (nI 3)]) ++ List.replicate (7 - (lg_sl ([.ref cp, .int (nI x), .int (nI 3)])).length) Slot.unset).toArray = ls at hl ⊢
  have hl : lv_has ls 7 [(0, .ref cp), (1, .int (nI x)), (2, .int (nI 3))] := hl
  refine lv_aload_n hx hb d_CP_splits_0 rfl (lv_at hl 0 rfl) ?_
  refine va_get (D := (dC, dI)) (ci := 0) (v := .ref g) (C := R_CP) (T := F_CP) (N := 6) hx hb hts in_CP hown hK.1 hP 0 rfl rfl 0 (by decide) (hts _ wfl_CP_12) (fun _ h9 => h9) rfl d_CP_splits_1 ?_
  refine lv_iload_n hx hb d_CP_splits_4 rfl (lv_at hl 1 rfl) ?_
  refine vp_callSi (va_Run.run (k_V (n := 1) (C := R_GR) (rest := []) ⟨hx, hb, hml, hown, hts⟩ (c_GR_isThere l dC dI cI cJ cZ g a1 a2 nd ar pr (nI x) (by first | assumption | omega)) wml_CP_73 wim_GR_isThere wsel_GR_isThere wini_GR wcode_GR_isThere (by decide +kernel) ⟨Nat.le_of_ble_eq_true rfl, Nat.le_of_ble_eq_true rfl⟩ (preV_R (q := (R_GR, F_GR, 5)) (ci := 1) (q0 := 0) (hP.sub (ws' := [(g, .inr (1, [.ref a1, .ref a2, .int (nI nd), .int (nI ar), .long pr]))]) [1] rfl) hK rfl rfl) rfl hl.1 rfl (Nat.le_of_ble_eq_true rfl) d_CP_splits_5 ⟨Nat.zero_le _, Nat.zero_le _⟩)) (fun r_1 hr_2 => ?_)
  refine xe_i (y := (bI (vd (nI x) ar && lb pr (nI x).toNatClampNeg))) hr_2 ?_
  refine xe_i (y := (bI true)) (by rw [th_tt (by omega) hxn hxl]) ?_
  refine lv_if_ne (tgt := 13) hx hb d_CP_splits_8 (by decide) (fun _ => ?_) (fun c9 => absurd c9 (by decide : ¬ ((bI true) : Int32) = 0))
  refine lv_iload_n hx hb d_CP_splits_13 rfl (lv_at hl 2 rfl) ?_
  refine lv_if_lt (tgt := 22) hx hb d_CP_splits_14 (by decide) (fun c_4 => ?_) (fun c_4 => ?_)
  · skip
    exact absurd c_4 (by decide)
  · skip
    refine lv_iload_n hx hb d_CP_splits_17 rfl (lv_at hl 2 rfl) ?_
    refine lv_iconst (v := (nI 3)) hx hb d_CP_splits_18 (by decide) ?_
    refine x_cmp_le (a := 3) (b := 3) (tgt := 25) hx hb (by omega) (by omega) d_CP_splits_19 (by decide) (fun c_5 => ?_) (fun c_5 => ?_)
    · skip
      refine lv_aload_n hx hb d_CP_splits_25 rfl (lv_at hl 0 rfl) ?_
      refine va_get (D := (dC, dI)) (ci := 0) (v := .ref k) (C := R_CP) (T := F_CP) (N := 6) hx hb hts in_CP hown hK.1 hP 0 rfl rfl 1 (by decide) (hts _ wfl_CP_19) (fun _ h9 => h9) rfl d_CP_splits_26 ?_
      refine va_get (D := (dC, dI)) (ci := 2) (v := .ref h) (C := R_SK) (T := F_SK) (N := 7) hx hb hts in_SK hown hK.1 hP 2 rfl rfl 4 (by decide) (hts _ wfl_CP_92) (fun _ h9 => h9) rfl d_CP_splits_29 ?_
      refine lv_iload_n hx hb d_CP_splits_32 rfl (lv_at hl 1 rfl) ?_
      refine vp_callSl (va_Run.run (k_V (n := 1) (C := R_GP) (rest := []) ⟨hx, hb, hml, hown, hts⟩ (c_GP_holding l dC dI cI cJ cZ h b1 z Se x (by first | assumption | omega) hSK.2.2.2.2.1.le) wml_CP_131 wim_GP_holding wsel_GP_holding wini_GP wcode_GP_holding (by decide +kernel) ⟨Nat.le_of_ble_eq_true rfl, Nat.le_of_ble_eq_true rfl⟩ (preV_R (q := (R_GP, F_GP, 2)) (ci := 3) (q0 := 0) (hP.sub (ws' := [(h, .inr (3, [.ref b1, .int (nI z)])), (b1, .inl (cJ, 41, .inr (.inl Se)))]) [3, 4] rfl) hK rfl rfl) rfl hl.1 rfl (Nat.le_of_ble_eq_true rfl) d_CP_splits_33 ⟨Nat.zero_le _, Nat.zero_le _⟩)) (fun r_6 hr_7 => ?_)
      refine xe_l (y := (Se i0)) (hold_eq hSK.2.2.2.2.1 hi0 he hr_7) ?_
      refine lv_lstore_n (lv' := [(3, .long (Se i0)), (0, .ref cp), (1, .int (nI x)), (2, .int (nI 3))]) hx hb d_CP_splits_36 rfl hl (by decide) rfl (fun ls hl => ?_)
      refine lv_iload_n hx hb d_CP_splits_37 rfl (lv_at hl 3 rfl) ?_
      refine lv_if_ne (tgt := 46) hx hb d_CP_splits_38 (by decide) (fun _ => ?_) (fun c9 => absurd c9 (by decide : ¬ ((nI 3) : Int32) = 0))
      refine lv_lload_n hx hb d_CP_splits_46 rfl (lv_at hl 0 rfl) ?_
      refine vp_callSi (va_Run.run (k_S (n := 1) (rest := []) ⟨hx, hb, hml, hown, hts⟩ (c_JL_bitCount l dC dI cI cJ cZ (Se i0)) wml_CP_76 wst_JL_bitCount wini_JL wcode_JL_bitCount (by decide +kernel) ⟨Nat.le_of_ble_eq_true rfl, Nat.le_of_ble_eq_true rfl⟩ (pre_R (hP.sub (ws' := []) [] rfl) hK) rfl hl.1 rfl (Nat.le_of_ble_eq_true rfl) d_CP_splits_47 ⟨Nat.zero_le _, Nat.zero_le _⟩)) (fun r_9 hr_10 => ?_)
      refine xe_i (y := (nI (cn (lb (Se i0)) 64))) hr_10 ?_
      refine lv_bipush (v := (nI 14)) hx hb d_CP_splits_50 (by decide) ?_
      refine x_cmp_le (a := (cn (lb (Se i0)) 64)) (b := 14) (tgt := 58) hx hb (Nat.lt_of_le_of_lt (cn_le _ _) (by decide)) (by omega) d_CP_splits_52 (by decide) (fun c_11 => ?_) (fun c_11 => ?_)
      · skip
        omega
      · skip
        refine lv_bipush (v := (-4)) hx hb d_CP_splits_55 (by decide) ?_
        exact W.iret (v := (-4)) hx hb hr (fun t9 ht9 _ => ⟨_, rfl, rfl, ht9⟩) t_nil d_CP_splits_57
    · skip
      omega

set_option maxHeartbeats 4000000 in
set_option maxRecDepth 100000 in
theorem c_CP_splits_3 (l : Launch) (dC : Nat → ClassId) (dI : Nat → Nat → Nat) (cI cJ cZ : ClassId) (cp g k k2 fl co sp : Nat) (a1 a2 nd ar : Nat) (pr : Int64) (F G : Nat → Nat) (hGA : GAR F G nd ar pr) (nr fr rs at_ h : Nat) (al : Int32) (br : Int64) (N Fm : Nat → Int32) (A : Nat → Int64) (b1 z : Nat) (Se : Nat → Int64) (hSK : SKI (lb pr) F G nd N Fm A Se z al br) (gg pi bo gd : Nat) (pci gci : Int32) (bl0 : Int64) (gs : Nat) (zi : Int32) (Sg Pi : Nat → Int64) (Bo : Nat → Nat) (Gd : Nat → Int64) (hB0 : Bo 0 = 0) (x : Nat) (hxn : x < ar) (hxl : lb pr x = true) (i0 : Nat) (hi0 : i0 < z) (he : lb (Se i0) x = true) (h14 : cn (lb (Se i0)) 64 ≤ 14) : Met l ⟨"CutPoints", "splits", "(II)I"⟩ (Cond.code ⟨"CutPoints", "splits", "(II)I"⟩ prog_1_method_19_code 7 (some .int) :: TT) (rmk 5 114) (PM dC dI cI cJ cZ [.ref cp, .int (nI x), .int (nI 3)] [(cp, .inr (0, [.ref g, .ref k, .ref k2, .ref fl, .ref co, .ref sp])), (g, .inr (1, [.ref a1, .ref a2, .int (nI nd), .int (nI ar), .long pr])), (k, .inr (2, [.ref nr, .ref fr, .ref rs, .ref at_, .ref h, .int al, .long br])), (h, .inr (3, [.ref b1, .int (nI z)])), (b1, .inl (cJ, 41, .inr (.inl Se))), (at_, .inl (cJ, 14, .inr (.inl A))), (sp, .inr (6, [.ref gg, .ref pi, .ref bo, .int pci, .ref gd, .int gci, .long bl0])), (gg, .inr (3, [.ref gs, .int zi])), (gs, .inl (cJ, 41, .inr (.inl Sg))), (pi, .inl (cJ, 1274, .inr (.inl Pi))), (bo, .inl (cI, 92, .inl (nF Bo))), (gd, .inl (cJ, 14, .inr (.inl Gd)))]) (va_Qi (S := Nat × Nat × Int32 × (Nat → Int64) × (Nat → Int64) × (Nat → Nat) × (Nat → Int64)) (fun r u9 => (PCE A (Se i0) u9.2.2.2.2.1 u9.2.2.2.2.2.1 u9.1 14 15 ∧ fgI u9.2.2.2.2.1 u9.2.2.2.2.2.1 u9.1 (Se i0) u9.2.2.2.2.2.2 u9.2.1 u9.1) ∧ ∃ w, jwI u9.2.2.2.2.2.2 (Se i0) x w u9.2.1 ∧ r = nI (lsn (lb w) 64)) (fun u9 t9 => va_P (dC, dI) cls ([(cp, .inr (0, [.ref g, .ref k, .ref k2, .ref fl, .ref co, .ref sp])), (g, .inr (1, [.ref a1, .ref a2, .int (nI nd), .int (nI ar), .long pr])), (k, .inr (2, [.ref nr, .ref fr, .ref rs, .ref at_, .ref h, .int al, .long br])), (h, .inr (3, [.ref b1, .int (nI z)])), (b1, .inl (cJ, 41, .inr (.inl Se))), (at_, .inl (cJ, 14, .inr (.inl A))), (sp, .inr (6, [.ref gg, .ref pi, .ref bo, .int (nI u9.1), .ref gd, .int (nI u9.2.1), .long (Se i0)])), (gg, .inr (3, [.ref gs, .int u9.2.2.1])), (gs, .inl (cJ, 41, .inr (.inl u9.2.2.2.1))), (pi, .inl (cJ, 1274, .inr (.inl u9.2.2.2.2.1))), (bo, .inl (cI, 92, .inl (nF u9.2.2.2.2.2.1))), (gd, .inl (cJ, 14, .inr (.inl u9.2.2.2.2.2.2)))]) t9.heap) (ow [(cp, .inr (0, [.ref g, .ref k, .ref k2, .ref fl, .ref co, .ref sp])), (g, .inr (1, [.ref a1, .ref a2, .int (nI nd), .int (nI ar), .long pr])), (k, .inr (2, [.ref nr, .ref fr, .ref rs, .ref at_, .ref h, .int al, .long br])), (h, .inr (3, [.ref b1, .int (nI z)])), (b1, .inl (cJ, 41, .inr (.inl Se))), (at_, .inl (cJ, 14, .inr (.inl A))), (sp, .inr (6, [.ref gg, .ref pi, .ref bo, .int pci, .ref gd, .int gci, .long bl0])), (gg, .inr (3, [.ref gs, .int zi])), (gs, .inl (cJ, 41, .inr (.inl Sg))), (pi, .inl (cJ, 1274, .inr (.inl Pi))), (bo, .inl (cI, 92, .inl (nF Bo))), (gd, .inl (cJ, 14, .inr (.inl Gd)))])) 0 0 (ow [(cp, .inr (0, [.ref g, .ref k, .ref k2, .ref fl, .ref co, .ref sp])), (g, .inr (1, [.ref a1, .ref a2, .int (nI nd), .int (nI ar), .long pr])), (k, .inr (2, [.ref nr, .ref fr, .ref rs, .ref at_, .ref h, .int al, .long br])), (h, .inr (3, [.ref b1, .int (nI z)])), (b1, .inl (cJ, 41, .inr (.inl Se))), (at_, .inl (cJ, 14, .inr (.inl A))), (sp, .inr (6, [.ref gg, .ref pi, .ref bo, .int pci, .ref gd, .int gci, .long bl0])), (gg, .inr (3, [.ref gs, .int zi])), (gs, .inl (cJ, 41, .inr (.inl Sg))), (pi, .inl (cJ, 1274, .inr (.inl Pi))), (bo, .inl (cI, 92, .inl (nF Bo))), (gd, .inl (cJ, 14, .inr (.inl Gd)))]) := by
  refine Met.ofW (cc := prog_1_method_19_code) (maxL := 7) (ret := (some .int)) (by decide) rfl ?_
  intro p e s m args below meth c s₁ BB9 hml hv
  obtain ⟨rfl, hP, hK, hD0⟩ := hv
  have hx := BB9.exec
  have hb := BB9.bytes
  have hr := BB9.returns
  have hts : ∀ w ∈ TT, w.before _ s = true := fun w h => atoms_spec (ws := (Cond.code ⟨"CutPoints", "splits", "(II)I"⟩ prog_1_method_19_code 7 (some .int) :: TT)) BB9.pre w (List.mem_cons_of_mem _ h)
  have hown : s.vm.findClass "CutPoints" = some m.cls := findClass_of_methodNamed BB9.named
  have hlocks := BB9.notSynchronized
  have hD := hD0.mine
  have hS : va_S (ow [(cp, .inr (0, [.ref g, .ref k, .ref k2, .ref fl, .ref co, .ref sp])), (g, .inr (1, [.ref a1, .ref a2, .int (nI nd), .int (nI ar), .long pr])), (k, .inr (2, [.ref nr, .ref fr, .ref rs, .ref at_, .ref h, .int al, .long br])), (h, .inr (3, [.ref b1, .int (nI z)])), (b1, .inl (cJ, 41, .inr (.inl Se))), (at_, .inl (cJ, 14, .inr (.inl A))), (sp, .inr (6, [.ref gg, .ref pi, .ref bo, .int pci, .ref gd, .int gci, .long bl0])), (gg, .inr (3, [.ref gs, .int zi])), (gs, .inl (cJ, 41, .inr (.inl Sg))), (pi, .inl (cJ, 1274, .inr (.inl Pi))), (bo, .inl (cI, 92, .inl (nF Bo))), (gd, .inl (cJ, 14, .inr (.inl Gd)))]) s.heap s.heap [] := va_S.rf
  have hnd14 := hGA.1
  have har40 := hGA.2.1
  have hl := lv_entry ([.ref cp, .int (nI x), .int (nI 3)]) (n := 7) (Nat.le_of_ble_eq_true rfl)
  rw [lg_entry_eq]
  generalize (lg_sl ([.ref cp, .int (nI x), .int (nI 3)]) ++ List.replicate (7 - (lg_sl ([.ref cp, .int (nI x), .int (nI 3)])).length) Slot.unset).toArray = ls at hl ⊢
  have hl : lv_has ls 7 [(0, .ref cp), (1, .int (nI x)), (2, .int (nI 3))] := hl
  refine lv_aload_n hx hb d_CP_splits_0 rfl (lv_at hl 0 rfl) ?_
  refine va_get (D := (dC, dI)) (ci := 0) (v := .ref g) (C := R_CP) (T := F_CP) (N := 6) hx hb hts in_CP hown hK.1 hP 0 rfl rfl 0 (by decide) (hts _ wfl_CP_12) (fun _ h9 => h9) rfl d_CP_splits_1 ?_
  refine lv_iload_n hx hb d_CP_splits_4 rfl (lv_at hl 1 rfl) ?_
  refine vp_callSi (va_Run.run (k_V (n := 1) (C := R_GR) (rest := []) ⟨hx, hb, hml, hown, hts⟩ (c_GR_isThere l dC dI cI cJ cZ g a1 a2 nd ar pr (nI x) (by first | assumption | omega)) wml_CP_73 wim_GR_isThere wsel_GR_isThere wini_GR wcode_GR_isThere (by decide +kernel) ⟨Nat.le_of_ble_eq_true rfl, Nat.le_of_ble_eq_true rfl⟩ (preV_R (q := (R_GR, F_GR, 5)) (ci := 1) (q0 := 0) (hP.sub (ws' := [(g, .inr (1, [.ref a1, .ref a2, .int (nI nd), .int (nI ar), .long pr]))]) [1] rfl) hK rfl rfl) rfl hl.1 rfl (Nat.le_of_ble_eq_true rfl) d_CP_splits_5 ⟨Nat.zero_le _, Nat.zero_le _⟩)) (fun r_1 hr_2 => ?_)
  refine xe_i (y := (bI (vd (nI x) ar && lb pr (nI x).toNatClampNeg))) hr_2 ?_
  refine xe_i (y := (bI true)) (by rw [th_tt (by omega) hxn hxl]) ?_
  refine lv_if_ne (tgt := 13) hx hb d_CP_splits_8 (by decide) (fun _ => ?_) (fun c9 => absurd c9 (by decide : ¬ ((bI true) : Int32) = 0))
  refine lv_iload_n hx hb d_CP_splits_13 rfl (lv_at hl 2 rfl) ?_
  refine lv_if_lt (tgt := 22) hx hb d_CP_splits_14 (by decide) (fun c_4 => ?_) (fun c_4 => ?_)
  · skip
    exact absurd c_4 (by decide)
  · skip
    refine lv_iload_n hx hb d_CP_splits_17 rfl (lv_at hl 2 rfl) ?_
    refine lv_iconst (v := (nI 3)) hx hb d_CP_splits_18 (by decide) ?_
    refine x_cmp_le (a := 3) (b := 3) (tgt := 25) hx hb (by omega) (by omega) d_CP_splits_19 (by decide) (fun c_5 => ?_) (fun c_5 => ?_)
    · skip
      refine lv_aload_n hx hb d_CP_splits_25 rfl (lv_at hl 0 rfl) ?_
      refine va_get (D := (dC, dI)) (ci := 0) (v := .ref k) (C := R_CP) (T := F_CP) (N := 6) hx hb hts in_CP hown hK.1 hP 0 rfl rfl 1 (by decide) (hts _ wfl_CP_19) (fun _ h9 => h9) rfl d_CP_splits_26 ?_
      refine va_get (D := (dC, dI)) (ci := 2) (v := .ref h) (C := R_SK) (T := F_SK) (N := 7) hx hb hts in_SK hown hK.1 hP 2 rfl rfl 4 (by decide) (hts _ wfl_CP_92) (fun _ h9 => h9) rfl d_CP_splits_29 ?_
      refine lv_iload_n hx hb d_CP_splits_32 rfl (lv_at hl 1 rfl) ?_
      refine vp_callSl (va_Run.run (k_V (n := 1) (C := R_GP) (rest := []) ⟨hx, hb, hml, hown, hts⟩ (c_GP_holding l dC dI cI cJ cZ h b1 z Se x (by first | assumption | omega) hSK.2.2.2.2.1.le) wml_CP_131 wim_GP_holding wsel_GP_holding wini_GP wcode_GP_holding (by decide +kernel) ⟨Nat.le_of_ble_eq_true rfl, Nat.le_of_ble_eq_true rfl⟩ (preV_R (q := (R_GP, F_GP, 2)) (ci := 3) (q0 := 0) (hP.sub (ws' := [(h, .inr (3, [.ref b1, .int (nI z)])), (b1, .inl (cJ, 41, .inr (.inl Se)))]) [3, 4] rfl) hK rfl rfl) rfl hl.1 rfl (Nat.le_of_ble_eq_true rfl) d_CP_splits_33 ⟨Nat.zero_le _, Nat.zero_le _⟩)) (fun r_6 hr_7 => ?_)
      refine xe_l (y := (Se i0)) (hold_eq hSK.2.2.2.2.1 hi0 he hr_7) ?_
      refine lv_lstore_n (lv' := [(3, .long (Se i0)), (0, .ref cp), (1, .int (nI x)), (2, .int (nI 3))]) hx hb d_CP_splits_36 rfl hl (by decide) rfl (fun ls hl => ?_)
      refine lv_iload_n hx hb d_CP_splits_37 rfl (lv_at hl 3 rfl) ?_
      refine lv_if_ne (tgt := 46) hx hb d_CP_splits_38 (by decide) (fun _ => ?_) (fun c9 => absurd c9 (by decide : ¬ ((nI 3) : Int32) = 0))
      refine lv_lload_n hx hb d_CP_splits_46 rfl (lv_at hl 0 rfl) ?_
      refine vp_callSi (va_Run.run (k_S (n := 1) (rest := []) ⟨hx, hb, hml, hown, hts⟩ (c_JL_bitCount l dC dI cI cJ cZ (Se i0)) wml_CP_76 wst_JL_bitCount wini_JL wcode_JL_bitCount (by decide +kernel) ⟨Nat.le_of_ble_eq_true rfl, Nat.le_of_ble_eq_true rfl⟩ (pre_R (hP.sub (ws' := []) [] rfl) hK) rfl hl.1 rfl (Nat.le_of_ble_eq_true rfl) d_CP_splits_47 ⟨Nat.zero_le _, Nat.zero_le _⟩)) (fun r_9 hr_10 => ?_)
      refine xe_i (y := (nI (cn (lb (Se i0)) 64))) hr_10 ?_
      refine lv_bipush (v := (nI 14)) hx hb d_CP_splits_50 (by decide) ?_
      refine x_cmp_le (a := (cn (lb (Se i0)) 64)) (b := 14) (tgt := 58) hx hb (Nat.lt_of_le_of_lt (cn_le _ _) (by decide)) (by omega) d_CP_splits_52 (by decide) (fun c_11 => ?_) (fun c_11 => ?_)
      · skip
        refine lv_aload_n hx hb d_CP_splits_58 rfl (lv_at hl 1 rfl) ?_
        refine va_get (D := (dC, dI)) (ci := 0) (v := .ref sp) (C := R_CP) (T := F_CP) (N := 6) hx hb hts in_CP hown hK.1 hP 0 rfl rfl 5 (by decide) (hts _ wfl_CP_43) (fun _ h9 => h9) rfl d_CP_splits_59 ?_
        refine lv_aload_n hx hb d_CP_splits_62 rfl (lv_at hl 1 rfl) ?_
        refine va_get (D := (dC, dI)) (ci := 0) (v := .ref k) (C := R_CP) (T := F_CP) (N := 6) hx hb hts in_CP hown hK.1 hP 0 rfl rfl 1 (by decide) (hts _ wfl_CP_19) (fun _ h9 => h9) rfl d_CP_splits_63 ?_
        refine lv_lload_n hx hb d_CP_splits_66 rfl (lv_at hl 0 rfl) ?_
        refine x_cv (k_V (n := 2) (C := R_SP) (rest := []) ⟨hx, hb, hml, hown, hts⟩ (c_SP_findGood l dC dI cI cJ cZ sp gg pi bo gd pci gci bl0 gs zi Sg Pi Bo Gd k nr fr rs at_ h al br A (Se i0) hB0 h14 (fun e q9 => (hSK.2.2.2.2.1.2.1 i0 e hi0 q9).1)) wml_CP_180 wim_SP_findGood wsel_SP_findGood wini_SP wcode_SP_findGood (by decide +kernel) ⟨Nat.le_of_ble_eq_true rfl, Nat.le_of_ble_eq_true rfl⟩ (preV_M (q := (R_SP, F_SP, 7)) (ci := 6) (q0 := 0) (hP.sub (ws' := [(sp, .inr (6, [.ref gg, .ref pi, .ref bo, .int pci, .ref gd, .int gci, .long bl0])), (gg, .inr (3, [.ref gs, .int zi])), (gs, .inl (cJ, 41, .inr (.inl Sg))), (pi, .inl (cJ, 1274, .inr (.inl Pi))), (bo, .inl (cI, 92, .inl (nF Bo))), (gd, .inl (cJ, 14, .inr (.inl Gd))), (k, .inr (2, [.ref nr, .ref fr, .ref rs, .ref at_, .ref h, .int al, .long br])), (at_, .inl (cJ, 14, .inr (.inl A)))]) [6, 7, 8, 9, 10, 11, 2, 5] rfl) hK (hD.sub (ws' := [(sp, .inr (6, [.ref gg, .ref pi, .ref bo, .int pci, .ref gd, .int gci, .long bl0])), (gg, .inr (3, [.ref gs, .int zi])), (gs, .inl (cJ, 41, .inr (.inl Sg))), (pi, .inl (cJ, 1274, .inr (.inl Pi))), (bo, .inl (cI, 92, .inl (nF Bo))), (gd, .inl (cJ, 14, .inr (.inl Gd))), (k, .inr (2, [.ref nr, .ref fr, .ref rs, .ref at_, .ref h, .int al, .long br])), (at_, .inl (cJ, 14, .inr (.inl A)))]) [6, 7, 8, 9, 10, 11, 2, 5] (by decide) rfl) rfl rfl) rfl hl.1 rfl (Nat.le_of_ble_eq_true rfl) d_CP_splits_67 ⟨Nat.zero_le _, Nat.zero_le _⟩) hP hD hS [6, 7, 8, 9, 10, 11, 2, 5] rfl (fun _ => rfl) (fun u_12 H locs hu_12 hP hS => ?_)
        obtain ⟨pc9_12, gc9_12, zi9_12, S9_12, Pi9_12, Bo9_12, Gd9_12⟩ := u_12
        have hP : va_P (dC, dI) cls [(cp, .inr (0, [.ref g, .ref k, .ref k2, .ref fl, .ref co, .ref sp])), (g, .inr (1, [.ref a1, .ref a2, .int (nI nd), .int (nI ar), .long pr])), (k, .inr (2, [.ref nr, .ref fr, .ref rs, .ref at_, .ref h, .int al, .long br])), (h, .inr (3, [.ref b1, .int (nI z)])), (b1, .inl (cJ, 41, .inr (.inl Se))), (at_, .inl (cJ, 14, .inr (.inl A))), (sp, .inr (6, [.ref gg, .ref pi, .ref bo, .int (nI pc9_12), .ref gd, .int (nI gc9_12), .long (Se i0)])), (gg, .inr (3, [.ref gs, .int zi9_12])), (gs, .inl (cJ, 41, .inr (.inl S9_12))), (pi, .inl (cJ, 1274, .inr (.inl Pi9_12))), (bo, .inl (cI, 92, .inl (nF Bo9_12))), (gd, .inl (cJ, 14, .inr (.inl Gd9_12)))] H := hP
        have hD := hD.addr (ws' := [(cp, .inr (0, [.ref g, .ref k, .ref k2, .ref fl, .ref co, .ref sp])), (g, .inr (1, [.ref a1, .ref a2, .int (nI nd), .int (nI ar), .long pr])), (k, .inr (2, [.ref nr, .ref fr, .ref rs, .ref at_, .ref h, .int al, .long br])), (h, .inr (3, [.ref b1, .int (nI z)])), (b1, .inl (cJ, 41, .inr (.inl Se))), (at_, .inl (cJ, 14, .inr (.inl A))), (sp, .inr (6, [.ref gg, .ref pi, .ref bo, .int (nI pc9_12), .ref gd, .int (nI gc9_12), .long (Se i0)])), (gg, .inr (3, [.ref gs, .int zi9_12])), (gs, .inl (cJ, 41, .inr (.inl S9_12))), (pi, .inl (cJ, 1274, .inr (.inl Pi9_12))), (bo, .inl (cI, 92, .inl (nF Bo9_12))), (gd, .inl (cJ, 14, .inr (.inl Gd9_12)))]) rfl
        refine lv_iload_n hx hb d_CP_splits_70 rfl (lv_at hl 3 rfl) ?_
        refine lv_iconst (v := (nI 1)) hx hb d_CP_splits_71 (by decide) ?_
        refine x_cmp_ne (a := 3) (b := 1) (tgt := 83) hx hb (by omega) (by omega) d_CP_splits_72 (by decide) (fun c_13 => ?_) (fun c_13 => ?_)
        · skip
          refine lv_aload_n hx hb d_CP_splits_83 rfl (lv_at hl 1 rfl) ?_
          refine va_get (D := (dC, dI)) (ci := 0) (v := .ref sp) (C := R_CP) (T := F_CP) (N := 6) hx hb hts in_CP hown hK.1 hP 0 rfl rfl 5 (by decide) (hts _ wfl_CP_43) (fun _ h9 => h9) rfl d_CP_splits_84 ?_
          refine lv_iload_n hx hb d_CP_splits_87 rfl (lv_at hl 2 rfl) ?_
          refine vp_callSl (va_Run.run (k_V (n := 1) (C := R_SP) (rest := []) ⟨hx, hb, hml, hown, hts⟩ (c_SP_joinedWith l dC dI cI cJ cZ sp gg pi bo gd (nI pc9_12) gc9_12 (Se i0) Gd9_12 x (by first | assumption | omega) hu_12.2.1) wml_CP_184 wim_SP_joinedWith wsel_SP_joinedWith wini_SP wcode_SP_joinedWith (by decide +kernel) ⟨Nat.le_of_ble_eq_true rfl, Nat.le_of_ble_eq_true rfl⟩ (preV_R (q := (R_SP, F_SP, 7)) (ci := 6) (q0 := 0) (hP.sub (ws' := [(sp, .inr (6, [.ref gg, .ref pi, .ref bo, .int (nI pc9_12), .ref gd, .int (nI gc9_12), .long (Se i0)])), (gd, .inl (cJ, 14, .inr (.inl Gd9_12)))]) [6, 11] rfl) hK rfl rfl) rfl hl.1 rfl (Nat.le_of_ble_eq_true rfl) d_CP_splits_88 ⟨Nat.zero_le _, Nat.zero_le _⟩)) (fun r_14 hr_15 => ?_)
          refine lv_lstore (lv' := [(5, .long r_14), (3, .long (Se i0)), (0, .ref cp), (1, .int (nI x)), (2, .int (nI 3))]) hx hb d_CP_splits_91 hl (by decide) rfl (fun ls hl => ?_)
          refine lv_iload_n hx hb d_CP_splits_93 rfl (lv_at hl 4 rfl) ?_
          refine lv_iconst (v := (nI 2)) hx hb d_CP_splits_94 (by decide) ?_
          refine x_cmp_ne (a := 3) (b := 2) (tgt := 106) hx hb (by omega) (by omega) d_CP_splits_95 (by decide) (fun c_16 => ?_) (fun c_16 => ?_)
          · skip
            refine lv_lload hx hb d_CP_splits_106 (lv_at hl 0 rfl) ?_
            refine vp_callSi (va_Run.run (k_S (n := 1) (rest := []) ⟨hx, hb, hml, hown, hts⟩ (c_JL_numberOfTrailingZeros l dC dI cI cJ cZ r_14) wml_CP_135 wst_JL_numberOfTrailingZeros wini_JL wcode_JL_numberOfTrailingZeros (by decide +kernel) ⟨Nat.le_of_ble_eq_true rfl, Nat.le_of_ble_eq_true rfl⟩ (pre_R (hP.sub (ws' := []) [] rfl) hK) rfl hl.1 rfl (Nat.le_of_ble_eq_true rfl) d_CP_splits_108 ⟨Nat.zero_le _, Nat.zero_le _⟩)) (fun r_17 hr_18 => ?_)
            refine xe_i (y := (nI (lsn (lb r_14) 64))) hr_18 ?_
            exact W.iret (v := (nI (lsn (lb r_14) 64))) hx hb hr (fun t9 ht9 _ => ⟨⟨_, (pc9_12, gc9_12, zi9_12, S9_12, Pi9_12, Bo9_12, Gd9_12), rfl, ⟨hu_12, _, hr_15, rfl⟩, by show va_P (dC, dI) cls _ t9.heap; rw [ht9]; exact hP⟩, hS.F ht9⟩) hS.2.2 d_CP_splits_111
          · skip
            omega
        · skip
          omega
      · skip
        omega
    · skip
      omega
