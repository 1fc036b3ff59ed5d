set_option maxHeartbeats 4000000 in
set_option maxRecDepth 100000 in
theorem c_CP_part_k (l : Launch) (dC : Nat → ClassId) (dI : Nat → Nat → Nat) (cI cJ cZ : ClassId) (cp g k k2 fl co sp : Nat) (a1 a2 nd ar : Nat) (pr : Int64) (F G : Nat → Nat) (hGA : GAR F G nd ar pr) (nr fr rs at_ h : Nat) (al : Int32) (br : Int64) (N Fm : Nat → Int32) (A : Nat → Int64) (b1 z : Nat) (Se : Nat → Int64) (hSK : SKI (lb pr) F G nd N Fm A Se z al br) (x : Nat) (hxn : x < nd) : Met l ⟨"CutPoints", "part", "(I)I"⟩ (Cond.code ⟨"CutPoints", "part", "(I)I"⟩ prog_1_method_7_code 2 (some .int) :: TT) (rmk 3 69) (PR dC dI cI cJ cZ [.ref cp, .int (nI x)] [(cp, .inr (0, [.ref g, .ref k, .ref k2, .ref fl, .ref co, .ref sp])), (g, .inr (1, [.ref a1, .ref a2, .int (nI nd), .int (nI ar), .long pr])), (k, .inr (2, [.ref nr, .ref fr, .ref rs, .ref at_, .ref h, .int al, .long br])), (nr, .inl (cI, 14, .inl N))]) (vp_Si (fun r => ∃ v, r = nI v ∧ ∃ pt, SpR N x al pt ∧ v = lsn (bt pt) 32)) 0 0 (fun _ => False) := by
  refine Met.ofW (cc := prog_1_method_7_code) (maxL := 2) (ret := (some .int)) (by decide) rfl ?_
  intro p e s m args below meth c s₁ BB9 hml hv
  obtain ⟨rfl, hP, hK⟩ := hv
  have hx := BB9.exec
  have hb := BB9.bytes
  have hr := BB9.returns
  have hts : ∀ w ∈ TT, w.before _ s = true := fun w h => atoms_spec (ws := (Cond.code ⟨"CutPoints", "part", "(I)I"⟩ prog_1_method_7_code 2 (some .int) :: TT)) BB9.pre w (List.mem_cons_of_mem _ h)
  have hown : s.vm.findClass "CutPoints" = some m.cls := findClass_of_methodNamed BB9.named
  have hlocks := BB9.notSynchronized
  have hnd14 := hGA.1
  have har40 := hGA.2.1
  have hl := lv_entry ([.ref cp, .int (nI x)]) (n := 2) (Nat.le_of_ble_eq_true rfl)
  rw [lg_entry_eq]
  generalize (lg_sl ([.ref cp, .int (nI x)]) ++ List.replicate (2 - (lg_sl ([.ref cp, .int (nI x)])).length) Slot.unset).toArray = ls at hl ⊢
  have hl : lv_has ls 2 [(0, .ref cp), (1, .int (nI x))] := hl
  refine lv_aload_n hx hb d_CP_part_0 rfl (lv_at hl 0 rfl) ?_
  refine va_get (D := (dC, dI)) (ci := 0) (v := .ref g) (C := R_CP) (T := F_CP) (N := 6) hx hb hts in_CP hown hK.1 hP 0 rfl rfl 0 (by decide) (hts _ wfl_CP_12) (fun _ h9 => h9) rfl d_CP_part_1 ?_
  refine lv_iload_n hx hb d_CP_part_4 rfl (lv_at hl 1 rfl) ?_
  refine vp_callSi (va_Run.run (k_V (n := 1) (C := R_GR) (rest := []) ⟨hx, hb, hml, hown, hts⟩ (c_GR_hasNode l dC dI cI cJ cZ g a1 a2 nd ar pr (nI x) (by first | assumption | omega)) wml_CP_115 wim_GR_hasNode wsel_GR_hasNode wini_GR wcode_GR_hasNode (by decide +kernel) ⟨Nat.le_of_ble_eq_true rfl, Nat.le_of_ble_eq_true rfl⟩ (preV_R (q := (R_GR, F_GR, 5)) (ci := 1) (q0 := 0) (hP.sub (ws' := [(g, .inr (1, [.ref a1, .ref a2, .int (nI nd), .int (nI ar), .long pr]))]) [1] rfl) hK rfl rfl) rfl hl.1 rfl (Nat.le_of_ble_eq_true rfl) d_CP_part_5 ⟨Nat.zero_le _, Nat.zero_le _⟩)) (fun r_1 hr_2 => ?_)
  refine xe_i (y := (bI (vd (nI x) nd))) hr_2 ?_
  refine xe_i (y := (bI true)) (by rw [vd_tt (by omega) hxn]) ?_
  refine lv_if_ne (tgt := 13) hx hb d_CP_part_8 (by decide) (fun _ => ?_) (fun c9 => absurd c9 (by decide : ¬ ((bI true) : Int32) = 0))
  refine lv_aload_n hx hb d_CP_part_13 rfl (lv_at hl 0 rfl) ?_
  refine va_get (D := (dC, dI)) (ci := 0) (v := .ref k) (C := R_CP) (T := F_CP) (N := 6) hx hb hts in_CP hown hK.1 hP 0 rfl rfl 1 (by decide) (hts _ wfl_CP_19) (fun _ h9 => h9) rfl d_CP_part_14 ?_
  refine lv_iload_n hx hb d_CP_part_17 rfl (lv_at hl 1 rfl) ?_
  refine vp_callSi (va_Run.run (k_V (n := 1) (C := R_SK) (rest := []) ⟨hx, hb, hml, hown, hts⟩ (c_SK_partOf l dC dI cI cJ cZ k nr fr rs at_ h al br N (hSK.rw N) x (by first | assumption | omega)) wml_CP_118 wim_SK_partOf wsel_SK_partOf wini_SK wcode_SK_partOf (by decide +kernel) ⟨Nat.le_of_ble_eq_true rfl, Nat.le_of_ble_eq_true rfl⟩ (preV_R (q := (R_SK, F_SK, 7)) (ci := 2) (q0 := 0) (hP.sub (ws' := [(k, .inr (2, [.ref nr, .ref fr, .ref rs, .ref at_, .ref h, .int al, .long br])), (nr, .inl (cI, 14, .inl N))]) [2, 3] rfl) hK rfl rfl) rfl hl.1 rfl (Nat.le_of_ble_eq_true rfl) d_CP_part_18 ⟨Nat.zero_le _, Nat.zero_le _⟩)) (fun r_4 hr_5 => ?_)
  refine vp_callSi (va_Run.run (k_S (n := 1) (rest := []) ⟨hx, hb, hml, hown, hts⟩ (c_JI_numberOfTrailingZeros l dC dI cI cJ cZ r_4 (lsn (bt r_4) 32) rfl) wml_CP_121 wst_JI_numberOfTrailingZeros wini_JI wcode_JI_numberOfTrailingZeros (by decide +kernel) ⟨Nat.le_of_ble_eq_true rfl, Nat.le_of_ble_eq_true rfl⟩ (pre_R (hP.sub (ws' := []) [] rfl) hK) rfl hl.1 rfl (Nat.le_of_ble_eq_true rfl) d_CP_part_21 ⟨Nat.zero_le _, Nat.zero_le _⟩)) (fun r_6 hr_7 => ?_)
  refine xe_i (y := (nI (lsn (bt r_4) 32))) hr_7 ?_
  exact W.iret (v := (nI (lsn (bt r_4) 32))) hx hb hr (fun t9 ht9 _ => ⟨_, rfl, ⟨_, rfl, _, hr_5, rfl⟩, ht9⟩) t_nil d_CP_part_24

set_option maxHeartbeats 4000000 in
set_option maxRecDepth 100000 in
theorem c_CP_twin_k (l : Launch) (dC : Nat → ClassId) (dI : Nat → Nat → Nat) (cI cJ cZ : ClassId) (cp g k k2 fl co sp : Nat) (a1 a2 nd ar : Nat) (pr : Int64) (F G : Nat → Nat) (hGA : GAR F G nd ar pr) (nr fr rs at_ h : Nat) (al : Int32) (br : Int64) (N Fm : Nat → Int32) (A : Nat → Int64) (b1 z : Nat) (Se : Nat → Int64) (hSK : SKI (lb pr) F G nd N Fm A Se z al br) (x : Nat) (hxn : x < nd) : Met l ⟨"CutPoints", "twin", "(I)I"⟩ (Cond.code ⟨"CutPoints", "twin", "(I)I"⟩ prog_1_method_11_code 2 (some .int) :: TT) (rmk 3 69) (PR dC dI cI cJ cZ [.ref cp, .int (nI x)] [(cp, .inr (0, [.ref g, .ref k, .ref k2, .ref fl, .ref co, .ref sp])), (g, .inr (1, [.ref a1, .ref a2, .int (nI nd), .int (nI ar), .long pr])), (k, .inr (2, [.ref nr, .ref fr, .ref rs, .ref at_, .ref h, .int al, .long br])), (fr, .inl (cI, 14, .inl Fm))]) (vp_Si (fun r => ∃ v, r = nI v ∧ ∃ pt, SpR Fm x al pt ∧ v = lsn (bt pt) 32)) 0 0 (fun _ => False) := by
  refine Met.ofW (cc := prog_1_method_11_code) (maxL := 2) (ret := (some .int)) (by decide) rfl ?_
  intro p e s m args below meth c s₁ BB9 hml hv
  obtain ⟨rfl, hP, hK⟩ := hv
  have hx := BB9.exec
  have hb := BB9.bytes
  have hr := BB9.returns
  have hts : ∀ w ∈ TT, w.before _ s = true := fun w h => atoms_spec (ws := (Cond.code ⟨"CutPoints", "twin", "(I)I"⟩ prog_1_method_11_code 2 (some .int) :: TT)) BB9.pre w (List.mem_cons_of_mem _ h)
  have hown : s.vm.findClass "CutPoints" = some m.cls := findClass_of_methodNamed BB9.named
  have hlocks := BB9.notSynchronized
  have hnd14 := hGA.1
  have har40 := hGA.2.1
  have hl := lv_entry ([.ref cp, .int (nI x)]) (n := 2) (Nat.le_of_ble_eq_true rfl)
  rw [lg_entry_eq]
  generalize (lg_sl ([.ref cp, .int (nI x)]) ++ List.replicate (2 - (lg_sl ([.ref cp, .int (nI x)])).length) Slot.unset).toArray = ls at hl ⊢
  have hl : lv_has ls 2 [(0, .ref cp), (1, .int (nI x))] := hl
  refine lv_aload_n hx hb d_CP_twin_0 rfl (lv_at hl 0 rfl) ?_
  refine va_get (D := (dC, dI)) (ci := 0) (v := .ref g) (C := R_CP) (T := F_CP) (N := 6) hx hb hts in_CP hown hK.1 hP 0 rfl rfl 0 (by decide) (hts _ wfl_CP_12) (fun _ h9 => h9) rfl d_CP_twin_1 ?_
  refine lv_iload_n hx hb d_CP_twin_4 rfl (lv_at hl 1 rfl) ?_
  refine vp_callSi (va_Run.run (k_V (n := 1) (C := R_GR) (rest := []) ⟨hx, hb, hml, hown, hts⟩ (c_GR_hasNode l dC dI cI cJ cZ g a1 a2 nd ar pr (nI x) (by first | assumption | omega)) wml_CP_115 wim_GR_hasNode wsel_GR_hasNode wini_GR wcode_GR_hasNode (by decide +kernel) ⟨Nat.le_of_ble_eq_true rfl, Nat.le_of_ble_eq_true rfl⟩ (preV_R (q := (R_GR, F_GR, 5)) (ci := 1) (q0 := 0) (hP.sub (ws' := [(g, .inr (1, [.ref a1, .ref a2, .int (nI nd), .int (nI ar), .long pr]))]) [1] rfl) hK rfl rfl) rfl hl.1 rfl (Nat.le_of_ble_eq_true rfl) d_CP_twin_5 ⟨Nat.zero_le _, Nat.zero_le _⟩)) (fun r_1 hr_2 => ?_)
  refine xe_i (y := (bI (vd (nI x) nd))) hr_2 ?_
  refine xe_i (y := (bI true)) (by rw [vd_tt (by omega) hxn]) ?_
  refine lv_if_ne (tgt := 13) hx hb d_CP_twin_8 (by decide) (fun _ => ?_) (fun c9 => absurd c9 (by decide : ¬ ((bI true) : Int32) = 0))
  refine lv_aload_n hx hb d_CP_twin_13 rfl (lv_at hl 0 rfl) ?_
  refine va_get (D := (dC, dI)) (ci := 0) (v := .ref k) (C := R_CP) (T := F_CP) (N := 6) hx hb hts in_CP hown hK.1 hP 0 rfl rfl 1 (by decide) (hts _ wfl_CP_19) (fun _ h9 => h9) rfl d_CP_twin_14 ?_
  refine lv_iload_n hx hb d_CP_twin_17 rfl (lv_at hl 1 rfl) ?_
  refine vp_callSi (va_Run.run (k_V (n := 1) (C := R_SK) (rest := []) ⟨hx, hb, hml, hown, hts⟩ (c_SK_twinsOf l dC dI cI cJ cZ k nr fr rs at_ h al br Fm (hSK.rw Fm) x (by first | assumption | omega)) wml_CP_137 wim_SK_twinsOf wsel_SK_twinsOf wini_SK wcode_SK_twinsOf (by decide +kernel) ⟨Nat.le_of_ble_eq_true rfl, Nat.le_of_ble_eq_true rfl⟩ (preV_R (q := (R_SK, F_SK, 7)) (ci := 2) (q0 := 0) (hP.sub (ws' := [(k, .inr (2, [.ref nr, .ref fr, .ref rs, .ref at_, .ref h, .int al, .long br])), (fr, .inl (cI, 14, .inl Fm))]) [2, 3] rfl) hK rfl rfl) rfl hl.1 rfl (Nat.le_of_ble_eq_true rfl) d_CP_twin_18 ⟨Nat.zero_le _, Nat.zero_le _⟩)) (fun r_4 hr_5 => ?_)
  refine vp_callSi (va_Run.run (k_S (n := 1) (rest := []) ⟨hx, hb, hml, hown, hts⟩ (c_JI_numberOfTrailingZeros l dC dI cI cJ cZ r_4 (lsn (bt r_4) 32) rfl) wml_CP_121 wst_JI_numberOfTrailingZeros wini_JI wcode_JI_numberOfTrailingZeros (by decide +kernel) ⟨Nat.le_of_ble_eq_true rfl, Nat.le_of_ble_eq_true rfl⟩ (pre_R (hP.sub (ws' := []) [] rfl) hK) rfl hl.1 rfl (Nat.le_of_ble_eq_true rfl) d_CP_twin_21 ⟨Nat.zero_le _, Nat.zero_le _⟩)) (fun r_6 hr_7 => ?_)
  refine xe_i (y := (nI (lsn (bt r_4) 32))) hr_7 ?_
  exact W.iret (v := (nI (lsn (bt r_4) 32))) hx hb hr (fun t9 ht9 _ => ⟨_, rfl, ⟨_, rfl, _, hr_5, rfl⟩, ht9⟩) t_nil d_CP_twin_24

set_option maxHeartbeats 4000000 in
set_option maxRecDepth 100000 in
theorem c_CP_falls_k (l : Launch) (dC : Nat → ClassId) (dI : Nat → Nat → Nat) (cI cJ cZ : ClassId) (cp g k k2 fl co sp : Nat) (a1 a2 nd ar : Nat) (pr : Int64) (F G : Nat → Nat) (hGA : GAR F G nd ar pr) (nr fr rs at_ h : Nat) (al : Int32) (br : Int64) (N Fm : Nat → Int32) (A : Nat → Int64) (b1 z : Nat) (Se : Nat → Int64) (hSK : SKI (lb pr) F G nd N Fm A Se z al br) (x : Nat) (hxn : x < nd) : Met l ⟨"CutPoints", "falls", "(I)I"⟩ (Cond.code ⟨"CutPoints", "falls", "(I)I"⟩ prog_1_method_9_code 2 (some .int) :: TT) (rmk 4 93) (PR dC dI cI cJ cZ [.ref cp, .int (nI x)] [(cp, .inr (0, [.ref g, .ref k, .ref k2, .ref fl, .ref co, .ref sp])), (g, .inr (1, [.ref a1, .ref a2, .int (nI nd), .int (nI ar), .long pr])), (k, .inr (2, [.ref nr, .ref fr, .ref rs, .ref at_, .ref h, .int al, .long br])), (nr, .inl (cI, 14, .inl N))]) (vp_Si (fun r => ∃ kk, r = nI kk ∧ FallsR N al x kk)) 0 0 (fun _ => False) := by
  refine Met.ofW (cc := prog_1_method_9_code) (maxL := 2) (ret := (some .int)) (by decide) rfl ?_
  intro p e s m args below meth c s₁ BB9 hml hv
  obtain ⟨rfl, hP, hK⟩ := hv
  have hx := BB9.exec
  have hb := BB9.bytes
  have hr := BB9.returns
  have hts : ∀ w ∈ TT, w.before _ s = true := fun w h => atoms_spec (ws := (Cond.code ⟨"CutPoints", "falls", "(I)I"⟩ prog_1_method_9_code 2 (some .int) :: TT)) BB9.pre w (List.mem_cons_of_mem _ h)
  have hown : s.vm.findClass "CutPoints" = some m.cls := findClass_of_methodNamed BB9.named
  have hlocks := BB9.notSynchronized
  have hnd14 := hGA.1
  have har40 := hGA.2.1
  have hl := lv_entry ([.ref cp, .int (nI x)]) (n := 2) (Nat.le_of_ble_eq_true rfl)
  rw [lg_entry_eq]
  generalize (lg_sl ([.ref cp, .int (nI x)]) ++ List.replicate (2 - (lg_sl ([.ref cp, .int (nI x)])).length) Slot.unset).toArray = ls at hl ⊢
  have hl : lv_has ls 2 [(0, .ref cp), (1, .int (nI x))] := hl
  refine lv_aload_n hx hb d_CP_falls_0 rfl (lv_at hl 0 rfl) ?_
  refine va_get (D := (dC, dI)) (ci := 0) (v := .ref g) (C := R_CP) (T := F_CP) (N := 6) hx hb hts in_CP hown hK.1 hP 0 rfl rfl 0 (by decide) (hts _ wfl_CP_12) (fun _ h9 => h9) rfl d_CP_falls_1 ?_
  refine lv_iload_n hx hb d_CP_falls_4 rfl (lv_at hl 1 rfl) ?_
  refine vp_callSi (va_Run.run (k_V (n := 1) (C := R_GR) (rest := []) ⟨hx, hb, hml, hown, hts⟩ (c_GR_hasNode l dC dI cI cJ cZ g a1 a2 nd ar pr (nI x) (by first | assumption | omega)) wml_CP_115 wim_GR_hasNode wsel_GR_hasNode wini_GR wcode_GR_hasNode (by decide +kernel) ⟨Nat.le_of_ble_eq_true rfl, Nat.le_of_ble_eq_true rfl⟩ (preV_R (q := (R_GR, F_GR, 5)) (ci := 1) (q0 := 0) (hP.sub (ws' := [(g, .inr (1, [.ref a1, .ref a2, .int (nI nd), .int (nI ar), .long pr]))]) [1] rfl) hK rfl rfl) rfl hl.1 rfl (Nat.le_of_ble_eq_true rfl) d_CP_falls_5 ⟨Nat.zero_le _, Nat.zero_le _⟩)) (fun r_1 hr_2 => ?_)
  refine xe_i (y := (bI (vd (nI x) nd))) hr_2 ?_
  refine xe_i (y := (bI true)) (by rw [vd_tt (by omega) hxn]) ?_
  refine lv_if_ne (tgt := 13) hx hb d_CP_falls_8 (by decide) (fun _ => ?_) (fun c9 => absurd c9 (by decide : ¬ ((bI true) : Int32) = 0))
  refine lv_aload_n hx hb d_CP_falls_13 rfl (lv_at hl 0 rfl) ?_
  refine va_get (D := (dC, dI)) (ci := 0) (v := .ref k) (C := R_CP) (T := F_CP) (N := 6) hx hb hts in_CP hown hK.1 hP 0 rfl rfl 1 (by decide) (hts _ wfl_CP_19) (fun _ h9 => h9) rfl d_CP_falls_14 ?_
  refine lv_iload_n hx hb d_CP_falls_17 rfl (lv_at hl 1 rfl) ?_
  refine vp_callSi (va_Run.run (k_V (n := 1) (C := R_SK) (rest := []) ⟨hx, hb, hml, hown, hts⟩ (c_SK_countFalls l dC dI cI cJ cZ k nr fr rs at_ h al br N hSK.r14 x (by first | assumption | omega)) wml_CP_128 wim_SK_countFalls wsel_SK_countFalls wini_SK wcode_SK_countFalls (by decide +kernel) ⟨Nat.le_of_ble_eq_true rfl, Nat.le_of_ble_eq_true rfl⟩ (preV_R (q := (R_SK, F_SK, 7)) (ci := 2) (q0 := 0) (hP.sub (ws' := [(k, .inr (2, [.ref nr, .ref fr, .ref rs, .ref at_, .ref h, .int al, .long br])), (nr, .inl (cI, 14, .inl N))]) [2, 3] rfl) hK rfl rfl) rfl hl.1 rfl (Nat.le_of_ble_eq_true rfl) d_CP_falls_18 ⟨Nat.zero_le _, Nat.zero_le _⟩)) (fun r_4 hr_5 => ?_)
  obtain ⟨kx_6, ek_6, hk_6⟩ := hr_5
  refine xe_i (y := (nI kx_6)) ek_6 ?_
  exact W.iret (v := (nI kx_6)) hx hb hr (fun t9 ht9 _ => ⟨_, rfl, ⟨_, rfl, hk_6⟩, ht9⟩) t_nil d_CP_falls_21

set_option maxHeartbeats 4000000 in
set_option maxRecDepth 100000 in
theorem c_CP_bridge_k (l : Launch) (dC : Nat → ClassId) (dI : Nat → Nat → Nat) (cI cJ cZ : ClassId) (cp g k k2 fl co sp : Nat) (a1 a2 nd ar : Nat) (pr : Int64) (F G : Nat → Nat) (hGA : GAR F G nd ar pr) (nr fr rs at_ h : Nat) (al : Int32) (br : Int64) (N Fm : Nat → Int32) (A : Nat → Int64) (b1 z : Nat) (Se : Nat → Int64) (hSK : SKI (lb pr) F G nd N Fm A Se z al br) (x : Nat) (hxn : x < ar) (hxl : lb pr x = true) : Met l ⟨"CutPoints", "bridge", "(I)I"⟩ (Cond.code ⟨"CutPoints", "bridge", "(I)I"⟩ prog_1_method_8_code 2 (some .int) :: TT) (rmk 2 43) (PR dC dI cI cJ cZ [.ref cp, .int (nI x)] [(cp, .inr (0, [.ref g, .ref k, .ref k2, .ref fl, .ref co, .ref sp])), (g, .inr (1, [.ref a1, .ref a2, .int (nI nd), .int (nI ar), .long pr])), (k, .inr (2, [.ref nr, .ref fr, .ref rs, .ref at_, .ref h, .int al, .long br]))]) (vp_Si (fun r => r = bI (lb br x))) 0 0 (fun _ => False) := by
  refine Met.ofW (cc := prog_1_method_8_code) (maxL := 2) (ret := (some .int)) (by decide) rfl ?_
  intro p e s m args below meth c s₁ BB9 hml hv
  obtain ⟨rfl, hP, hK⟩ := hv
  have hx := BB9.exec
  have hb := BB9.bytes
  have hr := BB9.returns
  have hts : ∀ w ∈ TT, w.before _ s = true := fun w h => atoms_spec (ws := (Cond.code ⟨"CutPoints", "bridge", "(I)I"⟩ prog_1_method_8_code 2 (some .int) :: TT)) BB9.pre w (List.mem_cons_of_mem _ h)
  have hown : s.vm.findClass "CutPoints" = some m.cls := findClass_of_methodNamed BB9.named
  have hlocks := BB9.notSynchronized
  have hnd14 := hGA.1
  have har40 := hGA.2.1
  have hl := lv_entry ([.ref cp, .int (nI x)]) (n := 2) (Nat.le_of_ble_eq_true rfl)
  rw [lg_entry_eq]
  generalize (lg_sl ([.ref cp, .int (nI x)]) ++ List.replicate (2 - (lg_sl ([.ref cp, .int (nI x)])).length) Slot.unset).toArray = ls at hl ⊢
  have hl : lv_has ls 2 [(0, .ref cp), (1, .int (nI x))] := hl
  refine lv_aload_n hx hb d_CP_bridge_0 rfl (lv_at hl 0 rfl) ?_
  refine va_get (D := (dC, dI)) (ci := 0) (v := .ref g) (C := R_CP) (T := F_CP) (N := 6) hx hb hts in_CP hown hK.1 hP 0 rfl rfl 0 (by decide) (hts _ wfl_CP_12) (fun _ h9 => h9) rfl d_CP_bridge_1 ?_
  refine lv_iload_n hx hb d_CP_bridge_4 rfl (lv_at hl 1 rfl) ?_
  refine vp_callSi (va_Run.run (k_V (n := 1) (C := R_GR) (rest := []) ⟨hx, hb, hml, hown, hts⟩ (c_GR_isThere l dC dI cI cJ cZ g a1 a2 nd ar pr (nI x) (by first | assumption | omega)) wml_CP_73 wim_GR_isThere wsel_GR_isThere wini_GR wcode_GR_isThere (by decide +kernel) ⟨Nat.le_of_ble_eq_true rfl, Nat.le_of_ble_eq_true rfl⟩ (preV_R (q := (R_GR, F_GR, 5)) (ci := 1) (q0 := 0) (hP.sub (ws' := [(g, .inr (1, [.ref a1, .ref a2, .int (nI nd), .int (nI ar), .long pr]))]) [1] rfl) hK rfl rfl) rfl hl.1 rfl (Nat.le_of_ble_eq_true rfl) d_CP_bridge_5 ⟨Nat.zero_le _, Nat.zero_le _⟩)) (fun r_1 hr_2 => ?_)
  refine xe_i (y := (bI (vd (nI x) ar && lb pr (nI x).toNatClampNeg))) hr_2 ?_
  refine xe_i (y := (bI true)) (by rw [th_tt (by omega) hxn hxl]) ?_
  refine lv_if_ne (tgt := 13) hx hb d_CP_bridge_8 (by decide) (fun _ => ?_) (fun c9 => absurd c9 (by decide : ¬ ((bI true) : Int32) = 0))
  refine lv_aload_n hx hb d_CP_bridge_13 rfl (lv_at hl 0 rfl) ?_
  refine va_get (D := (dC, dI)) (ci := 0) (v := .ref k) (C := R_CP) (T := F_CP) (N := 6) hx hb hts in_CP hown hK.1 hP 0 rfl rfl 1 (by decide) (hts _ wfl_CP_19) (fun _ h9 => h9) rfl d_CP_bridge_14 ?_
  refine va_get (D := (dC, dI)) (ci := 2) (v := .long br) (C := R_SK) (T := F_SK) (N := 7) hx hb hts in_SK hown hK.1 hP 2 rfl rfl 6 (by decide) (hts _ wfl_CP_86) (fun _ h9 => h9) rfl d_CP_bridge_17 ?_
  refine lv_iload_n hx hb d_CP_bridge_20 rfl (lv_at hl 1 rfl) ?_
  refine vp_callSi (va_Run.run (k_S (n := 2) (rest := []) ⟨hx, hb, hml, hown, hts⟩ (c_CP_hasBit l dC dI cI cJ cZ br x (by first | assumption | omega)) wml_CP_124 wst_CP_hasBit wini_CP wcode_CP_hasBit (by decide +kernel) ⟨Nat.le_of_ble_eq_true rfl, Nat.le_of_ble_eq_true rfl⟩ (pre_R (hP.sub (ws' := []) [] rfl) hK) rfl hl.1 rfl (Nat.le_of_ble_eq_true rfl) d_CP_bridge_21 ⟨Nat.zero_le _, Nat.zero_le _⟩)) (fun r_4 hr_5 => ?_)
  refine xe_i (y := (bI (lb br x))) hr_5 ?_
  refine x_if_eq (tgt := 31) hx hb d_CP_bridge_24 (by decide) (fun c_6 => ?_) (fun c_6 => ?_)
  · skip
    refine lv_iconst (v := (nI 0)) hx hb d_CP_bridge_31 (by decide) ?_
    exact W.iret (v := (nI 0)) hx hb hr (fun t9 ht9 _ => ⟨_, rfl, (by rw [c_6]; rfl), ht9⟩) t_nil d_CP_bridge_32
  · skip
    refine lv_iconst (v := (nI 1)) hx hb d_CP_bridge_27 (by decide) ?_
    refine lv_goto (tgt := 32) hx hb d_CP_bridge_28 (by decide) ?_
    exact W.iret (v := (nI 1)) hx hb hr (fun t9 ht9 _ => ⟨_, rfl, (by rw [c_6]; rfl), ht9⟩) t_nil d_CP_bridge_32

set_option maxHeartbeats 4000000 in
set_option maxRecDepth 100000 in
theorem c_CP_block_k (l : Launch) (dC : Nat → ClassId) (dI : Nat → Nat → Nat) (cI cJ cZ : ClassId) (cp g k k2 fl co sp : Nat) (a1 a2 nd ar : Nat) (pr : Int64) (F G : Nat → Nat) (hGA : GAR F G nd ar pr) (nr fr rs at_ h : Nat) (al : Int32) (br : Int64) (N Fm : Nat → Int32) (A : Nat → Int64) (b1 z : Nat) (Se : Nat → Int64) (hSK : SKI (lb pr) F G nd N Fm A Se z al br) (x : Nat) (hxn : x < ar) (hxl : lb pr x = true) : Met l ⟨"CutPoints", "block", "(I)I"⟩ (Cond.code ⟨"CutPoints", "block", "(I)I"⟩ prog_1_method_10_code 2 (some .int) :: TT) (rmk 2 44) (PR dC dI cI cJ cZ [.ref cp, .int (nI x)] [(cp, .inr (0, [.ref g, .ref k, .ref k2, .ref fl, .ref co, .ref sp])), (g, .inr (1, [.ref a1, .ref a2, .int (nI nd), .int (nI ar), .long pr])), (k, .inr (2, [.ref nr, .ref fr, .ref rs, .ref at_, .ref h, .int al, .long br])), (h, .inr (3, [.ref b1, .int (nI z)])), (b1, .inl (cJ, 41, .inr (.inl Se)))]) (vp_Si (fun r => ∃ v, r = nI v ∧ ∃ y, Held Se z x y ∧ v = lsn (lb y) 64)) 0 0 (fun _ => False) := by
  refine Met.ofW (cc := prog_1_method_10_code) (maxL := 2) (ret := (some .int)) (by decide) rfl ?_
  intro p e s m args below meth c s₁ BB9 hml hv
  obtain ⟨rfl, hP, hK⟩ := hv
  have hx := BB9.exec
  have hb := BB9.bytes
  have hr := BB9.returns
  have hts : ∀ w ∈ TT, w.before _ s = true := fun w h => atoms_spec (ws := (Cond.code ⟨"CutPoints", "block", "(I)I"⟩ prog_1_method_10_code 2 (some .int) :: TT)) BB9.pre w (List.mem_cons_of_mem _ h)
  have hown : s.vm.findClass "CutPoints" = some m.cls := findClass_of_methodNamed BB9.named
  have hlocks := BB9.notSynchronized
  have hnd14 := hGA.1
  have har40 := hGA.2.1
  have hl := lv_entry ([.ref cp, .int (nI x)]) (n := 2) (Nat.le_of_ble_eq_true rfl)
  rw [lg_entry_eq]
  generalize (lg_sl ([.ref cp, .int (nI x)]) ++ List.replicate (2 - (lg_sl ([.ref cp, .int (nI x)])).length) Slot.unset).toArray = ls at hl ⊢
  have hl : lv_has ls 2 [(0, .ref cp), (1, .int (nI x))] := hl
  refine lv_aload_n hx hb d_CP_block_0 rfl (lv_at hl 0 rfl) ?_
  refine va_get (D := (dC, dI)) (ci := 0) (v := .ref g) (C := R_CP) (T := F_CP) (N := 6) hx hb hts in_CP hown hK.1 hP 0 rfl rfl 0 (by decide) (hts _ wfl_CP_12) (fun _ h9 => h9) rfl d_CP_block_1 ?_
  refine lv_iload_n hx hb d_CP_block_4 rfl (lv_at hl 1 rfl) ?_
  refine vp_callSi (va_Run.run (k_V (n := 1) (C := R_GR) (rest := []) ⟨hx, hb, hml, hown, hts⟩ (c_GR_isThere l dC dI cI cJ cZ g a1 a2 nd ar pr (nI x) (by first | assumption | omega)) wml_CP_73 wim_GR_isThere wsel_GR_isThere wini_GR wcode_GR_isThere (by decide +kernel) ⟨Nat.le_of_ble_eq_true rfl, Nat.le_of_ble_eq_true rfl⟩ (preV_R (q := (R_GR, F_GR, 5)) (ci := 1) (q0 := 0) (hP.sub (ws' := [(g, .inr (1, [.ref a1, .ref a2, .int (nI nd), .int (nI ar), .long pr]))]) [1] rfl) hK rfl rfl) rfl hl.1 rfl (Nat.le_of_ble_eq_true rfl) d_CP_block_5 ⟨Nat.zero_le _, Nat.zero_le _⟩)) (fun r_1 hr_2 => ?_)
  refine xe_i (y := (bI (vd (nI x) ar && lb pr (nI x).toNatClampNeg))) hr_2 ?_
  refine xe_i (y := (bI true)) (by rw [th_tt (by omega) hxn hxl]) ?_
  refine lv_if_ne (tgt := 13) hx hb d_CP_block_8 (by decide) (fun _ => ?_) (fun c9 => absurd c9 (by decide : ¬ ((bI true) : Int32) = 0))
  refine lv_aload_n hx hb d_CP_block_13 rfl (lv_at hl 0 rfl) ?_
  refine va_get (D := (dC, dI)) (ci := 0) (v := .ref k) (C := R_CP) (T := F_CP) (N := 6) hx hb hts in_CP hown hK.1 hP 0 rfl rfl 1 (by decide) (hts _ wfl_CP_19) (fun _ h9 => h9) rfl d_CP_block_14 ?_
  refine va_get (D := (dC, dI)) (ci := 2) (v := .ref h) (C := R_SK) (T := F_SK) (N := 7) hx hb hts in_SK hown hK.1 hP 2 rfl rfl 4 (by decide) (hts _ wfl_CP_92) (fun _ h9 => h9) rfl d_CP_block_17 ?_
  refine lv_iload_n hx hb d_CP_block_20 rfl (lv_at hl 1 rfl) ?_
  refine vp_callSl (va_Run.run (k_V (n := 1) (C := R_GP) (rest := []) ⟨hx, hb, hml, hown, hts⟩ (c_GP_holding l dC dI cI cJ cZ h b1 z Se x (by first | assumption | omega) hSK.2.2.2.2.1.le) wml_CP_131 wim_GP_holding wsel_GP_holding wini_GP wcode_GP_holding (by decide +kernel) ⟨Nat.le_of_ble_eq_true rfl, Nat.le_of_ble_eq_true rfl⟩ (preV_R (q := (R_GP, F_GP, 2)) (ci := 3) (q0 := 0) (hP.sub (ws' := [(h, .inr (3, [.ref b1, .int (nI z)])), (b1, .inl (cJ, 41, .inr (.inl Se)))]) [3, 4] rfl) hK rfl rfl) rfl hl.1 rfl (Nat.le_of_ble_eq_true rfl) d_CP_block_21 ⟨Nat.zero_le _, Nat.zero_le _⟩)) (fun r_4 hr_5 => ?_)
  refine vp_callSi (va_Run.run (k_S (n := 1) (rest := []) ⟨hx, hb, hml, hown, hts⟩ (c_JL_numberOfTrailingZeros l dC dI cI cJ cZ r_4) wml_CP_135 wst_JL_numberOfTrailingZeros wini_JL wcode_JL_numberOfTrailingZeros (by decide +kernel) ⟨Nat.le_of_ble_eq_true rfl, Nat.le_of_ble_eq_true rfl⟩ (pre_R (hP.sub (ws' := []) [] rfl) hK) rfl hl.1 rfl (Nat.le_of_ble_eq_true rfl) d_CP_block_24 ⟨Nat.zero_le _, Nat.zero_le _⟩)) (fun r_6 hr_7 => ?_)
  refine xe_i (y := (nI (lsn (lb r_4) 64))) hr_7 ?_
  exact W.iret (v := (nI (lsn (lb r_4) 64))) hx hb hr (fun t9 ht9 _ => ⟨_, rfl, ⟨_, rfl, _, hr_5, rfl⟩, ht9⟩) t_nil d_CP_block_27

theorem d_CP_count_0 : decode prog_1_method_6_code 0 = .ok (.iload_n 1, 1) := by decide +kernel
theorem d_CP_count_1 : decode prog_1_method_6_code 1 = .ok (.tableswitch 135 0 8 #[51, 59, 70, 78, 89, 97, 108, 116, 124], 51) := by decide +kernel
theorem d_CP_count_52 : decode prog_1_method_6_code 52 = .ok (.aload_n 0, 1) := by decide +kernel
theorem d_CP_count_53 : decode prog_1_method_6_code 53 = .ok (.getfield 12, 3) := by decide +kernel
theorem d_CP_count_56 : decode prog_1_method_6_code 56 = .ok (.getfield 47, 3) := by decide +kernel
theorem d_CP_count_59 : decode prog_1_method_6_code 59 = .ok (.ireturn, 1) := by decide +kernel
theorem d_CP_count_60 : decode prog_1_method_6_code 60 = .ok (.aload_n 0, 1) := by decide +kernel
theorem d_CP_count_61 : decode prog_1_method_6_code 61 = .ok (.getfield 12, 3) := by decide +kernel
theorem d_CP_count_64 : decode prog_1_method_6_code 64 = .ok (.getfield 54, 3) := by decide +kernel
theorem d_CP_count_67 : decode prog_1_method_6_code 67 = .ok (.invokestatic 76, 3) := by decide +kernel
theorem d_CP_count_70 : decode prog_1_method_6_code 70 = .ok (.ireturn, 1) := by decide +kernel
theorem d_CP_count_71 : decode prog_1_method_6_code 71 = .ok (.aload_n 0, 1) := by decide +kernel
theorem d_CP_count_72 : decode prog_1_method_6_code 72 = .ok (.getfield 19, 3) := by decide +kernel
theorem d_CP_count_75 : decode prog_1_method_6_code 75 = .ok (.invokevirtual 82, 3) := by decide +kernel
theorem d_CP_count_78 : decode prog_1_method_6_code 78 = .ok (.ireturn, 1) := by decide +kernel
theorem d_CP_count_79 : decode prog_1_method_6_code 79 = .ok (.aload_n 0, 1) := by decide +kernel
theorem d_CP_count_80 : decode prog_1_method_6_code 80 = .ok (.getfield 19, 3) := by decide +kernel
theorem d_CP_count_83 : decode prog_1_method_6_code 83 = .ok (.getfield 86, 3) := by decide +kernel
theorem d_CP_count_86 : decode prog_1_method_6_code 86 = .ok (.invokestatic 76, 3) := by decide +kernel
theorem d_CP_count_89 : decode prog_1_method_6_code 89 = .ok (.ireturn, 1) := by decide +kernel
theorem d_CP_count_90 : decode prog_1_method_6_code 90 = .ok (.aload_n 0, 1) := by decide +kernel
theorem d_CP_count_91 : decode prog_1_method_6_code 91 = .ok (.getfield 19, 3) := by decide +kernel
theorem d_CP_count_94 : decode prog_1_method_6_code 94 = .ok (.invokevirtual 89, 3) := by decide +kernel
theorem d_CP_count_97 : decode prog_1_method_6_code 97 = .ok (.ireturn, 1) := by decide +kernel
theorem d_CP_count_98 : decode prog_1_method_6_code 98 = .ok (.aload_n 0, 1) := by decide +kernel
theorem d_CP_count_99 : decode prog_1_method_6_code 99 = .ok (.getfield 19, 3) := by decide +kernel
theorem d_CP_count_102 : decode prog_1_method_6_code 102 = .ok (.getfield 92, 3) := by decide +kernel
theorem d_CP_count_105 : decode prog_1_method_6_code 105 = .ok (.getfield 96, 3) := by decide +kernel
theorem d_CP_count_108 : decode prog_1_method_6_code 108 = .ok (.ireturn, 1) := by decide +kernel
theorem d_CP_count_109 : decode prog_1_method_6_code 109 = .ok (.aload_n 0, 1) := by decide +kernel
theorem d_CP_count_110 : decode prog_1_method_6_code 110 = .ok (.getfield 19, 3) := by decide +kernel
theorem d_CP_count_113 : decode prog_1_method_6_code 113 = .ok (.invokevirtual 101, 3) := by decide +kernel
theorem d_CP_count_116 : decode prog_1_method_6_code 116 = .ok (.ireturn, 1) := by decide +kernel
theorem d_CP_count_117 : decode prog_1_method_6_code 117 = .ok (.aload_n 0, 1) := by decide +kernel
theorem d_CP_count_118 : decode prog_1_method_6_code 118 = .ok (.getfield 19, 3) := by decide +kernel
theorem d_CP_count_121 : decode prog_1_method_6_code 121 = .ok (.invokevirtual 104, 3) := by decide +kernel
theorem d_CP_count_124 : decode prog_1_method_6_code 124 = .ok (.ireturn, 1) := by decide +kernel
theorem d_CP_count_125 : decode prog_1_method_6_code 125 = .ok (.aload_n 0, 1) := by decide +kernel
theorem d_CP_count_126 : decode prog_1_method_6_code 126 = .ok (.getfield 19, 3) := by decide +kernel
theorem d_CP_count_129 : decode prog_1_method_6_code 129 = .ok (.invokevirtual 107, 3) := by decide +kernel
theorem d_CP_count_132 : decode prog_1_method_6_code 132 = .ok (.invokestatic 110, 3) := by decide +kernel
theorem d_CP_count_135 : decode prog_1_method_6_code 135 = .ok (.ireturn, 1) := by decide +kernel
theorem d_CP_count_136 : decode prog_1_method_6_code 136 = .ok (.bipush (-2), 2) := by decide +kernel
theorem d_CP_count_138 : decode prog_1_method_6_code 138 = .ok (.ireturn, 1) := by decide +kernel
set_option maxHeartbeats 4000000 in
set_option maxRecDepth 100000 in
theorem c_CP_count_0 (l : Launch) (dC : Nat → ClassId) (dI : Nat → Nat → Nat) (cI cJ cZ : ClassId) (cp g k k2 fl co sp : Nat) (a1 a2 nd ar : Nat) (pr : Int64) (F G : Nat → Nat) (hGA : GAR F G nd ar pr) (nr fr rs at_ h : Nat) (al : Int32) (br : Int64) (N Fm : Nat → Int32) (A : Nat → Int64) (b1 z : Nat) (Se : Nat → Int64) (hSK : SKI (lb pr) F G nd N Fm A Se z al br) : Met l ⟨"CutPoints", "count", "(I)I"⟩ (Cond.code ⟨"CutPoints", "count", "(I)I"⟩ prog_1_method_6_code 2 (some .int) :: TT) (rmk 0 0) (PR dC dI cI cJ cZ [.ref cp, .int (nI 0)] [(cp, .inr (0, [.ref g, .ref k, .ref k2, .ref fl, .ref co, .ref sp])), (g, .inr (1, [.ref a1, .ref a2, .int (nI nd), .int (nI ar), .long pr]))]) (vp_Si (fun r => r = nI nd)) 0 0 (fun _ => False) := by
  refine Met.ofW (cc := prog_1_method_6_code) (maxL := 2) (ret := (some .int)) (by decide) rfl ?_
  intro p e s m args below meth c s₁ BB9 hml hv
  obtain ⟨rfl, hP, hK⟩ := hv
  have hx := BB9.exec
  have hb := BB9.bytes
  have hr := BB9.returns
  have hts : ∀ w ∈ TT, w.before _ s = true := fun w h => atoms_spec (ws := (Cond.code ⟨"CutPoints", "count", "(I)I"⟩ prog_1_method_6_code 2 (some .int) :: TT)) BB9.pre w (List.mem_cons_of_mem _ h)
  have hown : s.vm.findClass "CutPoints" = some m.cls := findClass_of_methodNamed BB9.named
  have hlocks := BB9.notSynchronized
  have hl := lv_entry ([.ref cp, .int (nI 0)]) (n := 2) (Nat.le_of_ble_eq_true rfl)
  rw [lg_entry_eq]
  generalize (lg_sl ([.ref cp, .int (nI 0)]) ++ List.replicate (2 - (lg_sl ([.ref cp, .int (nI 0)])).length) Slot.unset).toArray = ls at hl ⊢
  have hl : lv_has ls 2 [(0, .ref cp), (1, .int (nI 0))] := hl
  refine lv_iload_n hx hb d_CP_count_0 rfl (lv_at hl 1 rfl) ?_
  refine lv_tableIn (off := 51) (tgt := 52) hx hb d_CP_count_1 (by decide) (by decide) (by decide) (by decide) ?_
  refine lv_aload_n hx hb d_CP_count_52 rfl (lv_at hl 0 rfl) ?_
  refine va_get (D := (dC, dI)) (ci := 0) (v := .ref g) (C := R_CP) (T := F_CP) (N := 6) hx hb hts in_CP hown hK.1 hP 0 rfl rfl 0 (by decide) (hts _ wfl_CP_12) (fun _ h9 => h9) rfl d_CP_count_53 ?_
  refine va_get (D := (dC, dI)) (ci := 1) (v := .int (nI nd)) (C := R_GR) (T := F_GR) (N := 5) hx hb hts in_GR hown hK.1 hP 1 rfl rfl 2 (by decide) (hts _ wfl_CP_47) (fun _ h9 => h9) rfl d_CP_count_56 ?_
  exact W.iret (v := (nI nd)) hx hb hr (fun t9 ht9 _ => ⟨_, rfl, rfl, ht9⟩) t_nil d_CP_count_59

set_option maxHeartbeats 4000000 in
set_option maxRecDepth 100000 in
theorem c_CP_count_1 (l : Launch) (dC : Nat → ClassId) (dI : Nat → Nat → Nat) (cI cJ cZ : ClassId) (cp g k k2 fl co sp : Nat) (a1 a2 nd ar : Nat) (pr : Int64) (F G : Nat → Nat) (hGA : GAR F G nd ar pr) (nr fr rs at_ h : Nat) (al : Int32) (br : Int64) (N Fm : Nat → Int32) (A : Nat → Int64) (b1 z : Nat) (Se : Nat → Int64) (hSK : SKI (lb pr) F G nd N Fm A Se z al br) : Met l ⟨"CutPoints", "count", "(I)I"⟩ (Cond.code ⟨"CutPoints", "count", "(I)I"⟩ prog_1_method_6_code 2 (some .int) :: TT) (rmk 1 21) (PR dC dI cI cJ cZ [.ref cp, .int (nI 1)] [(cp, .inr (0, [.ref g, .ref k, .ref k2, .ref fl, .ref co, .ref sp])), (g, .inr (1, [.ref a1, .ref a2, .int (nI nd), .int (nI ar), .long pr]))]) (vp_Si (fun r => r = nI (cn (lb pr) 64))) 0 0 (fun _ => False) := by
  refine Met.ofW (cc := prog_1_method_6_code) (maxL := 2) (ret := (some .int)) (by decide) rfl ?_
  intro p e s m args below meth c s₁ BB9 hml hv
  obtain ⟨rfl, hP, hK⟩ := hv
  have hx := BB9.exec
  have hb := BB9.bytes
  have hr := BB9.returns
  have hts : ∀ w ∈ TT, w.before _ s = true := fun w h => atoms_spec (ws := (Cond.code ⟨"CutPoints", "count", "(I)I"⟩ prog_1_method_6_code 2 (some .int) :: TT)) BB9.pre w (List.mem_cons_of_mem _ h)
  have hown : s.vm.findClass "CutPoints" = some m.cls := findClass_of_methodNamed BB9.named
  have hlocks := BB9.notSynchronized
  have hl := lv_entry ([.ref cp, .int (nI 1)]) (n := 2) (Nat.le_of_ble_eq_true rfl)
  rw [lg_entry_eq]
  generalize (lg_sl ([.ref cp, .int (nI 1)]) ++ List.replicate (2 - (lg_sl ([.ref cp, .int (nI 1)])).length) Slot.unset).toArray = ls at hl ⊢
  have hl : lv_has ls 2 [(0, .ref cp), (1, .int (nI 1))] := hl
  refine lv_iload_n hx hb d_CP_count_0 rfl (lv_at hl 1 rfl) ?_
  refine lv_tableIn (off := 59) (tgt := 60) hx hb d_CP_count_1 (by decide) (by decide) (by decide) (by decide) ?_
  refine lv_aload_n hx hb d_CP_count_60 rfl (lv_at hl 0 rfl) ?_
  refine va_get (D := (dC, dI)) (ci := 0) (v := .ref g) (C := R_CP) (T := F_CP) (N := 6) hx hb hts in_CP hown hK.1 hP 0 rfl rfl 0 (by decide) (hts _ wfl_CP_12) (fun _ h9 => h9) rfl d_CP_count_61 ?_
  refine va_get (D := (dC, dI)) (ci := 1) (v := .long pr) (C := R_GR) (T := F_GR) (N := 5) hx hb hts in_GR hown hK.1 hP 1 rfl rfl 4 (by decide) (hts _ wfl_CP_54) (fun _ h9 => h9) rfl d_CP_count_64 ?_
  refine vp_callSi (va_Run.run (k_S (n := 1) (rest := []) ⟨hx, hb, hml, hown, hts⟩ (c_JL_bitCount l dC dI cI cJ cZ pr) wml_CP_76 wst_JL_bitCount wini_JL wcode_JL_bitCount (by decide +kernel) ⟨Nat.le_of_ble_eq_true rfl, Nat.le_of_ble_eq_true rfl⟩ (pre_R (hP.sub (ws' := []) [] rfl) hK) rfl hl.1 rfl (Nat.le_of_ble_eq_true rfl) d_CP_count_67 ⟨Nat.zero_le _, Nat.zero_le _⟩)) (fun r_1 hr_2 => ?_)
  refine xe_i (y := (nI (cn (lb pr) 64))) hr_2 ?_
  exact W.iret (v := (nI (cn (lb pr) 64))) hx hb hr (fun t9 ht9 _ => ⟨_, rfl, rfl, ht9⟩) t_nil d_CP_count_70

set_option maxHeartbeats 4000000 in
set_option maxRecDepth 100000 in
theorem c_CP_count_2 (l : Launch) (dC : Nat → ClassId) (dI : Nat → Nat → Nat) (cI cJ cZ : ClassId) (cp g k k2 fl co sp : Nat) (a1 a2 nd ar : Nat) (pr : Int64) (F G : Nat → Nat) (hGA : GAR F G nd ar pr) (nr fr rs at_ h : Nat) (al : Int32) (br : Int64) (N Fm : Nat → Int32) (A : Nat → Int64) (b1 z : Nat) (Se : Nat → Int64) (hSK : SKI (lb pr) F G nd N Fm A Se z al br) : Met l ⟨"CutPoints", "count", "(I)I"⟩ (Cond.code ⟨"CutPoints", "count", "(I)I"⟩ prog_1_method_6_code 2 (some .int) :: TT) (rmk 4 92) (PR dC dI cI cJ cZ [.ref cp, .int (nI 2)] [(cp, .inr (0, [.ref g, .ref k, .ref k2, .ref fl, .ref co, .ref sp])), (k, .inr (2, [.ref nr, .ref fr, .ref rs, .ref at_, .ref h, .int al, .long br])), (nr, .inl (cI, 14, .inl N))]) (vp_Si (fun r => r = nI (cn (lead N al) 14))) 0 0 (fun _ => False) := by
  refine Met.ofW (cc := prog_1_method_6_code) (maxL := 2) (ret := (some .int)) (by decide) rfl ?_
  intro p e s m args below meth c s₁ BB9 hml hv
  obtain ⟨rfl, hP, hK⟩ := hv
  have hx := BB9.exec
  have hb := BB9.bytes
  have hr := BB9.returns
  have hts : ∀ w ∈ TT, w.before _ s = true := fun w h => atoms_spec (ws := (Cond.code ⟨"CutPoints", "count", "(I)I"⟩ prog_1_method_6_code 2 (some .int) :: TT)) BB9.pre w (List.mem_cons_of_mem _ h)
  have hown : s.vm.findClass "CutPoints" = some m.cls := findClass_of_methodNamed BB9.named
  have hlocks := BB9.notSynchronized
  have hl := lv_entry ([.ref cp, .int (nI 2)]) (n := 2) (Nat.le_of_ble_eq_true rfl)
  rw [lg_entry_eq]
  generalize (lg_sl ([.ref cp, .int (nI 2)]) ++ List.replicate (2 - (lg_sl ([.ref cp, .int (nI 2)])).length) Slot.unset).toArray = ls at hl ⊢
  have hl : lv_has ls 2 [(0, .ref cp), (1, .int (nI 2))] := hl
  refine lv_iload_n hx hb d_CP_count_0 rfl (lv_at hl 1 rfl) ?_
  refine lv_tableIn (off := 70) (tgt := 71) hx hb d_CP_count_1 (by decide) (by decide) (by decide) (by decide) ?_
  refine lv_aload_n hx hb d_CP_count_71 rfl (lv_at hl 0 rfl) ?_
  refine va_get (D := (dC, dI)) (ci := 0) (v := .ref k) (C := R_CP) (T := F_CP) (N := 6) hx hb hts in_CP hown hK.1 hP 0 rfl rfl 1 (by decide) (hts _ wfl_CP_19) (fun _ h9 => h9) rfl d_CP_count_72 ?_
  refine vp_callSi (va_Run.run (k_V (n := 0) (C := R_SK) (rest := []) ⟨hx, hb, hml, hown, hts⟩ (c_SK_countParts l dC dI cI cJ cZ k nr fr rs at_ h al br N (hSK.rw N)) wml_CP_82 wim_SK_countParts wsel_SK_countParts wini_SK wcode_SK_countParts (by decide +kernel) ⟨Nat.le_of_ble_eq_true rfl, Nat.le_of_ble_eq_true rfl⟩ (preV_R (q := (R_SK, F_SK, 7)) (ci := 2) (q0 := 0) (hP.sub (ws' := [(k, .inr (2, [.ref nr, .ref fr, .ref rs, .ref at_, .ref h, .int al, .long br])), (nr, .inl (cI, 14, .inl N))]) [1, 2] rfl) hK rfl rfl) rfl hl.1 rfl (Nat.le_of_ble_eq_true rfl) d_CP_count_75 ⟨Nat.zero_le _, Nat.zero_le _⟩)) (fun r_1 hr_2 => ?_)
  refine xe_i (y := (nI (cn (lead N al) 14))) hr_2 ?_
  exact W.iret (v := (nI (cn (lead N al) 14))) hx hb hr (fun t9 ht9 _ => ⟨_, rfl, rfl, ht9⟩) t_nil d_CP_count_78

set_option maxHeartbeats 4000000 in
set_option maxRecDepth 100000 in
theorem c_CP_count_3 (l : Launch) (dC : Nat → ClassId) (dI : Nat → Nat → Nat) (cI cJ cZ : ClassId) (cp g k k2 fl co sp : Nat) (a1 a2 nd ar : Nat) (pr : Int64) (F G : Nat → Nat) (hGA : GAR F G nd ar pr) (nr fr rs at_ h : Nat) (al : Int32) (br : Int64) (N Fm : Nat → Int32) (A : Nat → Int64) (b1 z : Nat) (Se : Nat → Int64) (hSK : SKI (lb pr) F G nd N Fm A Se z al br) : Met l ⟨"CutPoints", "count", "(I)I"⟩ (Cond.code ⟨"CutPoints", "count", "(I)I"⟩ prog_1_method_6_code 2 (some .int) :: TT) (rmk 1 21) (PR dC dI cI cJ cZ [.ref cp, .int (nI 3)] [(cp, .inr (0, [.ref g, .ref k, .ref k2, .ref fl, .ref co, .ref sp])), (k, .inr (2, [.ref nr, .ref fr, .ref rs, .ref at_, .ref h, .int al, .long br]))]) (vp_Si (fun r => r = nI (cn (lb br) 64))) 0 0 (fun _ => False) := by
  refine Met.ofW (cc := prog_1_method_6_code) (maxL := 2) (ret := (some .int)) (by decide) rfl ?_
  intro p e s m args below meth c s₁ BB9 hml hv
  obtain ⟨rfl, hP, hK⟩ := hv
  have hx := BB9.exec
  have hb := BB9.bytes
  have hr := BB9.returns
  have hts : ∀ w ∈ TT, w.before _ s = true := fun w h => atoms_spec (ws := (Cond.code ⟨"CutPoints", "count", "(I)I"⟩ prog_1_method_6_code 2 (some .int) :: TT)) BB9.pre w (List.mem_cons_of_mem _ h)
  have hown : s.vm.findClass "CutPoints" = some m.cls := findClass_of_methodNamed BB9.named
  have hlocks := BB9.notSynchronized
  have hl := lv_entry ([.ref cp, .int (nI 3)]) (n := 2) (Nat.le_of_ble_eq_true rfl)
  rw [lg_entry_eq]
  generalize (lg_sl ([.ref cp, .int (nI 3)]) ++ List.replicate (2 - (lg_sl ([.ref cp, .int (nI 3)])).length) Slot.unset).toArray = ls at hl ⊢
  have hl : lv_has ls 2 [(0, .ref cp), (1, .int (nI 3))] := hl
  refine lv_iload_n hx hb d_CP_count_0 rfl (lv_at hl 1 rfl) ?_
  refine lv_tableIn (off := 78) (tgt := 79) hx hb d_CP_count_1 (by decide) (by decide) (by decide) (by decide) ?_
  refine lv_aload_n hx hb d_CP_count_79 rfl (lv_at hl 0 rfl) ?_
  refine va_get (D := (dC, dI)) (ci := 0) (v := .ref k) (C := R_CP) (T := F_CP) (N := 6) hx hb hts in_CP hown hK.1 hP 0 rfl rfl 1 (by decide) (hts _ wfl_CP_19) (fun _ h9 => h9) rfl d_CP_count_80 ?_
  refine va_get (D := (dC, dI)) (ci := 2) (v := .long br) (C := R_SK) (T := F_SK) (N := 7) hx hb hts in_SK hown hK.1 hP 1 rfl rfl 6 (by decide) (hts _ wfl_CP_86) (fun _ h9 => h9) rfl d_CP_count_83 ?_
  refine vp_callSi (va_Run.run (k_S (n := 1) (rest := []) ⟨hx, hb, hml, hown, hts⟩ (c_JL_bitCount l dC dI cI cJ cZ br) wml_CP_76 wst_JL_bitCount wini_JL wcode_JL_bitCount (by decide +kernel) ⟨Nat.le_of_ble_eq_true rfl, Nat.le_of_ble_eq_true rfl⟩ (pre_R (hP.sub (ws' := []) [] rfl) hK) rfl hl.1 rfl (Nat.le_of_ble_eq_true rfl) d_CP_count_86 ⟨Nat.zero_le _, Nat.zero_le _⟩)) (fun r_1 hr_2 => ?_)
  refine xe_i (y := (nI (cn (lb br) 64))) hr_2 ?_
  exact W.iret (v := (nI (cn (lb br) 64))) hx hb hr (fun t9 ht9 _ => ⟨_, rfl, rfl, ht9⟩) t_nil d_CP_count_89

set_option maxHeartbeats 4000000 in
set_option maxRecDepth 100000 in
theorem c_CP_count_4 (l : Launch) (dC : Nat → ClassId) (dI : Nat → Nat → Nat) (cI cJ cZ : ClassId) (cp g k k2 fl co sp : Nat) (a1 a2 nd ar : Nat) (pr : Int64) (F G : Nat → Nat) (hGA : GAR F G nd ar pr) (nr fr rs at_ h : Nat) (al : Int32) (br : Int64) (N Fm : Nat → Int32) (A : Nat → Int64) (b1 z : Nat) (Se : Nat → Int64) (hSK : SKI (lb pr) F G nd N Fm A Se z al br) : Met l ⟨"CutPoints", "count", "(I)I"⟩ (Cond.code ⟨"CutPoints", "count", "(I)I"⟩ prog_1_method_6_code 2 (some .int) :: TT) (rmk 5 115) (PR dC dI cI cJ cZ [.ref cp, .int (nI 4)] [(cp, .inr (0, [.ref g, .ref k, .ref k2, .ref fl, .ref co, .ref sp])), (k, .inr (2, [.ref nr, .ref fr, .ref rs, .ref at_, .ref h, .int al, .long br])), (nr, .inl (cI, 14, .inl N))]) (vp_Si (fun r => r = nI (cn (cutB N al) 14))) 0 0 (fun _ => False) := by
  refine Met.ofW (cc := prog_1_method_6_code) (maxL := 2) (ret := (some .int)) (by decide) rfl ?_
  intro p e s m args below meth c s₁ BB9 hml hv
  obtain ⟨rfl, hP, hK⟩ := hv
  have hx := BB9.exec
  have hb := BB9.bytes
  have hr := BB9.returns
  have hts : ∀ w ∈ TT, w.before _ s = true := fun w h => atoms_spec (ws := (Cond.code ⟨"CutPoints", "count", "(I)I"⟩ prog_1_method_6_code 2 (some .int) :: TT)) BB9.pre w (List.mem_cons_of_mem _ h)
  have hown : s.vm.findClass "CutPoints" = some m.cls := findClass_of_methodNamed BB9.named
  have hlocks := BB9.notSynchronized
  have hl := lv_entry ([.ref cp, .int (nI 4)]) (n := 2) (Nat.le_of_ble_eq_true rfl)
  rw [lg_entry_eq]
  generalize (lg_sl ([.ref cp, .int (nI 4)]) ++ List.replicate (2 - (lg_sl ([.ref cp, .int (nI 4)])).length) Slot.unset).toArray = ls at hl ⊢
  have hl : lv_has ls 2 [(0, .ref cp), (1, .int (nI 4))] := hl
  refine lv_iload_n hx hb d_CP_count_0 rfl (lv_at hl 1 rfl) ?_
  refine lv_tableIn (off := 89) (tgt := 90) hx hb d_CP_count_1 (by decide) (by decide) (by decide) (by decide) ?_
  refine lv_aload_n hx hb d_CP_count_90 rfl (lv_at hl 0 rfl) ?_
  refine va_get (D := (dC, dI)) (ci := 0) (v := .ref k) (C := R_CP) (T := F_CP) (N := 6) hx hb hts in_CP hown hK.1 hP 0 rfl rfl 1 (by decide) (hts _ wfl_CP_19) (fun _ h9 => h9) rfl d_CP_count_91 ?_
  refine vp_callSi (va_Run.run (k_V (n := 0) (C := R_SK) (rest := []) ⟨hx, hb, hml, hown, hts⟩ (c_SK_countCutNodes l dC dI cI cJ cZ k nr fr rs at_ h al br N hSK.r14) wml_CP_89 wim_SK_countCutNodes wsel_SK_countCutNodes wini_SK wcode_SK_countCutNodes (by decide +kernel) ⟨Nat.le_of_ble_eq_true rfl, Nat.le_of_ble_eq_true rfl⟩ (preV_R (q := (R_SK, F_SK, 7)) (ci := 2) (q0 := 0) (hP.sub (ws' := [(k, .inr (2, [.ref nr, .ref fr, .ref rs, .ref at_, .ref h, .int al, .long br])), (nr, .inl (cI, 14, .inl N))]) [1, 2] rfl) hK rfl rfl) rfl hl.1 rfl (Nat.le_of_ble_eq_true rfl) d_CP_count_94 ⟨Nat.zero_le _, Nat.zero_le _⟩)) (fun r_1 hr_2 => ?_)
  refine xe_i (y := (nI (cn (cutB N al) 14))) hr_2 ?_
  exact W.iret (v := (nI (cn (cutB N al) 14))) hx hb hr (fun t9 ht9 _ => ⟨_, rfl, rfl, ht9⟩) t_nil d_CP_count_97

set_option maxHeartbeats 4000000 in
set_option maxRecDepth 100000 in
theorem c_CP_count_5 (l : Launch) (dC : Nat → ClassId) (dI : Nat → Nat → Nat) (cI cJ cZ : ClassId) (cp g k k2 fl co sp : Nat) (a1 a2 nd ar : Nat) (pr : Int64) (F G : Nat → Nat) (hGA : GAR F G nd ar pr) (nr fr rs at_ h : Nat) (al : Int32) (br : Int64) (N Fm : Nat → Int32) (A : Nat → Int64) (b1 z : Nat) (Se : Nat → Int64) (hSK : SKI (lb pr) F G nd N Fm A Se z al br) : Met l ⟨"CutPoints", "count", "(I)I"⟩ (Cond.code ⟨"CutPoints", "count", "(I)I"⟩ prog_1_method_6_code 2 (some .int) :: TT) (rmk 0 0) (PR dC dI cI cJ cZ [.ref cp, .int (nI 5)] [(cp, .inr (0, [.ref g, .ref k, .ref k2, .ref fl, .ref co, .ref sp])), (k, .inr (2, [.ref nr, .ref fr, .ref rs, .ref at_, .ref h, .int al, .long br])), (h, .inr (3, [.ref b1, .int (nI z)]))]) (vp_Si (fun r => r = nI z)) 0 0 (fun _ => False) := by
  refine Met.ofW (cc := prog_1_method_6_code) (maxL := 2) (ret := (some .int)) (by decide) rfl ?_
  intro p e s m args below meth c s₁ BB9 hml hv
  obtain ⟨rfl, hP, hK⟩ := hv
  have hx := BB9.exec
  have hb := BB9.bytes
  have hr := BB9.returns
  have hts : ∀ w ∈ TT, w.before _ s = true := fun w h => atoms_spec (ws := (Cond.code ⟨"CutPoints", "count", "(I)I"⟩ prog_1_method_6_code 2 (some .int) :: TT)) BB9.pre w (List.mem_cons_of_mem _ h)
  have hown : s.vm.findClass "CutPoints" = some m.cls := findClass_of_methodNamed BB9.named
  have hlocks := BB9.notSynchronized
  have hl := lv_entry ([.ref cp, .int (nI 5)]) (n := 2) (Nat.le_of_ble_eq_true rfl)
  rw [lg_entry_eq]
  generalize (lg_sl ([.ref cp, .int (nI 5)]) ++ List.replicate (2 - (lg_sl ([.ref cp, .int (nI 5)])).length) Slot.unset).toArray = ls at hl ⊢
  have hl : lv_has ls 2 [(0, .ref cp), (1, .int (nI 5))] := hl
  refine lv_iload_n hx hb d_CP_count_0 rfl (lv_at hl 1 rfl) ?_
  refine lv_tableIn (off := 97) (tgt := 98) hx hb d_CP_count_1 (by decide) (by decide) (by decide) (by decide) ?_
  refine lv_aload_n hx hb d_CP_count_98 rfl (lv_at hl 0 rfl) ?_
  refine va_get (D := (dC, dI)) (ci := 0) (v := .ref k) (C := R_CP) (T := F_CP) (N := 6) hx hb hts in_CP hown hK.1 hP 0 rfl rfl 1 (by decide) (hts _ wfl_CP_19) (fun _ h9 => h9) rfl d_CP_count_99 ?_
  refine va_get (D := (dC, dI)) (ci := 2) (v := .ref h) (C := R_SK) (T := F_SK) (N := 7) hx hb hts in_SK hown hK.1 hP 1 rfl rfl 4 (by decide) (hts _ wfl_CP_92) (fun _ h9 => h9) rfl d_CP_count_102 ?_
  refine va_get (D := (dC, dI)) (ci := 3) (v := .int (nI z)) (C := R_GP) (T := F_GP) (N := 2) hx hb hts in_GP hown hK.1 hP 2 rfl rfl 1 (by decide) (hts _ wfl_CP_96) (fun _ h9 => h9) rfl d_CP_count_105 ?_
  exact W.iret (v := (nI z)) hx hb hr (fun t9 ht9 _ => ⟨_, rfl, rfl, ht9⟩) t_nil d_CP_count_108

set_option maxHeartbeats 4000000 in
set_option maxRecDepth 100000 in
theorem c_CP_count_6 (l : Launch) (dC : Nat → ClassId) (dI : Nat → Nat → Nat) (cI cJ cZ : ClassId) (cp g k k2 fl co sp : Nat) (a1 a2 nd ar : Nat) (pr : Int64) (F G : Nat → Nat) (hGA : GAR F G nd ar pr) (nr fr rs at_ h : Nat) (al : Int32) (br : Int64) (N Fm : Nat → Int32) (A : Nat → Int64) (b1 z : Nat) (Se : Nat → Int64) (hSK : SKI (lb pr) F G nd N Fm A Se z al br) : Met l ⟨"CutPoints", "count", "(I)I"⟩ (Cond.code ⟨"CutPoints", "count", "(I)I"⟩ prog_1_method_6_code 2 (some .int) :: TT) (rmk 4 92) (PR dC dI cI cJ cZ [.ref cp, .int (nI 6)] [(cp, .inr (0, [.ref g, .ref k, .ref k2, .ref fl, .ref co, .ref sp])), (k, .inr (2, [.ref nr, .ref fr, .ref rs, .ref at_, .ref h, .int al, .long br])), (fr, .inl (cI, 14, .inl Fm))]) (vp_Si (fun r => r = nI (cn (lead Fm al) 14))) 0 0 (fun _ => False) := by
  refine Met.ofW (cc := prog_1_method_6_code) (maxL := 2) (ret := (some .int)) (by decide) rfl ?_
  intro p e s m args below meth c s₁ BB9 hml hv
  obtain ⟨rfl, hP, hK⟩ := hv
  have hx := BB9.exec
  have hb := BB9.bytes
  have hr := BB9.returns
  have hts : ∀ w ∈ TT, w.before _ s = true := fun w h => atoms_spec (ws := (Cond.code ⟨"CutPoints", "count", "(I)I"⟩ prog_1_method_6_code 2 (some .int) :: TT)) BB9.pre w (List.mem_cons_of_mem _ h)
  have hown : s.vm.findClass "CutPoints" = some m.cls := findClass_of_methodNamed BB9.named
  have hlocks := BB9.notSynchronized
  have hl := lv_entry ([.ref cp, .int (nI 6)]) (n := 2) (Nat.le_of_ble_eq_true rfl)
  rw [lg_entry_eq]
  generalize (lg_sl ([.ref cp, .int (nI 6)]) ++ List.replicate (2 - (lg_sl ([.ref cp, .int (nI 6)])).length) Slot.unset).toArray = ls at hl ⊢
  have hl : lv_has ls 2 [(0, .ref cp), (1, .int (nI 6))] := hl
  refine lv_iload_n hx hb d_CP_count_0 rfl (lv_at hl 1 rfl) ?_
  refine lv_tableIn (off := 108) (tgt := 109) hx hb d_CP_count_1 (by decide) (by decide) (by decide) (by decide) ?_
  refine lv_aload_n hx hb d_CP_count_109 rfl (lv_at hl 0 rfl) ?_
  refine va_get (D := (dC, dI)) (ci := 0) (v := .ref k) (C := R_CP) (T := F_CP) (N := 6) hx hb hts in_CP hown hK.1 hP 0 rfl rfl 1 (by decide) (hts _ wfl_CP_19) (fun _ h9 => h9) rfl d_CP_count_110 ?_
  refine vp_callSi (va_Run.run (k_V (n := 0) (C := R_SK) (rest := []) ⟨hx, hb, hml, hown, hts⟩ (c_SK_countTwins l dC dI cI cJ cZ k nr fr rs at_ h al br Fm (hSK.rw Fm)) wml_CP_101 wim_SK_countTwins wsel_SK_countTwins wini_SK wcode_SK_countTwins (by decide +kernel) ⟨Nat.le_of_ble_eq_true rfl, Nat.le_of_ble_eq_true rfl⟩ (preV_R (q := (R_SK, F_SK, 7)) (ci := 2) (q0 := 0) (hP.sub (ws' := [(k, .inr (2, [.ref nr, .ref fr, .ref rs, .ref at_, .ref h, .int al, .long br])), (fr, .inl (cI, 14, .inl Fm))]) [1, 2] rfl) hK rfl rfl) rfl hl.1 rfl (Nat.le_of_ble_eq_true rfl) d_CP_count_113 ⟨Nat.zero_le _, Nat.zero_le _⟩)) (fun r_1 hr_2 => ?_)
  refine xe_i (y := (nI (cn (lead Fm al) 14))) hr_2 ?_
  exact W.iret (v := (nI (cn (lead Fm al) 14))) hx hb hr (fun t9 ht9 _ => ⟨_, rfl, rfl, ht9⟩) t_nil d_CP_count_116

set_option maxHeartbeats 4000000 in
set_option maxRecDepth 100000 in
theorem c_CP_count_7 (l : Launch) (dC : Nat → ClassId) (dI : Nat → Nat → Nat) (cI cJ cZ : ClassId) (cp g k k2 fl co sp : Nat) (a1 a2 nd ar : Nat) (pr : Int64) (F G : Nat → Nat) (hGA : GAR F G nd ar pr) (nr fr rs at_ h : Nat) (al : Int32) (br : Int64) (N Fm : Nat → Int32) (A : Nat → Int64) (b1 z : Nat) (Se : Nat → Int64) (hSK : SKI (lb pr) F G nd N Fm A Se z al br) : Met l ⟨"CutPoints", "count", "(I)I"⟩ (Cond.code ⟨"CutPoints", "count", "(I)I"⟩ prog_1_method_6_code 2 (some .int) :: TT) (rmk 4 94) (PR dC dI cI cJ cZ [.ref cp, .int (nI 7)] [(cp, .inr (0, [.ref g, .ref k, .ref k2, .ref fl, .ref co, .ref sp])), (k, .inr (2, [.ref nr, .ref fr, .ref rs, .ref at_, .ref h, .int al, .long br])), (fr, .inl (cI, 14, .inl Fm)), (at_, .inl (cJ, 14, .inr (.inl A)))]) (vp_Si (fun r => r = nI (need Fm al A br))) 0 0 (fun _ => False) := by
  refine Met.ofW (cc := prog_1_method_6_code) (maxL := 2) (ret := (some .int)) (by decide) rfl ?_
  intro p e s m args below meth c s₁ BB9 hml hv
  obtain ⟨rfl, hP, hK⟩ := hv
  have hx := BB9.exec
  have hb := BB9.bytes
  have hr := BB9.returns
  have hts : ∀ w ∈ TT, w.before _ s = true := fun w h => atoms_spec (ws := (Cond.code ⟨"CutPoints", "count", "(I)I"⟩ prog_1_method_6_code 2 (some .int) :: TT)) BB9.pre w (List.mem_cons_of_mem _ h)
  have hown : s.vm.findClass "CutPoints" = some m.cls := findClass_of_methodNamed BB9.named
  have hlocks := BB9.notSynchronized
  have hl := lv_entry ([.ref cp, .int (nI 7)]) (n := 2) (Nat.le_of_ble_eq_true rfl)
  rw [lg_entry_eq]
  generalize (lg_sl ([.ref cp, .int (nI 7)]) ++ List.replicate (2 - (lg_sl ([.ref cp, .int (nI 7)])).length) Slot.unset).toArray = ls at hl ⊢
  have hl : lv_has ls 2 [(0, .ref cp), (1, .int (nI 7))] := hl
  refine lv_iload_n hx hb d_CP_count_0 rfl (lv_at hl 1 rfl) ?_
  refine lv_tableIn (off := 116) (tgt := 117) hx hb d_CP_count_1 (by decide) (by decide) (by decide) (by decide) ?_
  refine lv_aload_n hx hb d_CP_count_117 rfl (lv_at hl 0 rfl) ?_
  refine va_get (D := (dC, dI)) (ci := 0) (v := .ref k) (C := R_CP) (T := F_CP) (N := 6) hx hb hts in_CP hown hK.1 hP 0 rfl rfl 1 (by decide) (hts _ wfl_CP_19) (fun _ h9 => h9) rfl d_CP_count_118 ?_
  refine vp_callSi (va_Run.run (k_V (n := 0) (C := R_SK) (rest := []) ⟨hx, hb, hml, hown, hts⟩ (c_SK_countNeeded l dC dI cI cJ cZ k nr fr rs at_ h al br Fm A (hSK.rw Fm)) wml_CP_104 wim_SK_countNeeded wsel_SK_countNeeded wini_SK wcode_SK_countNeeded (by decide +kernel) ⟨Nat.le_of_ble_eq_true rfl, Nat.le_of_ble_eq_true rfl⟩ (preV_R (q := (R_SK, F_SK, 7)) (ci := 2) (q0 := 0) (hP.sub (ws' := [(k, .inr (2, [.ref nr, .ref fr, .ref rs, .ref at_, .ref h, .int al, .long br])), (fr, .inl (cI, 14, .inl Fm)), (at_, .inl (cJ, 14, .inr (.inl A)))]) [1, 2, 3] rfl) hK rfl rfl) rfl hl.1 rfl (Nat.le_of_ble_eq_true rfl) d_CP_count_121 ⟨Nat.zero_le _, Nat.zero_le _⟩)) (fun r_1 hr_2 => ?_)
  refine xe_i (y := (nI (need Fm al A br))) hr_2 ?_
  exact W.iret (v := (nI (need Fm al A br))) hx hb hr (fun t9 ht9 _ => ⟨_, rfl, rfl, ht9⟩) t_nil d_CP_count_124

set_option maxHeartbeats 4000000 in
set_option maxRecDepth 100000 in
theorem c_CP_count_x (l : Launch) (dC : Nat → ClassId) (dI : Nat → Nat → Nat) (cI cJ cZ : ClassId) (cp g k k2 fl co sp : Nat) (x : Int32) (hout : x.toInt < 0 ∨ 8 < x.toInt) : Met l ⟨"CutPoints", "count", "(I)I"⟩ (Cond.code ⟨"CutPoints", "count", "(I)I"⟩ prog_1_method_6_code 2 (some .int) :: TT) (rmk 0 0) (PR dC dI cI cJ cZ [.ref cp, .int x] [(cp, .inr (0, [.ref g, .ref k, .ref k2, .ref fl, .ref co, .ref sp]))]) (vp_Si (fun r => r = -2)) 0 0 (fun _ => False) := by
  refine Met.ofW (cc := prog_1_method_6_code) (maxL := 2) (ret := (some .int)) (by decide) rfl ?_
  intro p e s m args below meth c s₁ BB9 hml hv
  obtain ⟨rfl, hP, hK⟩ := hv
  have hx := BB9.exec
  have hb := BB9.bytes
  have hr := BB9.returns
  have hts : ∀ w ∈ TT, w.before _ s = true := fun w h => atoms_spec (ws := (Cond.code ⟨"CutPoints", "count", "(I)I"⟩ prog_1_method_6_code 2 (some .int) :: TT)) BB9.pre w (List.mem_cons_of_mem _ h)
  have hown : s.vm.findClass "CutPoints" = some m.cls := findClass_of_methodNamed BB9.named
  have hlocks := BB9.notSynchronized
  have hl := lv_entry ([.ref cp, .int x]) (n := 2) (Nat.le_of_ble_eq_true rfl)
  rw [lg_entry_eq]
  generalize (lg_sl ([.ref cp, .int x]) ++ List.replicate (2 - (lg_sl ([.ref cp, .int x])).length) Slot.unset).toArray = ls at hl ⊢
  have hl : lv_has ls 2 [(0, .ref cp), (1, .int x)] := hl
  refine lv_iload_n hx hb d_CP_count_0 rfl (lv_at hl 1 rfl) ?_
  refine lv_tableOut (tgt := 136) hx hb d_CP_count_1 hout (by decide) ?_
  refine lv_bipush (v := (-2)) hx hb d_CP_count_136 (by decide) ?_
  exact W.iret (v := (-2)) hx hb hr (fun t9 ht9 _ => ⟨_, rfl, rfl, ht9⟩) t_nil d_CP_count_138

set_option maxHeartbeats 4000000 in
set_option maxRecDepth 100000 in
theorem c_CP_count_8 (l : Launch) (dC : Nat → ClassId) (dI : Nat → Nat → Nat) (cI cJ cZ : ClassId) (cp g k k2 fl co sp : Nat) (a1 a2 nd ar : Nat) (pr : Int64) (F G : Nat → Nat) (hGA : GAR F G nd ar pr) (nr fr rs at_ h : Nat) (al : Int32) (br : Int64) (N Fm : Nat → Int32) (A : Nat → Int64) (b1 z : Nat) (Se : Nat → Int64) (hSK : SKI (lb pr) F G nd N Fm A Se z al br) (R0 : Nat → Int32) : Met l ⟨"CutPoints", "count", "(I)I"⟩ (Cond.code ⟨"CutPoints", "count", "(I)I"⟩ prog_1_method_6_code 2 (some .int) :: TT) (rmk 3 67) (PM dC dI cI cJ cZ [.ref cp, .int (nI 8)] [(cp, .inr (0, [.ref g, .ref k, .ref k2, .ref fl, .ref co, .ref sp])), (k, .inr (2, [.ref nr, .ref fr, .ref rs, .ref at_, .ref h, .int al, .long br])), (nr, .inl (cI, 14, .inl N)), (rs, .inl (cI, 14, .inl R0))]) (va_Qi (S := Nat → Int32) (fun r u9 => ∃ v, r = nI v ∧ ∃ y, WR (wS al N) y ∧ v = cn (bt y) 32) (fun u9 t9 => va_P (dC, dI) cls ([(cp, .inr (0, [.ref g, .ref k, .ref k2, .ref fl, .ref co, .ref sp])), (k, .inr (2, [.ref nr, .ref fr, .ref rs, .ref at_, .ref h, .int al, .long br])), (nr, .inl (cI, 14, .inl N)), (rs, .inl (cI, 14, .inl u9))]) t9.heap) (ow [(cp, .inr (0, [.ref g, .ref k, .ref k2, .ref fl, .ref co, .ref sp])), (k, .inr (2, [.ref nr, .ref fr, .ref rs, .ref at_, .ref h, .int al, .long br])), (nr, .inl (cI, 14, .inl N)), (rs, .inl (cI, 14, .inl R0))])) 0 0 (ow [(cp, .inr (0, [.ref g, .ref k, .ref k2, .ref fl, .ref co, .ref sp])), (k, .inr (2, [.ref nr, .ref fr, .ref rs, .ref at_, .ref h, .int al, .long br])), (nr, .inl (cI, 14, .inl N)), (rs, .inl (cI, 14, .inl R0))]) := by
  refine Met.ofW (cc := prog_1_method_6_code) (maxL := 2) (ret := (some .int)) (by decide) rfl ?_
  intro p e s m args below meth c s₁ BB9 hml hv
  obtain ⟨rfl, hP, hK, hD0⟩ := hv
  have hx := BB9.exec
  have hb := BB9.bytes
  have hr := BB9.returns
  have hts : ∀ w ∈ TT, w.before _ s = true := fun w h => atoms_spec (ws := (Cond.code ⟨"CutPoints", "count", "(I)I"⟩ prog_1_method_6_code 2 (some .int) :: TT)) BB9.pre w (List.mem_cons_of_mem _ h)
  have hown : s.vm.findClass "CutPoints" = some m.cls := findClass_of_methodNamed BB9.named
  have hlocks := BB9.notSynchronized
  have hD := hD0.mine
  have hS : va_S (ow [(cp, .inr (0, [.ref g, .ref k, .ref k2, .ref fl, .ref co, .ref sp])), (k, .inr (2, [.ref nr, .ref fr, .ref rs, .ref at_, .ref h, .int al, .long br])), (nr, .inl (cI, 14, .inl N)), (rs, .inl (cI, 14, .inl R0))]) s.heap s.heap [] := va_S.rf
  have hl := lv_entry ([.ref cp, .int (nI 8)]) (n := 2) (Nat.le_of_ble_eq_true rfl)
  rw [lg_entry_eq]
  generalize (lg_sl ([.ref cp, .int (nI 8)]) ++ List.replicate (2 - (lg_sl ([.ref cp, .int (nI 8)])).length) Slot.unset).toArray = ls at hl ⊢
  have hl : lv_has ls 2 [(0, .ref cp), (1, .int (nI 8))] := hl
  refine lv_iload_n hx hb d_CP_count_0 rfl (lv_at hl 1 rfl) ?_
  refine lv_tableIn (off := 124) (tgt := 125) hx hb d_CP_count_1 (by decide) (by decide) (by decide) (by decide) ?_
  refine lv_aload_n hx hb d_CP_count_125 rfl (lv_at hl 0 rfl) ?_
  refine va_get (D := (dC, dI)) (ci := 0) (v := .ref k) (C := R_CP) (T := F_CP) (N := 6) hx hb hts in_CP hown hK.1 hP 0 rfl rfl 1 (by decide) (hts _ wfl_CP_19) (fun _ h9 => h9) rfl d_CP_count_126 ?_
  refine x_ci (k_V (n := 0) (C := R_SK) (rest := []) ⟨hx, hb, hml, hown, hts⟩ (c_SK_wear l dC dI cI cJ cZ k nr fr rs at_ h al br N R0 hSK.al14) wml_CP_107 wim_SK_wear wsel_SK_wear wini_SK wcode_SK_wear (by decide +kernel) ⟨Nat.le_of_ble_eq_true rfl, Nat.le_of_ble_eq_true rfl⟩ (preV_M (q := (R_SK, F_SK, 7)) (ci := 2) (q0 := 0) (hP.sub (ws' := [(k, .inr (2, [.ref nr, .ref fr, .ref rs, .ref at_, .ref h, .int al, .long br])), (nr, .inl (cI, 14, .inl N)), (rs, .inl (cI, 14, .inl R0))]) [1, 2, 3] rfl) hK (hD.sub (ws' := [(k, .inr (2, [.ref nr, .ref fr, .ref rs, .ref at_, .ref h, .int al, .long br])), (nr, .inl (cI, 14, .inl N)), (rs, .inl (cI, 14, .inl R0))]) [1, 2, 3] (by decide) rfl) rfl rfl) rfl hl.1 rfl (Nat.le_of_ble_eq_true rfl) d_CP_count_129 ⟨Nat.zero_le _, Nat.zero_le _⟩) hP hD hS [1, 2, 3] rfl (fun _ => rfl) (fun r_1 u_1 H locs hu_1 hP hS => ?_)
  obtain ⟨R9_1, rfl⟩ : ∃ z, z = u_1 := ⟨_, rfl⟩
  have hP : va_P (dC, dI) cls [(cp, .inr (0, [.ref g, .ref k, .ref k2, .ref fl, .ref co, .ref sp])), (k, .inr (2, [.ref nr, .ref fr, .ref rs, .ref at_, .ref h, .int al, .long br])), (nr, .inl (cI, 14, .inl N)), (rs, .inl (cI, 14, .inl R9_1))] H := hP
  have hD := hD.addr (ws' := [(cp, .inr (0, [.ref g, .ref k, .ref k2, .ref fl, .ref co, .ref sp])), (k, .inr (2, [.ref nr, .ref fr, .ref rs, .ref at_, .ref h, .int al, .long br])), (nr, .inl (cI, 14, .inl N)), (rs, .inl (cI, 14, .inl R9_1))]) rfl
  refine vp_callSi (va_Run.run (k_S (n := 1) (rest := []) ⟨hx, hb, hml, hown, hts⟩ (c_JI_bitCount l dC dI cI cJ cZ r_1) wml_CP_110 wst_JI_bitCount wini_JI wcode_JI_bitCount (by decide +kernel) ⟨Nat.le_of_ble_eq_true rfl, Nat.le_of_ble_eq_true rfl⟩ (pre_R (hP.sub (ws' := []) [] rfl) hK) rfl hl.1 rfl (Nat.le_of_ble_eq_true rfl) d_CP_count_132 ⟨Nat.zero_le _, Nat.zero_le _⟩)) (fun r_2 hr_3 => ?_)
  refine xe_i (y := (nI (cn (bt r_1) 32))) hr_3 ?_
  exact W.iret (v := (nI (cn (bt r_1) 32))) hx hb hr (fun t9 ht9 _ => ⟨⟨_, (R9_1), rfl, ⟨_, rfl, _, hu_1, rfl⟩, by show va_P (dC, dI) cls _ t9.heap; rw [ht9]; exact hP⟩, hS.F ht9⟩) hS.2.2 d_CP_count_135

theorem d_CP_worn_0 : decode prog_1_method_20_code 0 = .ok (.aload_n 0, 1) := by decide +kernel
theorem d_CP_worn_1 : decode prog_1_method_20_code 1 = .ok (.getfield 19, 3) := by decide +kernel
theorem d_CP_worn_4 : decode prog_1_method_20_code 4 = .ok (.invokevirtual 107, 3) := by decide +kernel
theorem d_CP_worn_7 : decode prog_1_method_20_code 7 = .ok (.ireturn, 1) := by decide +kernel
set_option maxHeartbeats 4000000 in
set_option maxRecDepth 100000 in
theorem c_CP_worn (l : Launch) (dC : Nat → ClassId) (dI : Nat → Nat → Nat) (cI cJ cZ : ClassId) (cp g k k2 fl co sp : Nat) (a1 a2 nd ar : Nat) (pr : Int64) (F G : Nat → Nat) (hGA : GAR F G nd ar pr) (nr fr rs at_ h : Nat) (al : Int32) (br : Int64) (N Fm : Nat → Int32) (A : Nat → Int64) (b1 z : Nat) (Se : Nat → Int64) (hSK : SKI (lb pr) F G nd N Fm A Se z al br) (R0 : Nat → Int32) : Met l ⟨"CutPoints", "worn", "()I"⟩ (Cond.code ⟨"CutPoints", "worn", "()I"⟩ prog_1_method_20_code 1 (some .int) :: TT) (rmk 3 67) (PM dC dI cI cJ cZ [.ref cp] [(cp, .inr (0, [.ref g, .ref k, .ref k2, .ref fl, .ref co, .ref sp])), (k, .inr (2, [.ref nr, .ref fr, .ref rs, .ref at_, .ref h, .int al, .long br])), (nr, .inl (cI, 14, .inl N)), (rs, .inl (cI, 14, .inl R0))]) (va_Qi (S := Nat → Int32) (fun r u9 => WR (wS al N) r) (fun u9 t9 => va_P (dC, dI) cls ([(cp, .inr (0, [.ref g, .ref k, .ref k2, .ref fl, .ref co, .ref sp])), (k, .inr (2, [.ref nr, .ref fr, .ref rs, .ref at_, .ref h, .int al, .long br])), (nr, .inl (cI, 14, .inl N)), (rs, .inl (cI, 14, .inl u9))]) t9.heap) (ow [(cp, .inr (0, [.ref g, .ref k, .ref k2, .ref fl, .ref co, .ref sp])), (k, .inr (2, [.ref nr, .ref fr, .ref rs, .ref at_, .ref h, .int al, .long br])), (nr, .inl (cI, 14, .inl N)), (rs, .inl (cI, 14, .inl R0))])) 0 0 (ow [(cp, .inr (0, [.ref g, .ref k, .ref k2, .ref fl, .ref co, .ref sp])), (k, .inr (2, [.ref nr, .ref fr, .ref rs, .ref at_, .ref h, .int al, .long br])), (nr, .inl (cI, 14, .inl N)), (rs, .inl (cI, 14, .inl R0))]) := by
  refine Met.ofW (cc := prog_1_method_20_code) (maxL := 1) (ret := (some .int)) (by decide) rfl ?_
  intro p e s m args below meth c s₁ BB9 hml hv
  obtain ⟨rfl, hP, hK, hD0⟩ := hv
  have hx := BB9.exec
  have hb := BB9.bytes
  have hr := BB9.returns
  have hts : ∀ w ∈ TT, w.before _ s = true := fun w h => atoms_spec (ws := (Cond.code ⟨"CutPoints", "worn", "()I"⟩ prog_1_method_20_code 1 (some .int) :: TT)) BB9.pre w (List.mem_cons_of_mem _ h)
  have hown : s.vm.findClass "CutPoints" = some m.cls := findClass_of_methodNamed BB9.named
  have hlocks := BB9.notSynchronized
  have hD := hD0.mine
  have hS : va_S (ow [(cp, .inr (0, [.ref g, .ref k, .ref k2, .ref fl, .ref co, .ref sp])), (k, .inr (2, [.ref nr, .ref fr, .ref rs, .ref at_, .ref h, .int al, .long br])), (nr, .inl (cI, 14, .inl N)), (rs, .inl (cI, 14, .inl R0))]) s.heap s.heap [] := va_S.rf
  have hl := lv_entry ([.ref cp]) (n := 1) (Nat.le_of_ble_eq_true rfl)
  rw [lg_entry_eq]
  generalize (lg_sl ([.ref cp]) ++ List.replicate (1 - (lg_sl ([.ref cp])).length) Slot.unset).toArray = ls at hl ⊢
  have hl : lv_has ls 1 [(0, .ref cp)] := hl
  refine lv_aload_n hx hb d_CP_worn_0 rfl (lv_at hl 0 rfl) ?_
  refine va_get (D := (dC, dI)) (ci := 0) (v := .ref k) (C := R_CP) (T := F_CP) (N := 6) hx hb hts in_CP hown hK.1 hP 0 rfl rfl 1 (by decide) (hts _ wfl_CP_19) (fun _ h9 => h9) rfl d_CP_worn_1 ?_
  refine x_ci (k_V (n := 0) (C := R_SK) (rest := []) ⟨hx, hb, hml, hown, hts⟩ (c_SK_wear l dC dI cI cJ cZ k nr fr rs at_ h al br N R0 hSK.al14) wml_CP_107 wim_SK_wear wsel_SK_wear wini_SK wcode_SK_wear (by decide +kernel) ⟨Nat.le_of_ble_eq_true rfl, Nat.le_of_ble_eq_true rfl⟩ (preV_M (q := (R_SK, F_SK, 7)) (ci := 2) (q0 := 0) (hP.sub (ws' := [(k, .inr (2, [.ref nr, .ref fr, .ref rs, .ref at_, .ref h, .int al, .long br])), (nr, .inl (cI, 14, .inl N)), (rs, .inl (cI, 14, .inl R0))]) [1, 2, 3] rfl) hK (hD.sub (ws' := [(k, .inr (2, [.ref nr, .ref fr, .ref rs, .ref at_, .ref h, .int al, .long br])), (nr, .inl (cI, 14, .inl N)), (rs, .inl (cI, 14, .inl R0))]) [1, 2, 3] (by decide) rfl) rfl rfl) rfl hl.1 rfl (Nat.le_of_ble_eq_true rfl) d_CP_worn_4 ⟨Nat.zero_le _, Nat.zero_le _⟩) hP hD hS [1, 2, 3] rfl (fun _ => rfl) (fun r_1 u_1 H locs hu_1 hP hS => ?_)
  obtain ⟨R9_1, rfl⟩ : ∃ z, z = u_1 := ⟨_, rfl⟩
  have hP : va_P (dC, dI) cls [(cp, .inr (0, [.ref g, .ref k, .ref k2, .ref fl, .ref co, .ref sp])), (k, .inr (2, [.ref nr, .ref fr, .ref rs, .ref at_, .ref h, .int al, .long br])), (nr, .inl (cI, 14, .inl N)), (rs, .inl (cI, 14, .inl R9_1))] H := hP
  have hD := hD.addr (ws' := [(cp, .inr (0, [.ref g, .ref k, .ref k2, .ref fl, .ref co, .ref sp])), (k, .inr (2, [.ref nr, .ref fr, .ref rs, .ref at_, .ref h, .int al, .long br])), (nr, .inl (cI, 14, .inl N)), (rs, .inl (cI, 14, .inl R9_1))]) rfl
  exact W.iret (v := r_1) hx hb hr (fun t9 ht9 _ => ⟨⟨_, (R9_1), rfl, hu_1, by show va_P (dC, dI) cls _ t9.heap; rw [ht9]; exact hP⟩, hS.F ht9⟩) hS.2.2 d_CP_worn_7

set_option maxHeartbeats 4000000 in
set_option maxRecDepth 100000 in
theorem c_CP_arcs_k (l : Launch) (dC : Nat → ClassId) (dI : Nat → Nat → Nat) (cI cJ cZ : ClassId) (cp g k k2 fl co sp : Nat) (a1 a2 nd ar : Nat) (pr : Int64) (F G : Nat → Nat) (hGA : GAR F G nd ar pr) (nr fr rs at_ h : Nat) (al : Int32) (br : Int64) (N Fm : Nat → Int32) (A : Nat → Int64) (b1 z : Nat) (Se : Nat → Int64) (hSK : SKI (lb pr) F G nd N Fm A Se z al br) (rm op bf : Nat) (sn0 : Int32) (g0 O0 : Nat → Int32) (B0 : Nat → Nat) (a b : Nat) (ha : a < nd) (hb_ : b < nd) (hab : a ≠ b) : Met l ⟨"CutPoints", "arcs", "(II)I"⟩ (Cond.code ⟨"CutPoints", "arcs", "(II)I"⟩ prog_1_method_12_code 4 (some .int) :: TT) (rmk 4 93) (PM dC dI cI cJ cZ [.ref cp, .int (nI a), .int (nI b)] [(cp, .inr (0, [.ref g, .ref k, .ref k2, .ref fl, .ref co, .ref sp])), (g, .inr (1, [.ref a1, .ref a2, .int (nI nd), .int (nI ar), .long pr])), (a1, .inl (cI, 41, .inl (nF F))), (a2, .inl (cI, 41, .inl (nF G))), (fl, .inr (4, [.ref rm, .ref op, .ref bf, .int sn0])), (rm, .inl (cI, 784, .inl g0)), (op, .inl (cI, 28, .inl O0)), (bf, .inl (cI, 28, .inl (nF B0)))]) (va_Qi (S := (Nat → Nat) × (Nat → Int32) × Int32 × (Nat → Nat)) (fun r u9 => ∃ fd, r = nI fd ∧ ∃ C y, ArcC F G pr C ∧ MC C a b fd y) (fun u9 t9 => va_P (dC, dI) cls ([(cp, .inr (0, [.ref g, .ref k, .ref k2, .ref fl, .ref co, .ref sp])), (g, .inr (1, [.ref a1, .ref a2, .int (nI nd), .int (nI ar), .long pr])), (a1, .inl (cI, 41, .inl (nF F))), (a2, .inl (cI, 41, .inl (nF G))), (fl, .inr (4, [.ref rm, .ref op, .ref bf, .int u9.2.2.1])), (rm, .inl (cI, 784, .inl (nF u9.1))), (op, .inl (cI, 28, .inl u9.2.1)), (bf, .inl (cI, 28, .inl (nF u9.2.2.2)))]) t9.heap) (ow [(cp, .inr (0, [.ref g, .ref k, .ref k2, .ref fl, .ref co, .ref sp])), (g, .inr (1, [.ref a1, .ref a2, .int (nI nd), .int (nI ar), .long pr])), (a1, .inl (cI, 41, .inl (nF F))), (a2, .inl (cI, 41, .inl (nF G))), (fl, .inr (4, [.ref rm, .ref op, .ref bf, .int sn0])), (rm, .inl (cI, 784, .inl g0)), (op, .inl (cI, 28, .inl O0)), (bf, .inl (cI, 28, .inl (nF B0)))])) 0 0 (ow [(cp, .inr (0, [.ref g, .ref k, .ref k2, .ref fl, .ref co, .ref sp])), (g, .inr (1, [.ref a1, .ref a2, .int (nI nd), .int (nI ar), .long pr])), (a1, .inl (cI, 41, .inl (nF F))), (a2, .inl (cI, 41, .inl (nF G))), (fl, .inr (4, [.ref rm, .ref op, .ref bf, .int sn0])), (rm, .inl (cI, 784, .inl g0)), (op, .inl (cI, 28, .inl O0)), (bf, .inl (cI, 28, .inl (nF B0)))]) := by
  refine Met.ofW (cc := prog_1_method_12_code) (maxL := 4) (ret := (some .int)) (by decide) rfl ?_
  intro p e s m args below meth c s₁ BB9 hml hv
  obtain ⟨rfl, hP, hK, hD0⟩ := hv
  have hx := BB9.exec
  have hb := BB9.bytes
  have hr := BB9.returns
  have hts : ∀ w ∈ TT, w.before _ s = true := fun w h => atoms_spec (ws := (Cond.code ⟨"CutPoints", "arcs", "(II)I"⟩ prog_1_method_12_code 4 (some .int) :: TT)) BB9.pre w (List.mem_cons_of_mem _ h)
  have hown : s.vm.findClass "CutPoints" = some m.cls := findClass_of_methodNamed BB9.named
  have hlocks := BB9.notSynchronized
  have hD := hD0.mine
  have hS : va_S (ow [(cp, .inr (0, [.ref g, .ref k, .ref k2, .ref fl, .ref co, .ref sp])), (g, .inr (1, [.ref a1, .ref a2, .int (nI nd), .int (nI ar), .long pr])), (a1, .inl (cI, 41, .inl (nF F))), (a2, .inl (cI, 41, .inl (nF G))), (fl, .inr (4, [.ref rm, .ref op, .ref bf, .int sn0])), (rm, .inl (cI, 784, .inl g0)), (op, .inl (cI, 28, .inl O0)), (bf, .inl (cI, 28, .inl (nF B0)))]) s.heap s.heap [] := va_S.rf
  have hnd14 := hGA.1
  have har40 := hGA.2.1
  have hl := lv_entry ([.ref cp, .int (nI a), .int (nI b)]) (n := 4) (Nat.le_of_ble_eq_true rfl)
  rw [lg_entry_eq]
  generalize (lg_sl ([.ref cp, .int (nI a), .int (nI b)]) ++ List.replicate (4 - (lg_sl ([.ref cp, .int (nI a), .int (nI b)])).length) Slot.unset).toArray = ls at hl ⊢
  have hl : lv_has ls 4 [(0, .ref cp), (1, .int (nI a)), (2, .int (nI b))] := hl
  refine lv_aload_n hx hb d_CP_arcs_0 rfl (lv_at hl 0 rfl) ?_
  refine lv_iload_n hx hb d_CP_arcs_1 rfl (lv_at hl 1 rfl) ?_
  refine lv_iload_n hx hb d_CP_arcs_2 rfl (lv_at hl 2 rfl) ?_
  refine vp_callSi (va_Run.run (k_V (n := 2) (C := R_CP) (rest := []) ⟨hx, hb, hml, hown, hts⟩ (c_CP_pairCode l dC dI cI cJ cZ cp g k k2 fl co sp a1 a2 nd ar pr (nI a) (nI b) (by first | assumption | omega)) wml_CP_61 wim_CP_pairCode wsel_CP_pairCode wini_CP wcode_CP_pairCode (by decide +kernel) ⟨Nat.le_of_ble_eq_true rfl, Nat.le_of_ble_eq_true rfl⟩ (preV_R (q := (R_CP, F_CP, 6)) (ci := 0) (q0 := 0) (hP.sub (ws' := [(cp, .inr (0, [.ref g, .ref k, .ref k2, .ref fl, .ref co, .ref sp])), (g, .inr (1, [.ref a1, .ref a2, .int (nI nd), .int (nI ar), .long pr]))]) [0, 1] rfl) hK rfl rfl) rfl hl.1 rfl (Nat.le_of_ble_eq_true rfl) d_CP_arcs_3 ⟨Nat.zero_le _, Nat.zero_le _⟩)) (fun r_1 hr_2 => ?_)
  refine xe_i (y := (pcd (nI a) (nI b) nd)) hr_2 ?_
  refine xe_i (y := (nI 0)) (pcd_ok hnd14 ha hb_ hab) ?_
  refine lv_istore_n (lv' := [(3, .int (nI 0)), (0, .ref cp), (1, .int (nI a)), (2, .int (nI b))]) hx hb d_CP_arcs_6 rfl hl (by decide) rfl (fun ls hl => ?_)
  refine lv_iload_n hx hb d_CP_arcs_7 rfl (lv_at hl 0 rfl) ?_
  refine lv_if_eq (tgt := 13) hx hb d_CP_arcs_8 (by decide) (fun _ => ?_) (fun c9 => absurd (by decide : ((nI 0) : Int32) = 0) c9)
  refine lv_aload_n hx hb d_CP_arcs_13 rfl (lv_at hl 1 rfl) ?_
  refine va_get (D := (dC, dI)) (ci := 0) (v := .ref fl) (C := R_CP) (T := F_CP) (N := 6) hx hb hts in_CP hown hK.1 hP 0 rfl rfl 3 (by decide) (hts _ wfl_CP_29) (fun _ h9 => h9) rfl d_CP_arcs_14 ?_
  refine lv_aload_n hx hb d_CP_arcs_17 rfl (lv_at hl 1 rfl) ?_
  refine va_get (D := (dC, dI)) (ci := 0) (v := .ref g) (C := R_CP) (T := F_CP) (N := 6) hx hb hts in_CP hown hK.1 hP 0 rfl rfl 0 (by decide) (hts _ wfl_CP_12) (fun _ h9 => h9) rfl d_CP_arcs_18 ?_
  refine x_cv (k_V (n := 1) (C := R_FL) (rest := []) ⟨hx, hb, hml, hown, hts⟩ (c_FL_layArcs l dC dI cI cJ cZ fl rm op bf sn0 g0 O0 g a1 a2 nd ar pr F G hGA.2.2.2.2.1 hGA.2.2.2.2.2) wml_CP_140 wim_FL_layArcs wsel_FL_layArcs wini_FL wcode_FL_layArcs (by decide +kernel) ⟨Nat.le_of_ble_eq_true rfl, Nat.le_of_ble_eq_true rfl⟩ (preV_M (q := (R_FL, F_FL, 4)) (ci := 4) (q0 := 0) (hP.sub (ws' := [(fl, .inr (4, [.ref rm, .ref op, .ref bf, .int sn0])), (rm, .inl (cI, 784, .inl g0)), (op, .inl (cI, 28, .inl O0)), (g, .inr (1, [.ref a1, .ref a2, .int (nI nd), .int (nI ar), .long pr])), (a1, .inl (cI, 41, .inl (nF F))), (a2, .inl (cI, 41, .inl (nF G)))]) [4, 5, 6, 1, 2, 3] rfl) hK (hD.sub (ws' := [(fl, .inr (4, [.ref rm, .ref op, .ref bf, .int sn0])), (rm, .inl (cI, 784, .inl g0)), (op, .inl (cI, 28, .inl O0)), (g, .inr (1, [.ref a1, .ref a2, .int (nI nd), .int (nI ar), .long pr])), (a1, .inl (cI, 41, .inl (nF F))), (a2, .inl (cI, 41, .inl (nF G)))]) [4, 5, 6, 1, 2, 3] (by decide) rfl) rfl rfl) rfl hl.1 rfl (Nat.le_of_ble_eq_true rfl) d_CP_arcs_21 ⟨Nat.zero_le _, Nat.zero_le _⟩) hP hD hS [4, 5, 6, 1, 2, 3] rfl (fun _ => rfl) (fun u_4 H locs hu_4 hP hS => ?_)
  obtain ⟨C9_4, O9_4⟩ := u_4
  have hP : va_P (dC, dI) cls [(cp, .inr (0, [.ref g, .ref k, .ref k2, .ref fl, .ref co, .ref sp])), (g, .inr (1, [.ref a1, .ref a2, .int (nI nd), .int (nI ar), .long pr])), (a1, .inl (cI, 41, .inl (nF F))), (a2, .inl (cI, 41, .inl (nF G))), (fl, .inr (4, [.ref rm, .ref op, .ref bf, .int sn0])), (rm, .inl (cI, 784, .inl (nF C9_4))), (op, .inl (cI, 28, .inl O9_4)), (bf, .inl (cI, 28, .inl (nF B0)))] H := hP
  have hD := hD.addr (ws' := [(cp, .inr (0, [.ref g, .ref k, .ref k2, .ref fl, .ref co, .ref sp])), (g, .inr (1, [.ref a1, .ref a2, .int (nI nd), .int (nI ar), .long pr])), (a1, .inl (cI, 41, .inl (nF F))), (a2, .inl (cI, 41, .inl (nF G))), (fl, .inr (4, [.ref rm, .ref op, .ref bf, .int sn0])), (rm, .inl (cI, 784, .inl (nF C9_4))), (op, .inl (cI, 28, .inl O9_4)), (bf, .inl (cI, 28, .inl (nF B0)))]) rfl
  refine lv_aload_n hx hb d_CP_arcs_24 rfl (lv_at hl 1 rfl) ?_
  refine va_get (D := (dC, dI)) (ci := 0) (v := .ref fl) (C := R_CP) (T := F_CP) (N := 6) hx hb hts in_CP hown hK.1 hP 0 rfl rfl 3 (by decide) (hts _ wfl_CP_29) (fun _ h9 => h9) rfl d_CP_arcs_25 ?_
  refine lv_iload_n hx hb d_CP_arcs_28 rfl (lv_at hl 2 rfl) ?_
  refine lv_iload_n hx hb d_CP_arcs_29 rfl (lv_at hl 3 rfl) ?_
  refine x_ci (k_V (n := 2) (C := R_FL) (rest := []) ⟨hx, hb, hml, hown, hts⟩ (c_FL_fill l dC dI cI cJ cZ fl rm op bf sn0 C9_4 O9_4 B0 a b (by first | assumption | omega) (by first | assumption | omega) hu_4.1 (fun p => Nat.le_trans (hu_4.2.2 p) (by decide)) (cap_a hu_4.2.1 hab)) wml_CP_144 wim_FL_fill wsel_FL_fill wini_FL wcode_FL_fill (by decide +kernel) ⟨Nat.le_of_ble_eq_true rfl, Nat.le_of_ble_eq_true rfl⟩ (preV_M (q := (R_FL, F_FL, 4)) (ci := 4) (q0 := 0) (hP.sub (ws' := [(fl, .inr (4, [.ref rm, .ref op, .ref bf, .int sn0])), (rm, .inl (cI, 784, .inl (nF C9_4))), (op, .inl (cI, 28, .inl O9_4)), (bf, .inl (cI, 28, .inl (nF B0)))]) [4, 5, 6, 7] rfl) hK (hD.sub (ws' := [(fl, .inr (4, [.ref rm, .ref op, .ref bf, .int sn0])), (rm, .inl (cI, 784, .inl (nF C9_4))), (op, .inl (cI, 28, .inl O9_4)), (bf, .inl (cI, 28, .inl (nF B0)))]) [4, 5, 6, 7] (by decide) rfl) rfl rfl) rfl hl.1 rfl (Nat.le_of_ble_eq_true rfl) d_CP_arcs_30 ⟨Nat.zero_le _, Nat.zero_le _⟩) hP hD hS [4, 5, 6, 7] rfl (fun _ => rfl) (fun r_5 u_5 H locs hu_5 hP hS => ?_)
  obtain ⟨C9_5, O9_5, sn9_5, B9_5⟩ := u_5
  have hP : va_P (dC, dI) cls [(cp, .inr (0, [.ref g, .ref k, .ref k2, .ref fl, .ref co, .ref sp])), (g, .inr (1, [.ref a1, .ref a2, .int (nI nd), .int (nI ar), .long pr])), (a1, .inl (cI, 41, .inl (nF F))), (a2, .inl (cI, 41, .inl (nF G))), (fl, .inr (4, [.ref rm, .ref op, .ref bf, .int sn9_5])), (rm, .inl (cI, 784, .inl (nF C9_5))), (op, .inl (cI, 28, .inl O9_5)), (bf, .inl (cI, 28, .inl (nF B9_5)))] H := hP
  have hD := hD.addr (ws' := [(cp, .inr (0, [.ref g, .ref k, .ref k2, .ref fl, .ref co, .ref sp])), (g, .inr (1, [.ref a1, .ref a2, .int (nI nd), .int (nI ar), .long pr])), (a1, .inl (cI, 41, .inl (nF F))), (a2, .inl (cI, 41, .inl (nF G))), (fl, .inr (4, [.ref rm, .ref op, .ref bf, .int sn9_5])), (rm, .inl (cI, 784, .inl (nF C9_5))), (op, .inl (cI, 28, .inl O9_5)), (bf, .inl (cI, 28, .inl (nF B9_5)))]) rfl
  obtain ⟨kx_6, ek_6, hk_6⟩ := hu_5
  refine xe_i (y := (nI kx_6)) ek_6 ?_
  exact W.iret (v := (nI kx_6)) hx hb hr (fun t9 ht9 _ => ⟨⟨_, (C9_5, O9_5, sn9_5, B9_5), rfl, ⟨_, rfl, _, _, hu_4.2.1, hk_6⟩, by show va_P (dC, dI) cls _ t9.heap; rw [ht9]; exact hP⟩, hS.F ht9⟩) hS.2.2 d_CP_arcs_33

set_option maxHeartbeats 4000000 in
set_option maxRecDepth 100000 in
theorem c_CP_side_k (l : Launch) (dC : Nat → ClassId) (dI : Nat → Nat → Nat) (cI cJ cZ : ClassId) (cp g k k2 fl co sp : Nat) (a1 a2 nd ar : Nat) (pr : Int64) (F G : Nat → Nat) (hGA : GAR F G nd ar pr) (nr fr rs at_ h : Nat) (al : Int32) (br : Int64) (N Fm : Nat → Int32) (A : Nat → Int64) (b1 z : Nat) (Se : Nat → Int64) (hSK : SKI (lb pr) F G nd N Fm A Se z al br) (rm op bf : Nat) (sn0 : Int32) (g0 O0 : Nat → Int32) (B0 : Nat → Nat) (a b : Nat) (ha : a < nd) (hb_ : b < nd) (hab : a ≠ b) : Met l ⟨"CutPoints", "side", "(II)I"⟩ (Cond.code ⟨"CutPoints", "side", "(II)I"⟩ prog_1_method_13_code 4 (some .int) :: TT) (rmk 4 93) (PM dC dI cI cJ cZ [.ref cp, .int (nI a), .int (nI b)] [(cp, .inr (0, [.ref g, .ref k, .ref k2, .ref fl, .ref co, .ref sp])), (g, .inr (1, [.ref a1, .ref a2, .int (nI nd), .int (nI ar), .long pr])), (a1, .inl (cI, 41, .inl (nF F))), (a2, .inl (cI, 41, .inl (nF G))), (fl, .inr (4, [.ref rm, .ref op, .ref bf, .int sn0])), (rm, .inl (cI, 784, .inl g0)), (op, .inl (cI, 28, .inl O0)), (bf, .inl (cI, 28, .inl (nF B0)))]) (va_Qi (S := (Nat → Nat) × (Nat → Int32) × Int32 × (Nat → Nat)) (fun r u9 => ∃ fd C, ArcC F G pr C ∧ MC C a b fd r) (fun u9 t9 => va_P (dC, dI) cls ([(cp, .inr (0, [.ref g, .ref k, .ref k2, .ref fl, .ref co, .ref sp])), (g, .inr (1, [.ref a1, .ref a2, .int (nI nd), .int (nI ar), .long pr])), (a1, .inl (cI, 41, .inl (nF F))), (a2, .inl (cI, 41, .inl (nF G))), (fl, .inr (4, [.ref rm, .ref op, .ref bf, .int u9.2.2.1])), (rm, .inl (cI, 784, .inl (nF u9.1))), (op, .inl (cI, 28, .inl u9.2.1)), (bf, .inl (cI, 28, .inl (nF u9.2.2.2)))]) t9.heap) (ow [(cp, .inr (0, [.ref g, .ref k, .ref k2, .ref fl, .ref co, .ref sp])), (g, .inr (1, [.ref a1, .ref a2, .int (nI nd), .int (nI ar), .long pr])), (a1, .inl (cI, 41, .inl (nF F))), (a2, .inl (cI, 41, .inl (nF G))), (fl, .inr (4, [.ref rm, .ref op, .ref bf, .int sn0])), (rm, .inl (cI, 784, .inl g0)), (op, .inl (cI, 28, .inl O0)), (bf, .inl (cI, 28, .inl (nF B0)))])) 0 0 (ow [(cp, .inr (0, [.ref g, .ref k, .ref k2, .ref fl, .ref co, .ref sp])), (g, .inr (1, [.ref a1, .ref a2, .int (nI nd), .int (nI ar), .long pr])), (a1, .inl (cI, 41, .inl (nF F))), (a2, .inl (cI, 41, .inl (nF G))), (fl, .inr (4, [.ref rm, .ref op, .ref bf, .int sn0])), (rm, .inl (cI, 784, .inl g0)), (op, .inl (cI, 28, .inl O0)), (bf, .inl (cI, 28, .inl (nF B0)))]) := by
  refine Met.ofW (cc := prog_1_method_13_code) (maxL := 4) (ret := (some .int)) (by decide) rfl ?_
  intro p e s m args below meth c s₁ BB9 hml hv
  obtain ⟨rfl, hP, hK, hD0⟩ := hv
  have hx := BB9.exec
  have hb := BB9.bytes
  have hr := BB9.returns
  have hts : ∀ w ∈ TT, w.before _ s = true := fun w h => atoms_spec (ws := (Cond.code ⟨"CutPoints", "side", "(II)I"⟩ prog_1_method_13_code 4 (some .int) :: TT)) BB9.pre w (List.mem_cons_of_mem _ h)
  have hown : s.vm.findClass "CutPoints" = some m.cls := findClass_of_methodNamed BB9.named
  have hlocks := BB9.notSynchronized
  have hD := hD0.mine
  have hS : va_S (ow [(cp, .inr (0, [.ref g, .ref k, .ref k2, .ref fl, .ref co, .ref sp])), (g, .inr (1, [.ref a1, .ref a2, .int (nI nd), .int (nI ar), .long pr])), (a1, .inl (cI, 41, .inl (nF F))), (a2, .inl (cI, 41, .inl (nF G))), (fl, .inr (4, [.ref rm, .ref op, .ref bf, .int sn0])), (rm, .inl (cI, 784, .inl g0)), (op, .inl (cI, 28, .inl O0)), (bf, .inl (cI, 28, .inl (nF B0)))]) s.heap s.heap [] := va_S.rf
  have hnd14 := hGA.1
  have har40 := hGA.2.1
  have hl := lv_entry ([.ref cp, .int (nI a), .int (nI b)]) (n := 4) (Nat.le_of_ble_eq_true rfl)
  rw [lg_entry_eq]
  generalize (lg_sl ([.ref cp, .int (nI a), .int (nI b)]) ++ List.replicate (4 - (lg_sl ([.ref cp, .int (nI a), .int (nI b)])).length) Slot.unset).toArray = ls at hl ⊢
  have hl : lv_has ls 4 [(0, .ref cp), (1, .int (nI a)), (2, .int (nI b))] := hl
  refine lv_aload_n hx hb d_CP_side_0 rfl (lv_at hl 0 rfl) ?_
  refine lv_iload_n hx hb d_CP_side_1 rfl (lv_at hl 1 rfl) ?_
  refine lv_iload_n hx hb d_CP_side_2 rfl (lv_at hl 2 rfl) ?_
  refine vp_callSi (va_Run.run (k_V (n := 2) (C := R_CP) (rest := []) ⟨hx, hb, hml, hown, hts⟩ (c_CP_pairCode l dC dI cI cJ cZ cp g k k2 fl co sp a1 a2 nd ar pr (nI a) (nI b) (by first | assumption | omega)) wml_CP_61 wim_CP_pairCode wsel_CP_pairCode wini_CP wcode_CP_pairCode (by decide +kernel) ⟨Nat.le_of_ble_eq_true rfl, Nat.le_of_ble_eq_true rfl⟩ (preV_R (q := (R_CP, F_CP, 6)) (ci := 0) (q0 := 0) (hP.sub (ws' := [(cp, .inr (0, [.ref g, .ref k, .ref k2, .ref fl, .ref co, .ref sp])), (g, .inr (1, [.ref a1, .ref a2, .int (nI nd), .int (nI ar), .long pr]))]) [0, 1] rfl) hK rfl rfl) rfl hl.1 rfl (Nat.le_of_ble_eq_true rfl) d_CP_side_3 ⟨Nat.zero_le _, Nat.zero_le _⟩)) (fun r_1 hr_2 => ?_)
  refine xe_i (y := (pcd (nI a) (nI b) nd)) hr_2 ?_
  refine xe_i (y := (nI 0)) (pcd_ok hnd14 ha hb_ hab) ?_
  refine lv_istore_n (lv' := [(3, .int (nI 0)), (0, .ref cp), (1, .int (nI a)), (2, .int (nI b))]) hx hb d_CP_side_6 rfl hl (by decide) rfl (fun ls hl => ?_)
  refine lv_iload_n hx hb d_CP_side_7 rfl (lv_at hl 0 rfl) ?_
  refine lv_if_eq (tgt := 13) hx hb d_CP_side_8 (by decide) (fun _ => ?_) (fun c9 => absurd (by decide : ((nI 0) : Int32) = 0) c9)
  refine lv_aload_n hx hb d_CP_side_13 rfl (lv_at hl 1 rfl) ?_
  refine va_get (D := (dC, dI)) (ci := 0) (v := .ref fl) (C := R_CP) (T := F_CP) (N := 6) hx hb hts in_CP hown hK.1 hP 0 rfl rfl 3 (by decide) (hts _ wfl_CP_29) (fun _ h9 => h9) rfl d_CP_side_14 ?_
  refine lv_aload_n hx hb d_CP_side_17 rfl (lv_at hl 1 rfl) ?_
  refine va_get (D := (dC, dI)) (ci := 0) (v := .ref g) (C := R_CP) (T := F_CP) (N := 6) hx hb hts in_CP hown hK.1 hP 0 rfl rfl 0 (by decide) (hts _ wfl_CP_12) (fun _ h9 => h9) rfl d_CP_side_18 ?_
  refine x_cv (k_V (n := 1) (C := R_FL) (rest := []) ⟨hx, hb, hml, hown, hts⟩ (c_FL_layArcs l dC dI cI cJ cZ fl rm op bf sn0 g0 O0 g a1 a2 nd ar pr F G hGA.2.2.2.2.1 hGA.2.2.2.2.2) wml_CP_140 wim_FL_layArcs wsel_FL_layArcs wini_FL wcode_FL_layArcs (by decide +kernel) ⟨Nat.le_of_ble_eq_true rfl, Nat.le_of_ble_eq_true rfl⟩ (preV_M (q := (R_FL, F_FL, 4)) (ci := 4) (q0 := 0) (hP.sub (ws' := [(fl, .inr (4, [.ref rm, .ref op, .ref bf, .int sn0])), (rm, .inl (cI, 784, .inl g0)), (op, .inl (cI, 28, .inl O0)), (g, .inr (1, [.ref a1, .ref a2, .int (nI nd), .int (nI ar), .long pr])), (a1, .inl (cI, 41, .inl (nF F))), (a2, .inl (cI, 41, .inl (nF G)))]) [4, 5, 6, 1, 2, 3] rfl) hK (hD.sub (ws' := [(fl, .inr (4, [.ref rm, .ref op, .ref bf, .int sn0])), (rm, .inl (cI, 784, .inl g0)), (op, .inl (cI, 28, .inl O0)), (g, .inr (1, [.ref a1, .ref a2, .int (nI nd), .int (nI ar), .long pr])), (a1, .inl (cI, 41, .inl (nF F))), (a2, .inl (cI, 41, .inl (nF G)))]) [4, 5, 6, 1, 2, 3] (by decide) rfl) rfl rfl) rfl hl.1 rfl (Nat.le_of_ble_eq_true rfl) d_CP_side_21 ⟨Nat.zero_le _, Nat.zero_le _⟩) hP hD hS [4, 5, 6, 1, 2, 3] rfl (fun _ => rfl) (fun u_4 H locs hu_4 hP hS => ?_)
  obtain ⟨C9_4, O9_4⟩ := u_4
  have hP : va_P (dC, dI) cls [(cp, .inr (0, [.ref g, .ref k, .ref k2, .ref fl, .ref co, .ref sp])), (g, .inr (1, [.ref a1, .ref a2, .int (nI nd), .int (nI ar), .long pr])), (a1, .inl (cI, 41, .inl (nF F))), (a2, .inl (cI, 41, .inl (nF G))), (fl, .inr (4, [.ref rm, .ref op, .ref bf, .int sn0])), (rm, .inl (cI, 784, .inl (nF C9_4))), (op, .inl (cI, 28, .inl O9_4)), (bf, .inl (cI, 28, .inl (nF B0)))] H := hP
  have hD := hD.addr (ws' := [(cp, .inr (0, [.ref g, .ref k, .ref k2, .ref fl, .ref co, .ref sp])), (g, .inr (1, [.ref a1, .ref a2, .int (nI nd), .int (nI ar), .long pr])), (a1, .inl (cI, 41, .inl (nF F))), (a2, .inl (cI, 41, .inl (nF G))), (fl, .inr (4, [.ref rm, .ref op, .ref bf, .int sn0])), (rm, .inl (cI, 784, .inl (nF C9_4))), (op, .inl (cI, 28, .inl O9_4)), (bf, .inl (cI, 28, .inl (nF B0)))]) rfl
  refine lv_aload_n hx hb d_CP_side_24 rfl (lv_at hl 1 rfl) ?_
  refine va_get (D := (dC, dI)) (ci := 0) (v := .ref fl) (C := R_CP) (T := F_CP) (N := 6) hx hb hts in_CP hown hK.1 hP 0 rfl rfl 3 (by decide) (hts _ wfl_CP_29) (fun _ h9 => h9) rfl d_CP_side_25 ?_
  refine lv_iload_n hx hb d_CP_side_28 rfl (lv_at hl 2 rfl) ?_
  refine lv_iload_n hx hb d_CP_side_29 rfl (lv_at hl 3 rfl) ?_
  refine x_ci (k_V (n := 2) (C := R_FL) (rest := []) ⟨hx, hb, hml, hown, hts⟩ (c_FL_fill l dC dI cI cJ cZ fl rm op bf sn0 C9_4 O9_4 B0 a b (by first | assumption | omega) (by first | assumption | omega) hu_4.1 (fun p => Nat.le_trans (hu_4.2.2 p) (by decide)) (cap_a hu_4.2.1 hab)) wml_CP_144 wim_FL_fill wsel_FL_fill wini_FL wcode_FL_fill (by decide +kernel) ⟨Nat.le_of_ble_eq_true rfl, Nat.le_of_ble_eq_true rfl⟩ (preV_M (q := (R_FL, F_FL, 4)) (ci := 4) (q0 := 0) (hP.sub (ws' := [(fl, .inr (4, [.ref rm, .ref op, .ref bf, .int sn0])), (rm, .inl (cI, 784, .inl (nF C9_4))), (op, .inl (cI, 28, .inl O9_4)), (bf, .inl (cI, 28, .inl (nF B0)))]) [4, 5, 6, 7] rfl) hK (hD.sub (ws' := [(fl, .inr (4, [.ref rm, .ref op, .ref bf, .int sn0])), (rm, .inl (cI, 784, .inl (nF C9_4))), (op, .inl (cI, 28, .inl O9_4)), (bf, .inl (cI, 28, .inl (nF B0)))]) [4, 5, 6, 7] (by decide) rfl) rfl rfl) rfl hl.1 rfl (Nat.le_of_ble_eq_true rfl) d_CP_side_30 ⟨Nat.zero_le _, Nat.zero_le _⟩) hP hD hS [4, 5, 6, 7] rfl (fun _ => rfl) (fun r_5 u_5 H locs hu_5 hP hS => ?_)
  obtain ⟨C9_5, O9_5, sn9_5, B9_5⟩ := u_5
  have hP : va_P (dC, dI) cls [(cp, .inr (0, [.ref g, .ref k, .ref k2, .ref fl, .ref co, .ref sp])), (g, .inr (1, [.ref a1, .ref a2, .int (nI nd), .int (nI ar), .long pr])), (a1, .inl (cI, 41, .inl (nF F))), (a2, .inl (cI, 41, .inl (nF G))), (fl, .inr (4, [.ref rm, .ref op, .ref bf, .int sn9_5])), (rm, .inl (cI, 784, .inl (nF C9_5))), (op, .inl (cI, 28, .inl O9_5)), (bf, .inl (cI, 28, .inl (nF B9_5)))] H := hP
  have hD := hD.addr (ws' := [(cp, .inr (0, [.ref g, .ref k, .ref k2, .ref fl, .ref co, .ref sp])), (g, .inr (1, [.ref a1, .ref a2, .int (nI nd), .int (nI ar), .long pr])), (a1, .inl (cI, 41, .inl (nF F))), (a2, .inl (cI, 41, .inl (nF G))), (fl, .inr (4, [.ref rm, .ref op, .ref bf, .int sn9_5])), (rm, .inl (cI, 784, .inl (nF C9_5))), (op, .inl (cI, 28, .inl O9_5)), (bf, .inl (cI, 28, .inl (nF B9_5)))]) rfl
  obtain ⟨kx_6, ek_6, hk_6⟩ := hu_5
  refine xe_i (y := (nI kx_6)) ek_6 ?_
  refine lv_pop hx hb d_CP_side_33 rfl ?_
  refine lv_aload_n hx hb d_CP_side_34 rfl (lv_at hl 1 rfl) ?_
  refine va_get (D := (dC, dI)) (ci := 0) (v := .ref fl) (C := R_CP) (T := F_CP) (N := 6) hx hb hts in_CP hown hK.1 hP 0 rfl rfl 3 (by decide) (hts _ wfl_CP_29) (fun _ h9 => h9) rfl d_CP_side_35 ?_
  refine va_get (D := (dC, dI)) (ci := 4) (v := .int sn9_5) (C := R_FL) (T := F_FL) (N := 4) hx hb hts in_FL hown hK.1 hP 4 rfl rfl 3 (by decide) (hts _ wfl_CP_147) (fun _ h9 => h9) rfl d_CP_side_38 ?_
  exact W.iret (v := sn9_5) hx hb hr (fun t9 ht9 _ => ⟨⟨_, (C9_5, O9_5, sn9_5, B9_5), rfl, ⟨_, _, hu_4.2.1, hk_6⟩, by show va_P (dC, dI) cls _ t9.heap; rw [ht9]; exact hP⟩, hS.F ht9⟩) hS.2.2 d_CP_side_41

set_option maxHeartbeats 4000000 in
set_option maxRecDepth 100000 in
theorem c_CP_nodes_a (l : Launch) (dC : Nat → ClassId) (dI : Nat → Nat → Nat) (cI cJ cZ : ClassId) (cp g k k2 fl co sp : Nat) (a1 a2 nd ar : Nat) (pr : Int64) (F G : Nat → Nat) (hGA : GAR F G nd ar pr) (nr fr rs at_ h : Nat) (al : Int32) (br : Int64) (N Fm : Nat → Int32) (A : Nat → Int64) (b1 z : Nat) (Se : Nat → Int64) (hSK : SKI (lb pr) F G nd N Fm A Se z al br) (a b : Nat) (ha : a < nd) (hb_ : b < nd) (hab : a ≠ b) (hadj : bt (N a) b = true) : Met l ⟨"CutPoints", "nodes", "(II)I"⟩ (Cond.code ⟨"CutPoints", "nodes", "(II)I"⟩ prog_1_method_14_code 4 (some .int) :: TT) (rmk 2 43) (PR dC dI cI cJ cZ [.ref cp, .int (nI a), .int (nI b)] [(cp, .inr (0, [.ref g, .ref k, .ref k2, .ref fl, .ref co, .ref sp])), (g, .inr (1, [.ref a1, .ref a2, .int (nI nd), .int (nI ar), .long pr])), (k, .inr (2, [.ref nr, .ref fr, .ref rs, .ref at_, .ref h, .int al, .long br])), (nr, .inl (cI, 14, .inl N))]) (vp_Si (fun r => r = -3)) 0 0 (fun _ => False) := by
  refine Met.ofW (cc := prog_1_method_14_code) (maxL := 4) (ret := (some .int)) (by decide) rfl ?_
  intro p e s m args below meth c s₁ BB9 hml hv
  obtain ⟨rfl, hP, hK⟩ := hv
  have hx := BB9.exec
  have hb := BB9.bytes
  have hr := BB9.returns
  have hts : ∀ w ∈ TT, w.before _ s = true := fun w h => atoms_spec (ws := (Cond.code ⟨"CutPoints", "nodes", "(II)I"⟩ prog_1_method_14_code 4 (some .int) :: TT)) BB9.pre w (List.mem_cons_of_mem _ h)
  have hown : s.vm.findClass "CutPoints" = some m.cls := findClass_of_methodNamed BB9.named
  have hlocks := BB9.notSynchronized
  have hnd14 := hGA.1
  have har40 := hGA.2.1
  have hl := lv_entry ([.ref cp, .int (nI a), .int (nI b)]) (n := 4) (Nat.le_of_ble_eq_true rfl)
  rw [lg_entry_eq]
  generalize (lg_sl ([.ref cp, .int (nI a), .int (nI b)]) ++ List.replicate (4 - (lg_sl ([.ref cp, .int (nI a), .int (nI b)])).length) Slot.unset).toArray = ls at hl ⊢
  have hl : lv_has ls 4 [(0, .ref cp), (1, .int (nI a)), (2, .int (nI b))] := hl
  refine lv_aload_n hx hb d_CP_nodes_0 rfl (lv_at hl 0 rfl) ?_
  refine lv_iload_n hx hb d_CP_nodes_1 rfl (lv_at hl 1 rfl) ?_
  refine lv_iload_n hx hb d_CP_nodes_2 rfl (lv_at hl 2 rfl) ?_
  refine vp_callSi (va_Run.run (k_V (n := 2) (C := R_CP) (rest := []) ⟨hx, hb, hml, hown, hts⟩ (c_CP_pairCode l dC dI cI cJ cZ cp g k k2 fl co sp a1 a2 nd ar pr (nI a) (nI b) (by first | assumption | omega)) wml_CP_61 wim_CP_pairCode wsel_CP_pairCode wini_CP wcode_CP_pairCode (by decide +kernel) ⟨Nat.le_of_ble_eq_true rfl, Nat.le_of_ble_eq_true rfl⟩ (preV_R (q := (R_CP, F_CP, 6)) (ci := 0) (q0 := 0) (hP.sub (ws' := [(cp, .inr (0, [.ref g, .ref k, .ref k2, .ref fl, .ref co, .ref sp])), (g, .inr (1, [.ref a1, .ref a2, .int (nI nd), .int (nI ar), .long pr]))]) [0, 1] rfl) hK rfl rfl) rfl hl.1 rfl (Nat.le_of_ble_eq_true rfl) d_CP_nodes_3 ⟨Nat.zero_le _, Nat.zero_le _⟩)) (fun r_1 hr_2 => ?_)
  refine xe_i (y := (pcd (nI a) (nI b) nd)) hr_2 ?_
  refine xe_i (y := (nI 0)) (pcd_ok hnd14 ha hb_ hab) ?_
  refine lv_istore_n (lv' := [(3, .int (nI 0)), (0, .ref cp), (1, .int (nI a)), (2, .int (nI b))]) hx hb d_CP_nodes_6 rfl hl (by decide) rfl (fun ls hl => ?_)
  refine lv_iload_n hx hb d_CP_nodes_7 rfl (lv_at hl 0 rfl) ?_
  refine lv_if_eq (tgt := 13) hx hb d_CP_nodes_8 (by decide) (fun _ => ?_) (fun c9 => absurd (by decide : ((nI 0) : Int32) = 0) c9)
  refine lv_aload_n hx hb d_CP_nodes_13 rfl (lv_at hl 1 rfl) ?_
  refine va_get (D := (dC, dI)) (ci := 0) (v := .ref k) (C := R_CP) (T := F_CP) (N := 6) hx hb hts in_CP hown hK.1 hP 0 rfl rfl 1 (by decide) (hts _ wfl_CP_19) (fun _ h9 => h9) rfl d_CP_nodes_14 ?_
  refine va_get (D := (dC, dI)) (ci := 2) (v := .ref nr) (C := R_SK) (T := F_SK) (N := 7) hx hb hts in_SK hown hK.1 hP 2 rfl rfl 0 (by decide) (hts _ wfl_CP_150) (fun _ h9 => h9) rfl d_CP_nodes_17 ?_
  refine lv_iload_n hx hb d_CP_nodes_20 rfl (lv_at hl 2 rfl) ?_
  refine x_iald (n := 14) (f := N) (j := a) hx hb hK.1 hP 3 0 rfl rfl (by omega) (by omega) d_CP_nodes_21 ?_
  refine lv_i2l (v := ((N a).toInt64)) hx hb d_CP_nodes_22 rfl ?_
  refine lv_iload_n hx hb d_CP_nodes_23 rfl (lv_at hl 3 rfl) ?_
  refine vp_callSi (va_Run.run (k_S (n := 2) (rest := []) ⟨hx, hb, hml, hown, hts⟩ (c_CP_hasBit l dC dI cI cJ cZ ((N a).toInt64) b (by first | assumption | omega)) wml_CP_124 wst_CP_hasBit wini_CP wcode_CP_hasBit (by decide +kernel) ⟨Nat.le_of_ble_eq_true rfl, Nat.le_of_ble_eq_true rfl⟩ (pre_R (hP.sub (ws' := []) [] rfl) hK) rfl hl.1 rfl (Nat.le_of_ble_eq_true rfl) d_CP_nodes_24 ⟨Nat.zero_le _, Nat.zero_le _⟩)) (fun r_4 hr_5 => ?_)
  refine xe_i (y := (bI (lb ((N a).toInt64) b))) hr_5 ?_
  refine xe_i (y := (bI (bt (N a) b))) (by rw [lb_i2l _ (by omega)]) ?_
  refine x_if_eq (tgt := 33) hx hb d_CP_nodes_27 (by decide) (fun c_6 => ?_) (fun c_6 => ?_)
  · skip
    rw [hadj] at c_6; cases c_6
  · skip
    refine lv_bipush (v := (-3)) hx hb d_CP_nodes_30 (by decide) ?_
    exact W.iret (v := (-3)) hx hb hr (fun t9 ht9 _ => ⟨_, rfl, rfl, ht9⟩) t_nil d_CP_nodes_32

set_option maxHeartbeats 4000000 in
set_option maxRecDepth 100000 in
theorem c_CP_nodes_k (l : Launch) (dC : Nat → ClassId) (dI : Nat → Nat → Nat) (cI cJ cZ : ClassId) (cp g k k2 fl co sp : Nat) (a1 a2 nd ar : Nat) (pr : Int64) (F G : Nat → Nat) (hGA : GAR F G nd ar pr) (nr fr rs at_ h : Nat) (al : Int32) (br : Int64) (N Fm : Nat → Int32) (A : Nat → Int64) (b1 z : Nat) (Se : Nat → Int64) (hSK : SKI (lb pr) F G nd N Fm A Se z al br) (rm op bf : Nat) (sn0 : Int32) (g0 O0 : Nat → Int32) (B0 : Nat → Nat) (a b : Nat) (ha : a < nd) (hb_ : b < nd) (hab : a ≠ b) (hadj : bt (N a) b = false) : Met l ⟨"CutPoints", "nodes", "(II)I"⟩ (Cond.code ⟨"CutPoints", "nodes", "(II)I"⟩ prog_1_method_14_code 4 (some .int) :: TT) (rmk 4 93) (PM dC dI cI cJ cZ [.ref cp, .int (nI a), .int (nI b)] [(cp, .inr (0, [.ref g, .ref k, .ref k2, .ref fl, .ref co, .ref sp])), (g, .inr (1, [.ref a1, .ref a2, .int (nI nd), .int (nI ar), .long pr])), (fl, .inr (4, [.ref rm, .ref op, .ref bf, .int sn0])), (rm, .inl (cI, 784, .inl g0)), (op, .inl (cI, 28, .inl O0)), (bf, .inl (cI, 28, .inl (nF B0))), (k, .inr (2, [.ref nr, .ref fr, .ref rs, .ref at_, .ref h, .int al, .long br])), (nr, .inl (cI, 14, .inl N))]) (va_Qi (S := (Nat → Nat) × (Nat → Int32) × Int32 × (Nat → Nat)) (fun r u9 => ∃ fd, r = nI fd ∧ ∃ C y, NodC N C ∧ MC C (a + 14) b fd y) (fun u9 t9 => va_P (dC, dI) cls ([(cp, .inr (0, [.ref g, .ref k, .ref k2, .ref fl, .ref co, .ref sp])), (g, .inr (1, [.ref a1, .ref a2, .int (nI nd), .int (nI ar), .long pr])), (fl, .inr (4, [.ref rm, .ref op, .ref bf, .int u9.2.2.1])), (rm, .inl (cI, 784, .inl (nF u9.1))), (op, .inl (cI, 28, .inl u9.2.1)), (bf, .inl (cI, 28, .inl (nF u9.2.2.2))), (k, .inr (2, [.ref nr, .ref fr, .ref rs, .ref at_, .ref h, .int al, .long br])), (nr, .inl (cI, 14, .inl N))]) t9.heap) (ow [(cp, .inr (0, [.ref g, .ref k, .ref k2, .ref fl, .ref co, .ref sp])), (g, .inr (1, [.ref a1, .ref a2, .int (nI nd), .int (nI ar), .long pr])), (fl, .inr (4, [.ref rm, .ref op, .ref bf, .int sn0])), (rm, .inl (cI, 784, .inl g0)), (op, .inl (cI, 28, .inl O0)), (bf, .inl (cI, 28, .inl (nF B0))), (k, .inr (2, [.ref nr, .ref fr, .ref rs, .ref at_, .ref h, .int al, .long br])), (nr, .inl (cI, 14, .inl N))])) 0 0 (ow [(cp, .inr (0, [.ref g, .ref k, .ref k2, .ref fl, .ref co, .ref sp])), (g, .inr (1, [.ref a1, .ref a2, .int (nI nd), .int (nI ar), .long pr])), (fl, .inr (4, [.ref rm, .ref op, .ref bf, .int sn0])), (rm, .inl (cI, 784, .inl g0)), (op, .inl (cI, 28, .inl O0)), (bf, .inl (cI, 28, .inl (nF B0))), (k, .inr (2, [.ref nr, .ref fr, .ref rs, .ref at_, .ref h, .int al, .long br])), (nr, .inl (cI, 14, .inl N))]) := by
  refine Met.ofW (cc := prog_1_method_14_code) (maxL := 4) (ret := (some .int)) (by decide) rfl ?_
  intro p e s m args below meth c s₁ BB9 hml hv
  obtain ⟨rfl, hP, hK, hD0⟩ := hv
  have hx := BB9.exec
  have hb := BB9.bytes
  have hr := BB9.returns
  have hts : ∀ w ∈ TT, w.before _ s = true := fun w h => atoms_spec (ws := (Cond.code ⟨"CutPoints", "nodes", "(II)I"⟩ prog_1_method_14_code 4 (some .int) :: TT)) BB9.pre w (List.mem_cons_of_mem _ h)
  have hown : s.vm.findClass "CutPoints" = some m.cls := findClass_of_methodNamed BB9.named
  have hlocks := BB9.notSynchronized
  have hD := hD0.mine
  have hS : va_S (ow [(cp, .inr (0, [.ref g, .ref k, .ref k2, .ref fl, .ref co, .ref sp])), (g, .inr (1, [.ref a1, .ref a2, .int (nI nd), .int (nI ar), .long pr])), (fl, .inr (4, [.ref rm, .ref op, .ref bf, .int sn0])), (rm, .inl (cI, 784, .inl g0)), (op, .inl (cI, 28, .inl O0)), (bf, .inl (cI, 28, .inl (nF B0))), (k, .inr (2, [.ref nr, .ref fr, .ref rs, .ref at_, .ref h, .int al, .long br])), (nr, .inl (cI, 14, .inl N))]) s.heap s.heap [] := va_S.rf
  have hnd14 := hGA.1
  have har40 := hGA.2.1
  have hl := lv_entry ([.ref cp, .int (nI a), .int (nI b)]) (n := 4) (Nat.le_of_ble_eq_true rfl)
  rw [lg_entry_eq]
  generalize (lg_sl ([.ref cp, .int (nI a), .int (nI b)]) ++ List.replicate (4 - (lg_sl ([.ref cp, .int (nI a), .int (nI b)])).length) Slot.unset).toArray = ls at hl ⊢
  have hl : lv_has ls 4 [(0, .ref cp), (1, .int (nI a)), (2, .int (nI b))] := hl
  refine lv_aload_n hx hb d_CP_nodes_0 rfl (lv_at hl 0 rfl) ?_
  refine lv_iload_n hx hb d_CP_nodes_1 rfl (lv_at hl 1 rfl) ?_
  refine lv_iload_n hx hb d_CP_nodes_2 rfl (lv_at hl 2 rfl) ?_
  refine vp_callSi (va_Run.run (k_V (n := 2) (C := R_CP) (rest := []) ⟨hx, hb, hml, hown, hts⟩ (c_CP_pairCode l dC dI cI cJ cZ cp g k k2 fl co sp a1 a2 nd ar pr (nI a) (nI b) (by first | assumption | omega)) wml_CP_61 wim_CP_pairCode wsel_CP_pairCode wini_CP wcode_CP_pairCode (by decide +kernel) ⟨Nat.le_of_ble_eq_true rfl, Nat.le_of_ble_eq_true rfl⟩ (preV_R (q := (R_CP, F_CP, 6)) (ci := 0) (q0 := 0) (hP.sub (ws' := [(cp, .inr (0, [.ref g, .ref k, .ref k2, .ref fl, .ref co, .ref sp])), (g, .inr (1, [.ref a1, .ref a2, .int (nI nd), .int (nI ar), .long pr]))]) [0, 1] rfl) hK rfl rfl) rfl hl.1 rfl (Nat.le_of_ble_eq_true rfl) d_CP_nodes_3 ⟨Nat.zero_le _, Nat.zero_le _⟩)) (fun r_1 hr_2 => ?_)
  refine xe_i (y := (pcd (nI a) (nI b) nd)) hr_2 ?_
  refine xe_i (y := (nI 0)) (pcd_ok hnd14 ha hb_ hab) ?_
  refine lv_istore_n (lv' := [(3, .int (nI 0)), (0, .ref cp), (1, .int (nI a)), (2, .int (nI b))]) hx hb d_CP_nodes_6 rfl hl (by decide) rfl (fun ls hl => ?_)
  refine lv_iload_n hx hb d_CP_nodes_7 rfl (lv_at hl 0 rfl) ?_
  refine lv_if_eq (tgt := 13) hx hb d_CP_nodes_8 (by decide) (fun _ => ?_) (fun c9 => absurd (by decide : ((nI 0) : Int32) = 0) c9)
  refine lv_aload_n hx hb d_CP_nodes_13 rfl (lv_at hl 1 rfl) ?_
  refine va_get (D := (dC, dI)) (ci := 0) (v := .ref k) (C := R_CP) (T := F_CP) (N := 6) hx hb hts in_CP hown hK.1 hP 0 rfl rfl 1 (by decide) (hts _ wfl_CP_19) (fun _ h9 => h9) rfl d_CP_nodes_14 ?_
  refine va_get (D := (dC, dI)) (ci := 2) (v := .ref nr) (C := R_SK) (T := F_SK) (N := 7) hx hb hts in_SK hown hK.1 hP 6 rfl rfl 0 (by decide) (hts _ wfl_CP_150) (fun _ h9 => h9) rfl d_CP_nodes_17 ?_
  refine lv_iload_n hx hb d_CP_nodes_20 rfl (lv_at hl 2 rfl) ?_
  refine x_iald (n := 14) (f := N) (j := a) hx hb hK.1 hP 7 0 rfl rfl (by omega) (by omega) d_CP_nodes_21 ?_
  refine lv_i2l (v := ((N a).toInt64)) hx hb d_CP_nodes_22 rfl ?_
  refine lv_iload_n hx hb d_CP_nodes_23 rfl (lv_at hl 3 rfl) ?_
  refine vp_callSi (va_Run.run (k_S (n := 2) (rest := []) ⟨hx, hb, hml, hown, hts⟩ (c_CP_hasBit l dC dI cI cJ cZ ((N a).toInt64) b (by first | assumption | omega)) wml_CP_124 wst_CP_hasBit wini_CP wcode_CP_hasBit (by decide +kernel) ⟨Nat.le_of_ble_eq_true rfl, Nat.le_of_ble_eq_true rfl⟩ (pre_R (hP.sub (ws' := []) [] rfl) hK) rfl hl.1 rfl (Nat.le_of_ble_eq_true rfl) d_CP_nodes_24 ⟨Nat.zero_le _, Nat.zero_le _⟩)) (fun r_4 hr_5 => ?_)
  refine xe_i (y := (bI (lb ((N a).toInt64) b))) hr_5 ?_
  refine xe_i (y := (bI (bt (N a) b))) (by rw [lb_i2l _ (by omega)]) ?_
  refine x_if_eq (tgt := 33) hx hb d_CP_nodes_27 (by decide) (fun c_6 => ?_) (fun c_6 => ?_)
  · skip
    refine lv_aload_n hx hb d_CP_nodes_33 rfl (lv_at hl 1 rfl) ?_
    refine va_get (D := (dC, dI)) (ci := 0) (v := .ref fl) (C := R_CP) (T := F_CP) (N := 6) hx hb hts in_CP hown hK.1 hP 0 rfl rfl 3 (by decide) (hts _ wfl_CP_29) (fun _ h9 => h9) rfl d_CP_nodes_34 ?_
    refine lv_aload_n hx hb d_CP_nodes_37 rfl (lv_at hl 1 rfl) ?_
    refine va_get (D := (dC, dI)) (ci := 0) (v := .ref k) (C := R_CP) (T := F_CP) (N := 6) hx hb hts in_CP hown hK.1 hP 0 rfl rfl 1 (by decide) (hts _ wfl_CP_19) (fun _ h9 => h9) rfl d_CP_nodes_38 ?_
    refine x_cv (k_V (n := 1) (C := R_FL) (rest := []) ⟨hx, hb, hml, hown, hts⟩ (c_FL_layNodes l dC dI cI cJ cZ fl rm op bf sn0 g0 O0 k nr fr rs at_ h al br N) wml_CP_154 wim_FL_layNodes wsel_FL_layNodes wini_FL wcode_FL_layNodes (by decide +kernel) ⟨Nat.le_of_ble_eq_true rfl, Nat.le_of_ble_eq_true rfl⟩ (preV_M (q := (R_FL, F_FL, 4)) (ci := 4) (q0 := 0) (hP.sub (ws' := [(fl, .inr (4, [.ref rm, .ref op, .ref bf, .int sn0])), (rm, .inl (cI, 784, .inl g0)), (op, .inl (cI, 28, .inl O0)), (k, .inr (2, [.ref nr, .ref fr, .ref rs, .ref at_, .ref h, .int al, .long br])), (nr, .inl (cI, 14, .inl N))]) [2, 3, 4, 6, 7] rfl) hK (hD.sub (ws' := [(fl, .inr (4, [.ref rm, .ref op, .ref bf, .int sn0])), (rm, .inl (cI, 784, .inl g0)), (op, .inl (cI, 28, .inl O0)), (k, .inr (2, [.ref nr, .ref fr, .ref rs, .ref at_, .ref h, .int al, .long br])), (nr, .inl (cI, 14, .inl N))]) [2, 3, 4, 6, 7] (by decide) rfl) rfl rfl) rfl hl.1 rfl (Nat.le_of_ble_eq_true rfl) d_CP_nodes_41 ⟨Nat.zero_le _, Nat.zero_le _⟩) hP hD hS [2, 3, 4, 6, 7] rfl (fun _ => rfl) (fun u_7 H locs hu_7 hP hS => ?_)
    obtain ⟨C9_7, O9_7⟩ := u_7
    have hP : va_P (dC, dI) cls [(cp, .inr (0, [.ref g, .ref k, .ref k2, .ref fl, .ref co, .ref sp])), (g, .inr (1, [.ref a1, .ref a2, .int (nI nd), .int (nI ar), .long pr])), (fl, .inr (4, [.ref rm, .ref op, .ref bf, .int sn0])), (rm, .inl (cI, 784, .inl (nF C9_7))), (op, .inl (cI, 28, .inl O9_7)), (bf, .inl (cI, 28, .inl (nF B0))), (k, .inr (2, [.ref nr, .ref fr, .ref rs, .ref at_, .ref h, .int al, .long br])), (nr, .inl (cI, 14, .inl N))] H := hP
    have hD := hD.addr (ws' := [(cp, .inr (0, [.ref g, .ref k, .ref k2, .ref fl, .ref co, .ref sp])), (g, .inr (1, [.ref a1, .ref a2, .int (nI nd), .int (nI ar), .long pr])), (fl, .inr (4, [.ref rm, .ref op, .ref bf, .int sn0])), (rm, .inl (cI, 784, .inl (nF C9_7))), (op, .inl (cI, 28, .inl O9_7)), (bf, .inl (cI, 28, .inl (nF B0))), (k, .inr (2, [.ref nr, .ref fr, .ref rs, .ref at_, .ref h, .int al, .long br])), (nr, .inl (cI, 14, .inl N))]) rfl
    refine lv_aload_n hx hb d_CP_nodes_44 rfl (lv_at hl 1 rfl) ?_
    refine va_get (D := (dC, dI)) (ci := 0) (v := .ref fl) (C := R_CP) (T := F_CP) (N := 6) hx hb hts in_CP hown hK.1 hP 0 rfl rfl 3 (by decide) (hts _ wfl_CP_29) (fun _ h9 => h9) rfl d_CP_nodes_45 ?_
    refine lv_iload_n hx hb d_CP_nodes_48 rfl (lv_at hl 2 rfl) ?_
    refine vp_callSi (va_Run.run (k_S (n := 1) (rest := [.ref fl]) ⟨hx, hb, hml, hown, hts⟩ (c_FL_outOf l dC dI cI cJ cZ a) wml_CP_158 wst_FL_outOf wini_FL wcode_FL_outOf (by decide +kernel) ⟨Nat.le_of_ble_eq_true rfl, Nat.le_of_ble_eq_true rfl⟩ (pre_R (hP.sub (ws' := []) [] rfl) hK) rfl hl.1 rfl (Nat.le_of_ble_eq_true rfl) d_CP_nodes_49 ⟨Nat.zero_le _, Nat.zero_le _⟩)) (fun r_8 hr_9 => ?_)
    refine xe_i (y := (nI (a + 14))) hr_9 ?_
    refine lv_iload_n hx hb d_CP_nodes_52 rfl (lv_at hl 3 rfl) ?_
    refine x_ci (k_V (n := 2) (C := R_FL) (rest := []) ⟨hx, hb, hml, hown, hts⟩ (c_FL_fill l dC dI cI cJ cZ fl rm op bf sn0 C9_7 O9_7 B0 (a + 14) b (by first | assumption | omega) (by first | assumption | omega) hu_7.1 (fun p => Nat.le_trans (hu_7.2.2 p) (by decide)) (cap_n hu_7.2.1 (by omega) (by omega))) wml_CP_144 wim_FL_fill wsel_FL_fill wini_FL wcode_FL_fill (by decide +kernel) ⟨Nat.le_of_ble_eq_true rfl, Nat.le_of_ble_eq_true rfl⟩ (preV_M (q := (R_FL, F_FL, 4)) (ci := 4) (q0 := 0) (hP.sub (ws' := [(fl, .inr (4, [.ref rm, .ref op, .ref bf, .int sn0])), (rm, .inl (cI, 784, .inl (nF C9_7))), (op, .inl (cI, 28, .inl O9_7)), (bf, .inl (cI, 28, .inl (nF B0)))]) [2, 3, 4, 5] rfl) hK (hD.sub (ws' := [(fl, .inr (4, [.ref rm, .ref op, .ref bf, .int sn0])), (rm, .inl (cI, 784, .inl (nF C9_7))), (op, .inl (cI, 28, .inl O9_7)), (bf, .inl (cI, 28, .inl (nF B0)))]) [2, 3, 4, 5] (by decide) rfl) rfl rfl) rfl hl.1 rfl (Nat.le_of_ble_eq_true rfl) d_CP_nodes_53 ⟨Nat.zero_le _, Nat.zero_le _⟩) hP hD hS [2, 3, 4, 5] rfl (fun _ => rfl) (fun r_10 u_10 H locs hu_10 hP hS => ?_)
    obtain ⟨C9_10, O9_10, sn9_10, B9_10⟩ := u_10
    have hP : va_P (dC, dI) cls [(cp, .inr (0, [.ref g, .ref k, .ref k2, .ref fl, .ref co, .ref sp])), (g, .inr (1, [.ref a1, .ref a2, .int (nI nd), .int (nI ar), .long pr])), (fl, .inr (4, [.ref rm, .ref op, .ref bf, .int sn9_10])), (rm, .inl (cI, 784, .inl (nF C9_10))), (op, .inl (cI, 28, .inl O9_10)), (bf, .inl (cI, 28, .inl (nF B9_10))), (k, .inr (2, [.ref nr, .ref fr, .ref rs, .ref at_, .ref h, .int al, .long br])), (nr, .inl (cI, 14, .inl N))] H := hP
    have hD := hD.addr (ws' := [(cp, .inr (0, [.ref g, .ref k, .ref k2, .ref fl, .ref co, .ref sp])), (g, .inr (1, [.ref a1, .ref a2, .int (nI nd), .int (nI ar), .long pr])), (fl, .inr (4, [.ref rm, .ref op, .ref bf, .int sn9_10])), (rm, .inl (cI, 784, .inl (nF C9_10))), (op, .inl (cI, 28, .inl O9_10)), (bf, .inl (cI, 28, .inl (nF B9_10))), (k, .inr (2, [.ref nr, .ref fr, .ref rs, .ref at_, .ref h, .int al, .long br])), (nr, .inl (cI, 14, .inl N))]) rfl
    obtain ⟨kx_11, ek_11, hk_11⟩ := hu_10
    refine xe_i (y := (nI kx_11)) ek_11 ?_
    exact W.iret (v := (nI kx_11)) hx hb hr (fun t9 ht9 _ => ⟨⟨_, (C9_10, O9_10, sn9_10, B9_10), rfl, ⟨_, rfl, _, _, hu_7.2.1, hk_11⟩, by show va_P (dC, dI) cls _ t9.heap; rw [ht9]; exact hP⟩, hS.F ht9⟩) hS.2.2 d_CP_nodes_56
  · skip
    rw [hadj] at c_6; cases c_6
