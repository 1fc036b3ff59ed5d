theorem d_GR_hasNode_0 : decode prog_4_method_2_code 0 = .ok (.iload_n 1, 1) := by decide +kernel
theorem d_GR_hasNode_1 : decode prog_4_method_2_code 1 = .ok (.ifCond .lt 15, 3) := by decide +kernel
theorem d_GR_hasNode_4 : decode prog_4_method_2_code 4 = .ok (.iload_n 1, 1) := by decide +kernel
theorem d_GR_hasNode_5 : decode prog_4_method_2_code 5 = .ok (.aload_n 0, 1) := by decide +kernel
theorem d_GR_hasNode_6 : decode prog_4_method_2_code 6 = .ok (.getfield 18, 3) := by decide +kernel
theorem d_GR_hasNode_9 : decode prog_4_method_2_code 9 = .ok (.if_icmp .ge 7, 3) := by decide +kernel
theorem d_GR_hasNode_12 : decode prog_4_method_2_code 12 = .ok (.iconst 1, 1) := by decide +kernel
theorem d_GR_hasNode_13 : decode prog_4_method_2_code 13 = .ok (.goto 4, 3) := by decide +kernel
theorem d_GR_hasNode_16 : decode prog_4_method_2_code 16 = .ok (.iconst 0, 1) := by decide +kernel
theorem d_GR_hasNode_17 : decode prog_4_method_2_code 17 = .ok (.ireturn, 1) := by decide +kernel
set_option maxHeartbeats 4000000 in
set_option maxRecDepth 100000 in
theorem c_GR_hasNode (l : Launch) (dC : Nat → ClassId) (dI : Nat → Nat → Nat) (cI cJ cZ : ClassId) (g a1 a2 nd ar : Nat) (pr : Int64) (x : Int32) (hnd : nd ≤ 41) : Met l ⟨"CutPoints$Graph", "hasNode", "(I)Z"⟩ (Cond.code ⟨"CutPoints$Graph", "hasNode", "(I)Z"⟩ prog_4_method_2_code 2 (some .boolean) :: TT) (rmk 0 0) (PR dC dI cI cJ cZ [.ref g, .int x] [(g, .inr (1, [.ref a1, .ref a2, .int (nI nd), .int (nI ar), .long pr]))]) (vp_Si (fun r => r = bI (vd x nd))) 0 0 (fun _ => False) := by
  refine Met.ofW (cc := prog_4_method_2_code) (maxL := 2) (ret := (some .boolean)) (by decide) rfl ?_
  intro p e s m args below meth c s₁ B hml hv
  obtain ⟨rfl, hP, hK⟩ := hv
  have hx := B.exec
  have hb := B.bytes
  have hr := B.returns
  have hts : ∀ w ∈ TT, w.before _ s = true := fun w h => atoms_spec (ws := (Cond.code ⟨"CutPoints$Graph", "hasNode", "(I)Z"⟩ prog_4_method_2_code 2 (some .boolean) :: TT)) B.pre w (List.mem_cons_of_mem _ h)
  have hown : s.vm.findClass "CutPoints$Graph" = some m.cls := findClass_of_methodNamed B.named
  have hlocks := B.notSynchronized
  have hl := lv_entry ([.ref g, .int x]) (n := 2) (Nat.le_of_ble_eq_true rfl)
  rw [lg_entry_eq]
  generalize (lg_sl ([.ref g, .int x]) ++ List.replicate (2 - (lg_sl ([.ref g, .int x])).length) Slot.unset).toArray = ls at hl ⊢
  have hl : lv_has ls 2 [(0, .ref g), (1, .int x)] := hl
  refine lv_iload_n hx hb d_GR_hasNode_0 rfl (lv_at hl 1 rfl) ?_
  refine lv_if_lt (tgt := 16) hx hb d_GR_hasNode_1 (by decide) (fun c_1 => ?_) (fun c_1 => ?_)
  · skip
    refine lv_iconst (v := (nI 0)) hx hb d_GR_hasNode_16 (by decide) ?_
    refine xe_i (y := bI false) rfl ?_
    exact W.zret (v := (bI false)) hx hb hr (bI_nar _) (fun t ht _ => ⟨_, rfl, (by rw [vd_b (Or.inl c_1) (by omega)]), ht⟩) t_nil d_GR_hasNode_17
  · skip
    refine lv_iload_n hx hb d_GR_hasNode_4 rfl (lv_at hl 1 rfl) ?_
    refine lv_aload_n hx hb d_GR_hasNode_5 rfl (lv_at hl 0 rfl) ?_
    refine va_get (D := (dC, dI)) (ci := 1) (v := .int (nI nd)) (C := R_GR) (T := F_GR) (N := 5) hx hb hts in_GR hown hK.1 hP 0 rfl rfl 2 (by decide) (hts _ wfl_GR_18) (fun _ h9 => h9) rfl d_GR_hasNode_6 ?_
    refine lv_icmp_ge (tgt := 16) hx hb d_GR_hasNode_9 (by decide) (fun c_2 => ?_) (fun c_2 => ?_)
    · skip
      refine lv_iconst (v := (nI 0)) hx hb d_GR_hasNode_16 (by decide) ?_
      refine xe_i (y := bI false) rfl ?_
      exact W.zret (v := (bI false)) hx hb hr (bI_nar _) (fun t ht _ => ⟨_, rfl, (by rw [vd_b (Or.inr c_2) (by omega)]), ht⟩) t_nil d_GR_hasNode_17
    · skip
      refine lv_iconst (v := (nI 1)) hx hb d_GR_hasNode_12 (by decide) ?_
      refine lv_goto (tgt := 17) hx hb d_GR_hasNode_13 (by decide) ?_
      refine xe_i (y := bI true) rfl ?_
      exact W.zret (v := (bI true)) hx hb hr (bI_nar _) (fun t ht _ => ⟨_, rfl, (by rw [vd_a ⟨c_1, c_2⟩ (by omega)]), ht⟩) t_nil d_GR_hasNode_17

theorem d_GR_hasArc_0 : decode prog_4_method_3_code 0 = .ok (.iload_n 1, 1) := by decide +kernel
theorem d_GR_hasArc_1 : decode prog_4_method_3_code 1 = .ok (.ifCond .lt 15, 3) := by decide +kernel
theorem d_GR_hasArc_4 : decode prog_4_method_3_code 4 = .ok (.iload_n 1, 1) := by decide +kernel
theorem d_GR_hasArc_5 : decode prog_4_method_3_code 5 = .ok (.aload_n 0, 1) := by decide +kernel
theorem d_GR_hasArc_6 : decode prog_4_method_3_code 6 = .ok (.getfield 22, 3) := by decide +kernel
theorem d_GR_hasArc_9 : decode prog_4_method_3_code 9 = .ok (.if_icmp .ge 7, 3) := by decide +kernel
theorem d_GR_hasArc_12 : decode prog_4_method_3_code 12 = .ok (.iconst 1, 1) := by decide +kernel
theorem d_GR_hasArc_13 : decode prog_4_method_3_code 13 = .ok (.goto 4, 3) := by decide +kernel
theorem d_GR_hasArc_16 : decode prog_4_method_3_code 16 = .ok (.iconst 0, 1) := by decide +kernel
theorem d_GR_hasArc_17 : decode prog_4_method_3_code 17 = .ok (.ireturn, 1) := by decide +kernel
set_option maxHeartbeats 4000000 in
set_option maxRecDepth 100000 in
theorem c_GR_hasArc (l : Launch) (dC : Nat → ClassId) (dI : Nat → Nat → Nat) (cI cJ cZ : ClassId) (g a1 a2 nd ar : Nat) (pr : Int64) (x : Int32) (har : ar ≤ 41) : Met l ⟨"CutPoints$Graph", "hasArc", "(I)Z"⟩ (Cond.code ⟨"CutPoints$Graph", "hasArc", "(I)Z"⟩ prog_4_method_3_code 2 (some .boolean) :: TT) (rmk 0 0) (PR dC dI cI cJ cZ [.ref g, .int x] [(g, .inr (1, [.ref a1, .ref a2, .int (nI nd), .int (nI ar), .long pr]))]) (vp_Si (fun r => r = bI (vd x ar))) 0 0 (fun _ => False) := by
  refine Met.ofW (cc := prog_4_method_3_code) (maxL := 2) (ret := (some .boolean)) (by decide) rfl ?_
  intro p e s m args below meth c s₁ B hml hv
  obtain ⟨rfl, hP, hK⟩ := hv
  have hx := B.exec
  have hb := B.bytes
  have hr := B.returns
  have hts : ∀ w ∈ TT, w.before _ s = true := fun w h => atoms_spec (ws := (Cond.code ⟨"CutPoints$Graph", "hasArc", "(I)Z"⟩ prog_4_method_3_code 2 (some .boolean) :: TT)) B.pre w (List.mem_cons_of_mem _ h)
  have hown : s.vm.findClass "CutPoints$Graph" = some m.cls := findClass_of_methodNamed B.named
  have hlocks := B.notSynchronized
  have hl := lv_entry ([.ref g, .int x]) (n := 2) (Nat.le_of_ble_eq_true rfl)
  rw [lg_entry_eq]
  generalize (lg_sl ([.ref g, .int x]) ++ List.replicate (2 - (lg_sl ([.ref g, .int x])).length) Slot.unset).toArray = ls at hl ⊢
  have hl : lv_has ls 2 [(0, .ref g), (1, .int x)] := hl
  refine lv_iload_n hx hb d_GR_hasArc_0 rfl (lv_at hl 1 rfl) ?_
  refine lv_if_lt (tgt := 16) hx hb d_GR_hasArc_1 (by decide) (fun c_1 => ?_) (fun c_1 => ?_)
  · skip
    refine lv_iconst (v := (nI 0)) hx hb d_GR_hasArc_16 (by decide) ?_
    refine xe_i (y := bI false) rfl ?_
    exact W.zret (v := (bI false)) hx hb hr (bI_nar _) (fun t ht _ => ⟨_, rfl, (by rw [vd_b (Or.inl c_1) (by omega)]), ht⟩) t_nil d_GR_hasArc_17
  · skip
    refine lv_iload_n hx hb d_GR_hasArc_4 rfl (lv_at hl 1 rfl) ?_
    refine lv_aload_n hx hb d_GR_hasArc_5 rfl (lv_at hl 0 rfl) ?_
    refine va_get (D := (dC, dI)) (ci := 1) (v := .int (nI ar)) (C := R_GR) (T := F_GR) (N := 5) hx hb hts in_GR hown hK.1 hP 0 rfl rfl 3 (by decide) (hts _ wfl_GR_22) (fun _ h9 => h9) rfl d_GR_hasArc_6 ?_
    refine lv_icmp_ge (tgt := 16) hx hb d_GR_hasArc_9 (by decide) (fun c_2 => ?_) (fun c_2 => ?_)
    · skip
      refine lv_iconst (v := (nI 0)) hx hb d_GR_hasArc_16 (by decide) ?_
      refine xe_i (y := bI false) rfl ?_
      exact W.zret (v := (bI false)) hx hb hr (bI_nar _) (fun t ht _ => ⟨_, rfl, (by rw [vd_b (Or.inr c_2) (by omega)]), ht⟩) t_nil d_GR_hasArc_17
    · skip
      refine lv_iconst (v := (nI 1)) hx hb d_GR_hasArc_12 (by decide) ?_
      refine lv_goto (tgt := 17) hx hb d_GR_hasArc_13 (by decide) ?_
      refine xe_i (y := bI true) rfl ?_
      exact W.zret (v := (bI true)) hx hb hr (bI_nar _) (fun t ht _ => ⟨_, rfl, (by rw [vd_a ⟨c_1, c_2⟩ (by omega)]), ht⟩) t_nil d_GR_hasArc_17

theorem d_GR_isThere_0 : decode prog_4_method_4_code 0 = .ok (.aload_n 0, 1) := by decide +kernel
theorem d_GR_isThere_1 : decode prog_4_method_4_code 1 = .ok (.iload_n 1, 1) := by decide +kernel
theorem d_GR_isThere_2 : decode prog_4_method_4_code 2 = .ok (.invokevirtual 25, 3) := by decide +kernel
theorem d_GR_isThere_5 : decode prog_4_method_4_code 5 = .ok (.ifCond .eq 18, 3) := by decide +kernel
theorem d_GR_isThere_8 : decode prog_4_method_4_code 8 = .ok (.aload_n 0, 1) := by decide +kernel
theorem d_GR_isThere_9 : decode prog_4_method_4_code 9 = .ok (.getfield 29, 3) := by decide +kernel
theorem d_GR_isThere_12 : decode prog_4_method_4_code 12 = .ok (.iload_n 1, 1) := by decide +kernel
theorem d_GR_isThere_13 : decode prog_4_method_4_code 13 = .ok (.invokestatic 33, 3) := by decide +kernel
theorem d_GR_isThere_16 : decode prog_4_method_4_code 16 = .ok (.ifCond .eq 7, 3) := by decide +kernel
theorem d_GR_isThere_19 : decode prog_4_method_4_code 19 = .ok (.iconst 1, 1) := by decide +kernel
theorem d_GR_isThere_20 : decode prog_4_method_4_code 20 = .ok (.goto 4, 3) := by decide +kernel
theorem d_GR_isThere_23 : decode prog_4_method_4_code 23 = .ok (.iconst 0, 1) := by decide +kernel
theorem d_GR_isThere_24 : decode prog_4_method_4_code 24 = .ok (.ireturn, 1) := by decide +kernel
set_option maxHeartbeats 4000000 in
set_option maxRecDepth 100000 in
theorem c_GR_isThere (l : Launch) (dC : Nat → ClassId) (dI : Nat → Nat → Nat) (cI cJ cZ : ClassId) (g a1 a2 nd ar : Nat) (pr : Int64) (x : Int32) (har : ar ≤ 41) : Met l ⟨"CutPoints$Graph", "isThere", "(I)Z"⟩ (Cond.code ⟨"CutPoints$Graph", "isThere", "(I)Z"⟩ prog_4_method_4_code 2 (some .boolean) :: TT) (rmk 1 22) (PR dC dI cI cJ cZ [.ref g, .int x] [(g, .inr (1, [.ref a1, .ref a2, .int (nI nd), .int (nI ar), .long pr]))]) (vp_Si (fun r => r = bI (vd x ar && lb pr x.toNatClampNeg))) 0 0 (fun _ => False) := by
  refine Met.ofW (cc := prog_4_method_4_code) (maxL := 2) (ret := (some .boolean)) (by decide) rfl ?_
  intro p e s m args below meth c s₁ B hml hv
  obtain ⟨rfl, hP, hK⟩ := hv
  have hx := B.exec
  have hb := B.bytes
  have hr := B.returns
  have hts : ∀ w ∈ TT, w.before _ s = true := fun w h => atoms_spec (ws := (Cond.code ⟨"CutPoints$Graph", "isThere", "(I)Z"⟩ prog_4_method_4_code 2 (some .boolean) :: TT)) B.pre w (List.mem_cons_of_mem _ h)
  have hown : s.vm.findClass "CutPoints$Graph" = some m.cls := findClass_of_methodNamed B.named
  have hlocks := B.notSynchronized
  have hl := lv_entry ([.ref g, .int x]) (n := 2) (Nat.le_of_ble_eq_true rfl)
  rw [lg_entry_eq]
  generalize (lg_sl ([.ref g, .int x]) ++ List.replicate (2 - (lg_sl ([.ref g, .int x])).length) Slot.unset).toArray = ls at hl ⊢
  have hl : lv_has ls 2 [(0, .ref g), (1, .int x)] := hl
  refine lv_aload_n hx hb d_GR_isThere_0 rfl (lv_at hl 0 rfl) ?_
  refine lv_iload_n hx hb d_GR_isThere_1 rfl (lv_at hl 1 rfl) ?_
  refine vp_callSi (va_Run.run (k_V (n := 1) (C := R_GR) (rest := []) ⟨hx, hb, hml, hown, hts⟩ (c_GR_hasArc l dC dI cI cJ cZ g a1 a2 nd ar pr x (by first | assumption | omega)) wml_GR_25 wim_GR_hasArc wsel_GR_hasArc wini_GR wcode_GR_hasArc (by decide +kernel) ⟨Nat.le_of_ble_eq_true rfl, Nat.le_of_ble_eq_true rfl⟩ (preV_R (q := (R_GR, F_GR, 5)) (ci := 1) (q0 := 0) (hP.sub (ws' := [(g, .inr (1, [.ref a1, .ref a2, .int (nI nd), .int (nI ar), .long pr]))]) [0] rfl) hK rfl rfl) rfl hl.1 rfl (Nat.le_of_ble_eq_true rfl) d_GR_isThere_2 ⟨Nat.zero_le _, Nat.zero_le _⟩)) (fun r_1 hr_2 => ?_)
  refine xe_i (y := (bI (vd x ar))) hr_2 ?_
  refine x_if_eq (tgt := 23) hx hb d_GR_isThere_5 (by decide) (fun c_3 => ?_) (fun c_3 => ?_)
  · skip
    refine lv_iconst (v := (nI 0)) hx hb d_GR_isThere_23 (by decide) ?_
    refine xe_i (y := bI false) rfl ?_
    exact W.zret (v := (bI false)) hx hb hr (bI_nar _) (fun t ht _ => ⟨_, rfl, (by rw [c_3]; rfl), ht⟩) t_nil d_GR_isThere_24
  · skip
    obtain ⟨j, hj, hxj⟩ := vd_t c_3 (by omega)
    refine lv_aload_n hx hb d_GR_isThere_8 rfl (lv_at hl 0 rfl) ?_
    refine va_get (D := (dC, dI)) (ci := 1) (v := .long pr) (C := R_GR) (T := F_GR) (N := 5) hx hb hts in_GR hown hK.1 hP 0 rfl rfl 4 (by decide) (hts _ wfl_GR_29) (fun _ h9 => h9) rfl d_GR_isThere_9 ?_
    refine lv_iload_n hx hb d_GR_isThere_12 rfl (lv_at hl 1 rfl) ?_
    refine xe_i (y := (nI j)) hxj ?_
    refine vp_callSi (va_Run.run (k_SN (n := 2) (rest := []) ⟨hx, hb, hml, hown, hts⟩ (c_CP_hasBit l dC dI cI cJ cZ pr j (by first | assumption | omega)) hK wmn_GR_33 wst_CP_hasBit wini_CP wcode_CP_hasBit (by decide +kernel) ⟨Nat.le_of_ble_eq_true rfl, Nat.le_of_ble_eq_true rfl⟩ (pre_R (hP.sub (ws' := []) [] rfl) hK) rfl hl.1 rfl (Nat.le_of_ble_eq_true rfl) d_GR_isThere_13 ⟨Nat.zero_le _, Nat.zero_le _⟩)) (fun r_4 hr_5 => ?_)
    refine xe_i (y := (bI (lb pr j))) hr_5 ?_
    refine x_if_eq (tgt := 23) hx hb d_GR_isThere_16 (by decide) (fun c_6 => ?_) (fun c_6 => ?_)
    · skip
      refine lv_iconst (v := (nI 0)) hx hb d_GR_isThere_23 (by decide) ?_
      refine xe_i (y := bI false) rfl ?_
      exact W.zret (v := (bI false)) hx hb hr (bI_nar _) (fun t ht _ => ⟨_, rfl, (by rw [c_3, hxj, nI_clamp (by omega), c_6]; rfl), ht⟩) t_nil d_GR_isThere_24
    · skip
      refine lv_iconst (v := (nI 1)) hx hb d_GR_isThere_19 (by decide) ?_
      refine lv_goto (tgt := 24) hx hb d_GR_isThere_20 (by decide) ?_
      refine xe_i (y := bI true) rfl ?_
      exact W.zret (v := (bI true)) hx hb hr (bI_nar _) (fun t ht _ => ⟨_, rfl, (by rw [c_3, hxj, nI_clamp (by omega), c_6]; rfl), ht⟩) t_nil d_GR_isThere_24

theorem d_GR_lay_0 : decode prog_4_method_5_code 0 = .ok (.aload_n 0, 1) := by decide +kernel
theorem d_GR_lay_1 : decode prog_4_method_5_code 1 = .ok (.getfield 9, 3) := by decide +kernel
theorem d_GR_lay_4 : decode prog_4_method_5_code 4 = .ok (.iload_n 1, 1) := by decide +kernel
theorem d_GR_lay_5 : decode prog_4_method_5_code 5 = .ok (.iload_n 2, 1) := by decide +kernel
theorem d_GR_lay_6 : decode prog_4_method_5_code 6 = .ok (.iastore, 1) := by decide +kernel
theorem d_GR_lay_7 : decode prog_4_method_5_code 7 = .ok (.aload_n 0, 1) := by decide +kernel
theorem d_GR_lay_8 : decode prog_4_method_5_code 8 = .ok (.getfield 15, 3) := by decide +kernel
theorem d_GR_lay_11 : decode prog_4_method_5_code 11 = .ok (.iload_n 1, 1) := by decide +kernel
theorem d_GR_lay_12 : decode prog_4_method_5_code 12 = .ok (.iload_n 3, 1) := by decide +kernel
theorem d_GR_lay_13 : decode prog_4_method_5_code 13 = .ok (.iastore, 1) := by decide +kernel
theorem d_GR_lay_14 : decode prog_4_method_5_code 14 = .ok (.return_, 1) := by decide +kernel
set_option maxHeartbeats 4000000 in
set_option maxRecDepth 100000 in
theorem c_GR_lay (l : Launch) (dC : Nat → ClassId) (dI : Nat → Nat → Nat) (cI cJ cZ : ClassId) (g a1 a2 nd ar : Nat) (pr : Int64) (F G : Nat → Nat) (i x y : Nat) (hi : i < 41) : Met l ⟨"CutPoints$Graph", "lay", "(III)V"⟩ (Cond.code ⟨"CutPoints$Graph", "lay", "(III)V"⟩ prog_4_method_5_code 4 none :: TT) (rmk 0 0) (PM dC dI cI cJ cZ [.ref g, .int (nI i), .int (nI x), .int (nI y)] [(g, .inr (1, [.ref a1, .ref a2, .int (nI nd), .int (nI ar), .long pr])), (a1, .inl (cI, 41, .inl (nF F))), (a2, .inl (cI, 41, .inl (nF G)))]) (va_Qv (S := Unit) (fun u => True) (fun u t => va_P (dC, dI) cls ([(g, .inr (1, [.ref a1, .ref a2, .int (nI nd), .int (nI ar), .long pr])), (a1, .inl (cI, 41, .inl (nF (va_up F i x)))), (a2, .inl (cI, 41, .inl (nF (va_up G i y))))]) t.heap) (ow [(g, .inr (1, [.ref a1, .ref a2, .int (nI nd), .int (nI ar), .long pr])), (a1, .inl (cI, 41, .inl (nF F))), (a2, .inl (cI, 41, .inl (nF G)))])) 0 0 (ow [(g, .inr (1, [.ref a1, .ref a2, .int (nI nd), .int (nI ar), .long pr])), (a1, .inl (cI, 41, .inl (nF F))), (a2, .inl (cI, 41, .inl (nF G)))]) := by
  refine Met.ofW (cc := prog_4_method_5_code) (maxL := 4) (ret := none) (by decide) rfl ?_
  intro p e s m args below meth c s₁ B hml hv
  obtain ⟨rfl, hP, hK, hD0⟩ := hv
  have hx := B.exec
  have hb := B.bytes
  have hr := B.returns
  have hts : ∀ w ∈ TT, w.before _ s = true := fun w h => atoms_spec (ws := (Cond.code ⟨"CutPoints$Graph", "lay", "(III)V"⟩ prog_4_method_5_code 4 none :: TT)) B.pre w (List.mem_cons_of_mem _ h)
  have hown : s.vm.findClass "CutPoints$Graph" = some m.cls := findClass_of_methodNamed B.named
  have hlocks := B.notSynchronized
  have hD := hD0.mine
  have hS : va_S (ow [(g, .inr (1, [.ref a1, .ref a2, .int (nI nd), .int (nI ar), .long pr])), (a1, .inl (cI, 41, .inl (nF F))), (a2, .inl (cI, 41, .inl (nF G)))]) s.heap s.heap [] := va_S.rf
  have hl := lv_entry ([.ref g, .int (nI i), .int (nI x), .int (nI y)]) (n := 4) (Nat.le_of_ble_eq_true rfl)
  rw [lg_entry_eq]
  generalize (lg_sl ([.ref g, .int (nI i), .int (nI x), .int (nI y)]) ++ List.replicate (4 - (lg_sl ([.ref g, .int (nI i), .int (nI x), .int (nI y)])).length) Slot.unset).toArray = ls at hl ⊢
  have hl : lv_has ls 4 [(0, .ref g), (1, .int (nI i)), (2, .int (nI x)), (3, .int (nI y))] := hl
  refine lv_aload_n hx hb d_GR_lay_0 rfl (lv_at hl 0 rfl) ?_
  refine va_get (D := (dC, dI)) (ci := 1) (v := .ref a1) (C := R_GR) (T := F_GR) (N := 5) hx hb hts in_GR hown hK.1 hP 0 rfl rfl 0 (by decide) (hts _ wfl_GR_9) (fun _ h9 => h9) rfl d_GR_lay_1 ?_
  refine lv_iload_n hx hb d_GR_lay_4 rfl (lv_at hl 1 rfl) ?_
  refine lv_iload_n hx hb d_GR_lay_5 rfl (lv_at hl 2 rfl) ?_
  refine x_iast (g := (nF (va_up F i x))) hx hb hK.1 hP hD hS 1 0 rfl rfl (nF_up _ _ _) (by omega) (by omega) d_GR_lay_6 (fun H locs hP hD hS => ?_)
  have hP : va_P (dC, dI) cls [(g, .inr (1, [.ref a1, .ref a2, .int (nI nd), .int (nI ar), .long pr])), (a1, .inl (cI, 41, .inl (nF (va_up F i x)))), (a2, .inl (cI, 41, .inl (nF G)))] H := hP
  have hD : va_D (ow [(g, .inr (1, [.ref a1, .ref a2, .int (nI nd), .int (nI ar), .long pr])), (a1, .inl (cI, 41, .inl (nF F))), (a2, .inl (cI, 41, .inl (nF G)))]) [(g, .inr (1, [.ref a1, .ref a2, .int (nI nd), .int (nI ar), .long pr])), (a1, .inl (cI, 41, .inl (nF (va_up F i x)))), (a2, .inl (cI, 41, .inl (nF G)))] := hD
  refine lv_aload_n hx hb d_GR_lay_7 rfl (lv_at hl 0 rfl) ?_
  refine va_get (D := (dC, dI)) (ci := 1) (v := .ref a2) (C := R_GR) (T := F_GR) (N := 5) hx hb hts in_GR hown hK.1 hP 0 rfl rfl 1 (by decide) (hts _ wfl_GR_15) (fun _ h9 => h9) rfl d_GR_lay_8 ?_
  refine lv_iload_n hx hb d_GR_lay_11 rfl (lv_at hl 1 rfl) ?_
  refine lv_iload_n hx hb d_GR_lay_12 rfl (lv_at hl 3 rfl) ?_
  refine x_iast (g := (nF (va_up G i y))) hx hb hK.1 hP hD hS 2 0 rfl rfl (nF_up _ _ _) (by omega) (by omega) d_GR_lay_13 (fun H locs hP hD hS => ?_)
  have hP : va_P (dC, dI) cls [(g, .inr (1, [.ref a1, .ref a2, .int (nI nd), .int (nI ar), .long pr])), (a1, .inl (cI, 41, .inl (nF (va_up F i x)))), (a2, .inl (cI, 41, .inl (nF (va_up G i y))))] H := hP
  have hD : va_D (ow [(g, .inr (1, [.ref a1, .ref a2, .int (nI nd), .int (nI ar), .long pr])), (a1, .inl (cI, 41, .inl (nF F))), (a2, .inl (cI, 41, .inl (nF G)))]) [(g, .inr (1, [.ref a1, .ref a2, .int (nI nd), .int (nI ar), .long pr])), (a1, .inl (cI, 41, .inl (nF (va_up F i x)))), (a2, .inl (cI, 41, .inl (nF (va_up G i y))))] := hD
  exact W.vret hx hb hr (fun t ht _ => ⟨⟨(), rfl, trivial, by show va_P (dC, dI) cls _ t.heap; rw [ht]; exact hP⟩, hS.F ht⟩) hS.2.2 d_GR_lay_14
