theorem d_FL_layArcs_0 : decode prog_3_method_3_code 0 = .ok (.aload_n 0, 1) := by decide +kernel
theorem d_FL_layArcs_1 : decode prog_3_method_3_code 1 = .ok (.invokevirtual 21, 3) := by decide +kernel
theorem d_FL_layArcs_4 : decode prog_3_method_3_code 4 = .ok (.iconst 0, 1) := by decide +kernel
theorem d_FL_layArcs_5 : decode prog_3_method_3_code 5 = .ok (.istore_n 2, 1) := by decide +kernel
theorem d_FL_layArcs_6 : decode prog_3_method_3_code 6 = .ok (.iload_n 2, 1) := by decide +kernel
theorem d_FL_layArcs_7 : decode prog_3_method_3_code 7 = .ok (.bipush 40, 2) := by decide +kernel
theorem d_FL_layArcs_9 : decode prog_3_method_3_code 9 = .ok (.if_icmp .ge 54, 3) := by decide +kernel
theorem d_FL_layArcs_12 : decode prog_3_method_3_code 12 = .ok (.aload_n 1, 1) := by decide +kernel
theorem d_FL_layArcs_13 : decode prog_3_method_3_code 13 = .ok (.getfield 24, 3) := by decide +kernel
theorem d_FL_layArcs_16 : decode prog_3_method_3_code 16 = .ok (.iload_n 2, 1) := by decide +kernel
theorem d_FL_layArcs_17 : decode prog_3_method_3_code 17 = .ok (.invokestatic 30, 3) := by decide +kernel
theorem d_FL_layArcs_20 : decode prog_3_method_3_code 20 = .ok (.ifCond .eq 37, 3) := by decide +kernel
theorem d_FL_layArcs_23 : decode prog_3_method_3_code 23 = .ok (.aload_n 0, 1) := by decide +kernel
theorem d_FL_layArcs_24 : decode prog_3_method_3_code 24 = .ok (.aload_n 1, 1) := by decide +kernel
theorem d_FL_layArcs_25 : decode prog_3_method_3_code 25 = .ok (.getfield 34, 3) := by decide +kernel
theorem d_FL_layArcs_28 : decode prog_3_method_3_code 28 = .ok (.iload_n 2, 1) := by decide +kernel
theorem d_FL_layArcs_29 : decode prog_3_method_3_code 29 = .ok (.iaload, 1) := by decide +kernel
theorem d_FL_layArcs_30 : decode prog_3_method_3_code 30 = .ok (.aload_n 1, 1) := by decide +kernel
theorem d_FL_layArcs_31 : decode prog_3_method_3_code 31 = .ok (.getfield 37, 3) := by decide +kernel
theorem d_FL_layArcs_34 : decode prog_3_method_3_code 34 = .ok (.iload_n 2, 1) := by decide +kernel
theorem d_FL_layArcs_35 : decode prog_3_method_3_code 35 = .ok (.iaload, 1) := by decide +kernel
theorem d_FL_layArcs_36 : decode prog_3_method_3_code 36 = .ok (.iconst 1, 1) := by decide +kernel
theorem d_FL_layArcs_37 : decode prog_3_method_3_code 37 = .ok (.invokevirtual 40, 3) := by decide +kernel
theorem d_FL_layArcs_40 : decode prog_3_method_3_code 40 = .ok (.aload_n 0, 1) := by decide +kernel
theorem d_FL_layArcs_41 : decode prog_3_method_3_code 41 = .ok (.aload_n 1, 1) := by decide +kernel
theorem d_FL_layArcs_42 : decode prog_3_method_3_code 42 = .ok (.getfield 37, 3) := by decide +kernel
theorem d_FL_layArcs_45 : decode prog_3_method_3_code 45 = .ok (.iload_n 2, 1) := by decide +kernel
theorem d_FL_layArcs_46 : decode prog_3_method_3_code 46 = .ok (.iaload, 1) := by decide +kernel
theorem d_FL_layArcs_47 : decode prog_3_method_3_code 47 = .ok (.aload_n 1, 1) := by decide +kernel
theorem d_FL_layArcs_48 : decode prog_3_method_3_code 48 = .ok (.getfield 34, 3) := by decide +kernel
theorem d_FL_layArcs_51 : decode prog_3_method_3_code 51 = .ok (.iload_n 2, 1) := by decide +kernel
theorem d_FL_layArcs_52 : decode prog_3_method_3_code 52 = .ok (.iaload, 1) := by decide +kernel
theorem d_FL_layArcs_53 : decode prog_3_method_3_code 53 = .ok (.iconst 1, 1) := by decide +kernel
theorem d_FL_layArcs_54 : decode prog_3_method_3_code 54 = .ok (.invokevirtual 40, 3) := by decide +kernel
theorem d_FL_layArcs_57 : decode prog_3_method_3_code 57 = .ok (.iinc 2 1, 3) := by decide +kernel
theorem d_FL_layArcs_60 : decode prog_3_method_3_code 60 = .ok (.goto (-54), 3) := by decide +kernel
theorem d_FL_layArcs_63 : decode prog_3_method_3_code 63 = .ok (.return_, 1) := by decide +kernel
set_option maxHeartbeats 4000000 in
set_option maxRecDepth 100000 in
theorem c_FL_layArcs (l : Launch) (dC : Nat → ClassId) (dI : Nat → Nat → Nat) (cI cJ cZ : ClassId) (fl rm op bf : Nat) (sn : Int32) (g0 O0 : Nat → Int32) (g a1 a2 nd ar : Nat) (pr : Int64) (F G : Nat → Nat) (hF : ∀ k, F k < 14) (hG : ∀ k, G k < 14) : Met l ⟨"CutPoints$Flow", "layArcs", "(LCutPoints$Graph;)V"⟩ (Cond.code ⟨"CutPoints$Flow", "layArcs", "(LCutPoints$Graph;)V"⟩ prog_3_method_3_code 3 none :: TT) (rmk 2 43) (PM dC dI cI cJ cZ [.ref fl, .ref g] [(fl, .inr (4, [.ref rm, .ref op, .ref bf, .int sn])), (rm, .inl (cI, 784, .inl g0)), (op, .inl (cI, 28, .inl O0)), (g, .inr (1, [.ref a1, .ref a2, .int (nI nd), .int (nI ar), .long pr])), (a1, .inl (cI, 41, .inl (nF F))), (a2, .inl (cI, 41, .inl (nF G)))]) (va_Qv (S := (Nat → Nat) × (Nat → Int32)) (fun u9 => laI F G pr u9.1 u9.2 40) (fun u9 t9 => va_P (dC, dI) cls ([(fl, .inr (4, [.ref rm, .ref op, .ref bf, .int sn])), (rm, .inl (cI, 784, .inl (nF u9.1))), (op, .inl (cI, 28, .inl u9.2)), (g, .inr (1, [.ref a1, .ref a2, .int (nI nd), .int (nI ar), .long pr])), (a1, .inl (cI, 41, .inl (nF F))), (a2, .inl (cI, 41, .inl (nF G)))]) t9.heap) (ow [(fl, .inr (4, [.ref rm, .ref op, .ref bf, .int sn])), (rm, .inl (cI, 784, .inl g0)), (op, .inl (cI, 28, .inl O0)), (g, .inr (1, [.ref a1, .ref a2, .int (nI nd), .int (nI ar), .long pr])), (a1, .inl (cI, 41, .inl (nF F))), (a2, .inl (cI, 41, .inl (nF G)))])) 0 0 (ow [(fl, .inr (4, [.ref rm, .ref op, .ref bf, .int sn])), (rm, .inl (cI, 784, .inl g0)), (op, .inl (cI, 28, .inl O0)), (g, .inr (1, [.ref a1, .ref a2, .int (nI nd), .int (nI ar), .long pr])), (a1, .inl (cI, 41, .inl (nF F))), (a2, .inl (cI, 41, .inl (nF G)))]) := by
  refine Met.ofW (cc := prog_3_method_3_code) (maxL := 3) (ret := none) (by decide) rfl ?_
  intro p e s m args below meth c s₁ B hml hv
  obtain ⟨rfl, hP, hK, hD0⟩ := hv
  have hx := B.exec
  have hb := B.bytes
  have hr := B.returns
  have hts : ∀ w ∈ TT, w.before _ s = true := fun w h => atoms_spec (ws := (Cond.code ⟨"CutPoints$Flow", "layArcs", "(LCutPoints$Graph;)V"⟩ prog_3_method_3_code 3 none :: TT)) B.pre w (List.mem_cons_of_mem _ h)
  have hown : s.vm.findClass "CutPoints$Flow" = some m.cls := findClass_of_methodNamed B.named
  have hlocks := B.notSynchronized
  have hD := hD0.mine
  have hS : va_S (ow [(fl, .inr (4, [.ref rm, .ref op, .ref bf, .int sn])), (rm, .inl (cI, 784, .inl g0)), (op, .inl (cI, 28, .inl O0)), (g, .inr (1, [.ref a1, .ref a2, .int (nI nd), .int (nI ar), .long pr])), (a1, .inl (cI, 41, .inl (nF F))), (a2, .inl (cI, 41, .inl (nF G)))]) s.heap s.heap [] := va_S.rf
  have hl := lv_entry ([.ref fl, .ref g]) (n := 3) (Nat.le_of_ble_eq_true rfl)
  rw [lg_entry_eq]
  generalize (lg_sl ([.ref fl, .ref g]) ++ List.replicate (3 - (lg_sl ([.ref fl, .ref g])).length) Slot.unset).toArray = ls at hl ⊢
  have hl : lv_has ls 3 [(0, .ref fl), (1, .ref g)] := hl
  refine lv_aload_n hx hb d_FL_layArcs_0 rfl (lv_at hl 0 rfl) ?_
  refine x_cv (k_V (n := 0) (C := R_FL) (rest := []) ⟨hx, hb, hml, hown, hts⟩ (c_FL_forget l dC dI cI cJ cZ fl rm op bf sn g0 O0) wml_FL_21 wim_FL_forget wsel_FL_forget wini_FL wcode_FL_forget (by decide +kernel) ⟨Nat.le_of_ble_eq_true rfl, Nat.le_of_ble_eq_true rfl⟩ (preV_M (q := (R_FL, F_FL, 4)) (ci := 4) (q0 := 0) (hP.sub (ws' := [(fl, .inr (4, [.ref rm, .ref op, .ref bf, .int sn])), (rm, .inl (cI, 784, .inl g0)), (op, .inl (cI, 28, .inl O0))]) [0, 1, 2] rfl) hK (hD.sub (ws' := [(fl, .inr (4, [.ref rm, .ref op, .ref bf, .int sn])), (rm, .inl (cI, 784, .inl g0)), (op, .inl (cI, 28, .inl O0))]) [0, 1, 2] (by decide) rfl) rfl rfl) rfl hl.1 rfl (Nat.le_of_ble_eq_true rfl) d_FL_layArcs_1 ⟨Nat.zero_le _, Nat.zero_le _⟩) hP hD hS [0, 1, 2] rfl (fun _ => rfl) (fun u_1 H locs hu_1 hP hS => ?_)
  obtain ⟨O9_1, rfl⟩ : ∃ z, z = u_1 := ⟨_, rfl⟩
  have hP : va_P (dC, dI) cls [(fl, .inr (4, [.ref rm, .ref op, .ref bf, .int sn])), (rm, .inl (cI, 784, .inl (nF (fun _ => 0)))), (op, .inl (cI, 28, .inl O9_1)), (g, .inr (1, [.ref a1, .ref a2, .int (nI nd), .int (nI ar), .long pr])), (a1, .inl (cI, 41, .inl (nF F))), (a2, .inl (cI, 41, .inl (nF G)))] H := hP
  have hD := hD.addr (ws' := [(fl, .inr (4, [.ref rm, .ref op, .ref bf, .int sn])), (rm, .inl (cI, 784, .inl (nF (fun _ => 0)))), (op, .inl (cI, 28, .inl O9_1)), (g, .inr (1, [.ref a1, .ref a2, .int (nI nd), .int (nI ar), .long pr])), (a1, .inl (cI, 41, .inl (nF F))), (a2, .inl (cI, 41, .inl (nF G)))]) rfl
  refine lv_iconst (v := (nI 0)) hx hb d_FL_layArcs_4 (by decide) ?_
  refine lv_istore_n (lv' := [(2, .int (nI 0)), (0, .ref fl), (1, .ref g)]) hx hb d_FL_layArcs_5 rfl hl (by decide) rfl (fun ls hl => ?_)
  have L6_2 : ∀ (n : Nat) (C2 : Nat → Nat) (O2 : Nat → Int32) (i : Nat) (hn : 40 - i < n) (hi : i ≤ 40) (hj : laI F G pr C2 O2 i) (H : Heap) (locs : List Loc) (hP : va_P (dC, dI) cls [(fl, .inr (4, [.ref rm, .ref op, .ref bf, .int sn])), (rm, .inl (cI, 784, .inl (nF C2))), (op, .inl (cI, 28, .inl O2)), (g, .inr (1, [.ref a1, .ref a2, .int (nI nd), .int (nI ar), .long pr])), (a1, .inl (cI, 41, .inl (nF F))), (a2, .inl (cI, 41, .inl (nF G)))] H) (hD : va_D (ow [(fl, .inr (4, [.ref rm, .ref op, .ref bf, .int sn])), (rm, .inl (cI, 784, .inl g0)), (op, .inl (cI, 28, .inl O0)), (g, .inr (1, [.ref a1, .ref a2, .int (nI nd), .int (nI ar), .long pr])), (a1, .inl (cI, 41, .inl (nF F))), (a2, .inl (cI, 41, .inl (nF G)))]) [(fl, .inr (4, [.ref rm, .ref op, .ref bf, .int sn])), (rm, .inl (cI, 784, .inl (nF C2))), (op, .inl (cI, 28, .inl O2)), (g, .inr (1, [.ref a1, .ref a2, .int (nI nd), .int (nI ar), .long pr])), (a1, .inl (cI, 41, .inl (nF F))), (a2, .inl (cI, 41, .inl (nF G)))]) (hS : va_S (ow [(fl, .inr (4, [.ref rm, .ref op, .ref bf, .int sn])), (rm, .inl (cI, 784, .inl g0)), (op, .inl (cI, 28, .inl O0)), (g, .inr (1, [.ref a1, .ref a2, .int (nI nd), .int (nI ar), .long pr])), (a1, .inl (cI, 41, .inl (nF F))), (a2, .inl (cI, 41, .inl (nF G)))]) s.heap H locs) (ls : Array Slot) (hl : lv_has ls 3 [(0, .ref fl), (1, .ref g), (2, .int (nI i))]), W p l e (headSpec (Cond.code ⟨"CutPoints$Flow", "layArcs", "(LCutPoints$Graph;)V"⟩ prog_3_method_3_code 3 none :: TT) (rmk 2 43)).room s m ([.ref fl, .ref g] : List Value).toArray below meth c H locs 0 0 (MQ below (va_Qv (S := (Nat → Nat) × (Nat → Int32)) (fun u9 => laI F G pr u9.1 u9.2 40) (fun u9 t9 => va_P (dC, dI) cls ([(fl, .inr (4, [.ref rm, .ref op, .ref bf, .int sn])), (rm, .inl (cI, 784, .inl (nF u9.1))), (op, .inl (cI, 28, .inl u9.2)), (g, .inr (1, [.ref a1, .ref a2, .int (nI nd), .int (nI ar), .long pr])), (a1, .inl (cI, 41, .inl (nF F))), (a2, .inl (cI, 41, .inl (nF G)))]) t9.heap) (ow [(fl, .inr (4, [.ref rm, .ref op, .ref bf, .int sn])), (rm, .inl (cI, 784, .inl g0)), (op, .inl (cI, 28, .inl O0)), (g, .inr (1, [.ref a1, .ref a2, .int (nI nd), .int (nI ar), .long pr])), (a1, .inl (cI, 41, .inl (nF F))), (a2, .inl (cI, 41, .inl (nF G)))])) ([.ref fl, .ref g] : List Value).toArray s 0 0 (ow [(fl, .inr (4, [.ref rm, .ref op, .ref bf, .int sn])), (rm, .inl (cI, 784, .inl g0)), (op, .inl (cI, 28, .inl O0)), (g, .inr (1, [.ref a1, .ref a2, .int (nI nd), .int (nI ar), .long pr])), (a1, .inl (cI, 41, .inl (nF F))), (a2, .inl (cI, 41, .inl (nF G)))])) (F0 m 6 ls []) := by
    intro n_6
    induction n_6 with
    | zero =>
      intro C2 O2 i hn_6
      exact absurd hn_6 (Nat.not_lt_zero _)
    | succ n_6 ih_6 =>
      intro C2 O2 i hn_6 hi hj H locs hP hD hS ls hl
      have hC2 : ∀ p, C2 p ≤ 80 := fun p => by have := hj.2.2 p; omega
      refine lv_iload_n hx hb d_FL_layArcs_6 rfl (lv_at hl 2 rfl) ?_
      refine lv_bipush (v := (nI 40)) hx hb d_FL_layArcs_7 (by decide) ?_
      refine x_cmp_ge (a := i) (b := 40) (tgt := 63) hx hb (by omega) (by omega) d_FL_layArcs_9 (by decide) (fun c_3 => ?_) (fun c_3 => ?_)
      · skip
        exact W.vret hx hb hr (fun t9 ht9 _ => ⟨⟨(C2, O2), rfl, (by have e9 : i = 40 := (by omega); subst e9; exact hj), by show va_P (dC, dI) cls _ t9.heap; rw [ht9]; exact hP⟩, hS.F ht9⟩) hS.2.2 d_FL_layArcs_63
      · skip
        refine lv_aload_n hx hb d_FL_layArcs_12 rfl (lv_at hl 1 rfl) ?_
        refine va_get (D := (dC, dI)) (ci := 1) (v := .long pr) (C := R_GR) (T := F_GR) (N := 5) hx hb hts in_GR hown hK.1 hP 3 rfl rfl 4 (by decide) (hts _ wfl_FL_24) (fun _ h9 => h9) rfl d_FL_layArcs_13 ?_
        refine lv_iload_n hx hb d_FL_layArcs_16 rfl (lv_at hl 2 rfl) ?_
        refine vp_callSi (va_Run.run (k_SN (n := 2) (rest := []) ⟨hx, hb, hml, hown, hts⟩ (c_CP_hasBit l dC dI cI cJ cZ pr i (by first | assumption | omega)) hK wmn_FL_30 wst_CP_hasBit wini_CP wcode_CP_hasBit (by decide +kernel) ⟨Nat.le_of_ble_eq_true rfl, Nat.le_of_ble_eq_true rfl⟩ (pre_R (hP.sub (ws' := []) [] rfl) hK) rfl hl.1 rfl (Nat.le_of_ble_eq_true rfl) d_FL_layArcs_17 ⟨Nat.zero_le _, Nat.zero_le _⟩)) (fun r_4 hr_5 => ?_)
        refine xe_i (y := (bI (lb pr i))) hr_5 ?_
        refine x_if_eq (tgt := 57) hx hb d_FL_layArcs_20 (by decide) (fun c_6 => ?_) (fun c_6 => ?_)
        · skip
          refine lv_iinc (v := (nI (i + 1))) (lv' := [(2, .int (nI (i + 1))), (0, .ref fl), (1, .ref g)]) hx hb d_FL_layArcs_57 hl (k := 2) rfl (nI_1 _) (by decide) rfl (fun ls hl => ?_)
          refine lv_goto (tgt := 6) hx hb d_FL_layArcs_60 (by decide) ?_
          exact ih_6 C2 O2 (i + 1) (by omega) (by first | assumption | omega) (laI_f hj c_6) _ _ hP hD hS ls (lv_sub hl [1, 2, 0] rfl)
        · skip
          refine lv_aload_n hx hb d_FL_layArcs_23 rfl (lv_at hl 0 rfl) ?_
          refine lv_aload_n hx hb d_FL_layArcs_24 rfl (lv_at hl 1 rfl) ?_
          refine va_get (D := (dC, dI)) (ci := 1) (v := .ref a1) (C := R_GR) (T := F_GR) (N := 5) hx hb hts in_GR hown hK.1 hP 3 rfl rfl 0 (by decide) (hts _ wfl_FL_34) (fun _ h9 => h9) rfl d_FL_layArcs_25 ?_
          refine lv_iload_n hx hb d_FL_layArcs_28 rfl (lv_at hl 2 rfl) ?_
          refine x_iald (n := 41) (f := (nF F)) (j := i) hx hb hK.1 hP 4 0 rfl rfl (by omega) (by omega) d_FL_layArcs_29 ?_
          refine xe_i (y := (nI (F i))) rfl ?_
          refine lv_aload_n hx hb d_FL_layArcs_30 rfl (lv_at hl 1 rfl) ?_
          refine va_get (D := (dC, dI)) (ci := 1) (v := .ref a2) (C := R_GR) (T := F_GR) (N := 5) hx hb hts in_GR hown hK.1 hP 3 rfl rfl 1 (by decide) (hts _ wfl_FL_37) (fun _ h9 => h9) rfl d_FL_layArcs_31 ?_
          refine lv_iload_n hx hb d_FL_layArcs_34 rfl (lv_at hl 2 rfl) ?_
          refine x_iald (n := 41) (f := (nF G)) (j := i) hx hb hK.1 hP 5 0 rfl rfl (by omega) (by omega) d_FL_layArcs_35 ?_
          refine xe_i (y := (nI (G i))) rfl ?_
          refine lv_iconst (v := (nI 1)) hx hb d_FL_layArcs_36 (by decide) ?_
          refine x_cv (k_V (n := 3) (C := R_FL) (rest := []) ⟨hx, hb, hml, hown, hts⟩ (c_FL_change_p l dC dI cI cJ cZ fl rm op bf sn C2 O2 (F i) (G i) (Nat.lt_trans (hF _) (by decide)) (Nat.lt_trans (hG _) (by decide)) hj.1 (fun p => Nat.le_trans (hC2 p) (by decide))) wml_FL_40 wim_FL_change wsel_FL_change wini_FL wcode_FL_change (by decide +kernel) ⟨Nat.le_of_ble_eq_true rfl, Nat.le_of_ble_eq_true rfl⟩ (preV_M (q := (R_FL, F_FL, 4)) (ci := 4) (q0 := 0) (hP.sub (ws' := [(fl, .inr (4, [.ref rm, .ref op, .ref bf, .int sn])), (rm, .inl (cI, 784, .inl (nF C2))), (op, .inl (cI, 28, .inl O2))]) [0, 1, 2] rfl) hK (hD.sub (ws' := [(fl, .inr (4, [.ref rm, .ref op, .ref bf, .int sn])), (rm, .inl (cI, 784, .inl (nF C2))), (op, .inl (cI, 28, .inl O2))]) [0, 1, 2] (by decide) rfl) rfl rfl) rfl hl.1 rfl (Nat.le_of_ble_eq_true rfl) d_FL_layArcs_37 ⟨Nat.zero_le _, Nat.zero_le _⟩) hP hD hS [0, 1, 2] rfl (fun _ => rfl) (fun u_7 H locs hu_7 hP hS => ?_)
          obtain ⟨O9_7, rfl⟩ : ∃ z, z = u_7 := ⟨_, rfl⟩
          have hP : va_P (dC, dI) cls [(fl, .inr (4, [.ref rm, .ref op, .ref bf, .int sn])), (rm, .inl (cI, 784, .inl (nF (va_up C2 ((F i) * 28 + (G i)) (C2 ((F i) * 28 + (G i)) + 1))))), (op, .inl (cI, 28, .inl O9_7)), (g, .inr (1, [.ref a1, .ref a2, .int (nI nd), .int (nI ar), .long pr])), (a1, .inl (cI, 41, .inl (nF F))), (a2, .inl (cI, 41, .inl (nF G)))] H := hP
          have hD := hD.addr (ws' := [(fl, .inr (4, [.ref rm, .ref op, .ref bf, .int sn])), (rm, .inl (cI, 784, .inl (nF (va_up C2 ((F i) * 28 + (G i)) (C2 ((F i) * 28 + (G i)) + 1))))), (op, .inl (cI, 28, .inl O9_7)), (g, .inr (1, [.ref a1, .ref a2, .int (nI nd), .int (nI ar), .long pr])), (a1, .inl (cI, 41, .inl (nF F))), (a2, .inl (cI, 41, .inl (nF G)))]) rfl
          refine lv_aload_n hx hb d_FL_layArcs_40 rfl (lv_at hl 0 rfl) ?_
          refine lv_aload_n hx hb d_FL_layArcs_41 rfl (lv_at hl 1 rfl) ?_
          refine va_get (D := (dC, dI)) (ci := 1) (v := .ref a2) (C := R_GR) (T := F_GR) (N := 5) hx hb hts in_GR hown hK.1 hP 3 rfl rfl 1 (by decide) (hts _ wfl_FL_37) (fun _ h9 => h9) rfl d_FL_layArcs_42 ?_
          refine lv_iload_n hx hb d_FL_layArcs_45 rfl (lv_at hl 2 rfl) ?_
          refine x_iald (n := 41) (f := (nF G)) (j := i) hx hb hK.1 hP 5 0 rfl rfl (by omega) (by omega) d_FL_layArcs_46 ?_
          refine xe_i (y := (nI (G i))) rfl ?_
          refine lv_aload_n hx hb d_FL_layArcs_47 rfl (lv_at hl 1 rfl) ?_
          refine va_get (D := (dC, dI)) (ci := 1) (v := .ref a1) (C := R_GR) (T := F_GR) (N := 5) hx hb hts in_GR hown hK.1 hP 3 rfl rfl 0 (by decide) (hts _ wfl_FL_34) (fun _ h9 => h9) rfl d_FL_layArcs_48 ?_
          refine lv_iload_n hx hb d_FL_layArcs_51 rfl (lv_at hl 2 rfl) ?_
          refine x_iald (n := 41) (f := (nF F)) (j := i) hx hb hK.1 hP 4 0 rfl rfl (by omega) (by omega) d_FL_layArcs_52 ?_
          refine xe_i (y := (nI (F i))) rfl ?_
          refine lv_iconst (v := (nI 1)) hx hb d_FL_layArcs_53 (by decide) ?_
          refine x_cv (k_V (n := 3) (C := R_FL) (rest := []) ⟨hx, hb, hml, hown, hts⟩ (c_FL_change_p l dC dI cI cJ cZ fl rm op bf sn (va_up C2 ((F i) * 28 + (G i)) (C2 ((F i) * 28 + (G i)) + 1)) O9_7 (G i) (F i) (Nat.lt_trans (hG _) (by decide)) (Nat.lt_trans (hF _) (by decide)) hu_7 (fun p => Nat.le_trans (up_le hC2 p) (by decide))) wml_FL_40 wim_FL_change wsel_FL_change wini_FL wcode_FL_change (by decide +kernel) ⟨Nat.le_of_ble_eq_true rfl, Nat.le_of_ble_eq_true rfl⟩ (preV_M (q := (R_FL, F_FL, 4)) (ci := 4) (q0 := 0) (hP.sub (ws' := [(fl, .inr (4, [.ref rm, .ref op, .ref bf, .int sn])), (rm, .inl (cI, 784, .inl (nF (va_up C2 ((F i) * 28 + (G i)) (C2 ((F i) * 28 + (G i)) + 1))))), (op, .inl (cI, 28, .inl O9_7))]) [0, 1, 2] rfl) hK (hD.sub (ws' := [(fl, .inr (4, [.ref rm, .ref op, .ref bf, .int sn])), (rm, .inl (cI, 784, .inl (nF (va_up C2 ((F i) * 28 + (G i)) (C2 ((F i) * 28 + (G i)) + 1))))), (op, .inl (cI, 28, .inl O9_7))]) [0, 1, 2] (by decide) rfl) rfl rfl) rfl hl.1 rfl (Nat.le_of_ble_eq_true rfl) d_FL_layArcs_54 ⟨Nat.zero_le _, Nat.zero_le _⟩) hP hD hS [0, 1, 2] rfl (fun _ => rfl) (fun u_8 H locs hu_8 hP hS => ?_)
          obtain ⟨O9_8, rfl⟩ : ∃ z, z = u_8 := ⟨_, rfl⟩
          have hP : va_P (dC, dI) cls [(fl, .inr (4, [.ref rm, .ref op, .ref bf, .int sn])), (rm, .inl (cI, 784, .inl (nF (va_up (va_up C2 ((F i) * 28 + (G i)) (C2 ((F i) * 28 + (G i)) + 1)) ((G i) * 28 + (F i)) ((va_up C2 ((F i) * 28 + (G i)) (C2 ((F i) * 28 + (G i)) + 1)) ((G i) * 28 + (F i)) + 1))))), (op, .inl (cI, 28, .inl O9_8)), (g, .inr (1, [.ref a1, .ref a2, .int (nI nd), .int (nI ar), .long pr])), (a1, .inl (cI, 41, .inl (nF F))), (a2, .inl (cI, 41, .inl (nF G)))] H := hP
          have hD := hD.addr (ws' := [(fl, .inr (4, [.ref rm, .ref op, .ref bf, .int sn])), (rm, .inl (cI, 784, .inl (nF (va_up (va_up C2 ((F i) * 28 + (G i)) (C2 ((F i) * 28 + (G i)) + 1)) ((G i) * 28 + (F i)) ((va_up C2 ((F i) * 28 + (G i)) (C2 ((F i) * 28 + (G i)) + 1)) ((G i) * 28 + (F i)) + 1))))), (op, .inl (cI, 28, .inl O9_8)), (g, .inr (1, [.ref a1, .ref a2, .int (nI nd), .int (nI ar), .long pr])), (a1, .inl (cI, 41, .inl (nF F))), (a2, .inl (cI, 41, .inl (nF G)))]) rfl
          refine lv_iinc (v := (nI (i + 1))) (lv' := [(2, .int (nI (i + 1))), (0, .ref fl), (1, .ref g)]) hx hb d_FL_layArcs_57 hl (k := 2) rfl (nI_1 _) (by decide) rfl (fun ls hl => ?_)
          refine lv_goto (tgt := 6) hx hb d_FL_layArcs_60 (by decide) ?_
          exact ih_6 (va_up (va_up C2 ((F i) * 28 + (G i)) (C2 ((F i) * 28 + (G i)) + 1)) ((G i) * 28 + (F i)) ((va_up C2 ((F i) * 28 + (G i)) (C2 ((F i) * 28 + (G i)) + 1)) ((G i) * 28 + (F i)) + 1)) O9_8 (i + 1) (by omega) (by first | assumption | omega) (laI_t hF hG hj c_6 rfl rfl hu_8) _ _ hP hD hS ls (lv_sub hl [1, 2, 0] rfl)
  exact L6_2 ((40 - 0) + 1) (fun _ => 0) O9_1 0 (Nat.lt_succ_self _) (by first | assumption | omega) (laI_0 hu_1) _ _ hP hD hS ls (lv_sub hl [1, 2, 0] rfl)

theorem d_FL_layNodes_0 : decode prog_3_method_4_code 0 = .ok (.aload_n 0, 1) := by decide +kernel
theorem d_FL_layNodes_1 : decode prog_3_method_4_code 1 = .ok (.invokevirtual 21, 3) := by decide +kernel
theorem d_FL_layNodes_4 : decode prog_3_method_4_code 4 = .ok (.iconst 0, 1) := by decide +kernel
theorem d_FL_layNodes_5 : decode prog_3_method_4_code 5 = .ok (.istore_n 2, 1) := by decide +kernel
theorem d_FL_layNodes_6 : decode prog_3_method_4_code 6 = .ok (.iload_n 2, 1) := by decide +kernel
theorem d_FL_layNodes_7 : decode prog_3_method_4_code 7 = .ok (.bipush 14, 2) := by decide +kernel
theorem d_FL_layNodes_9 : decode prog_3_method_4_code 9 = .ok (.if_icmp .ge 57, 3) := by decide +kernel
theorem d_FL_layNodes_12 : decode prog_3_method_4_code 12 = .ok (.aload_n 0, 1) := by decide +kernel
theorem d_FL_layNodes_13 : decode prog_3_method_4_code 13 = .ok (.iload_n 2, 1) := by decide +kernel
theorem d_FL_layNodes_14 : decode prog_3_method_4_code 14 = .ok (.iload_n 2, 1) := by decide +kernel
theorem d_FL_layNodes_15 : decode prog_3_method_4_code 15 = .ok (.invokestatic 44, 3) := by decide +kernel
theorem d_FL_layNodes_18 : decode prog_3_method_4_code 18 = .ok (.iconst 1, 1) := by decide +kernel
theorem d_FL_layNodes_19 : decode prog_3_method_4_code 19 = .ok (.invokevirtual 40, 3) := by decide +kernel
theorem d_FL_layNodes_22 : decode prog_3_method_4_code 22 = .ok (.iconst 0, 1) := by decide +kernel
theorem d_FL_layNodes_23 : decode prog_3_method_4_code 23 = .ok (.istore_n 3, 1) := by decide +kernel
theorem d_FL_layNodes_24 : decode prog_3_method_4_code 24 = .ok (.iload_n 3, 1) := by decide +kernel
theorem d_FL_layNodes_25 : decode prog_3_method_4_code 25 = .ok (.bipush 14, 2) := by decide +kernel
theorem d_FL_layNodes_27 : decode prog_3_method_4_code 27 = .ok (.if_icmp .ge 33, 3) := by decide +kernel
theorem d_FL_layNodes_30 : decode prog_3_method_4_code 30 = .ok (.aload_n 1, 1) := by decide +kernel
theorem d_FL_layNodes_31 : decode prog_3_method_4_code 31 = .ok (.getfield 48, 3) := by decide +kernel
theorem d_FL_layNodes_34 : decode prog_3_method_4_code 34 = .ok (.iload_n 2, 1) := by decide +kernel
theorem d_FL_layNodes_35 : decode prog_3_method_4_code 35 = .ok (.iaload, 1) := by decide +kernel
theorem d_FL_layNodes_36 : decode prog_3_method_4_code 36 = .ok (.i2l, 1) := by decide +kernel
theorem d_FL_layNodes_37 : decode prog_3_method_4_code 37 = .ok (.iload_n 3, 1) := by decide +kernel
theorem d_FL_layNodes_38 : decode prog_3_method_4_code 38 = .ok (.invokestatic 30, 3) := by decide +kernel
theorem d_FL_layNodes_41 : decode prog_3_method_4_code 41 = .ok (.ifCond .eq 13, 3) := by decide +kernel
theorem d_FL_layNodes_44 : decode prog_3_method_4_code 44 = .ok (.aload_n 0, 1) := by decide +kernel
theorem d_FL_layNodes_45 : decode prog_3_method_4_code 45 = .ok (.iload_n 2, 1) := by decide +kernel
theorem d_FL_layNodes_46 : decode prog_3_method_4_code 46 = .ok (.invokestatic 44, 3) := by decide +kernel
theorem d_FL_layNodes_49 : decode prog_3_method_4_code 49 = .ok (.iload_n 3, 1) := by decide +kernel
theorem d_FL_layNodes_50 : decode prog_3_method_4_code 50 = .ok (.iconst 1, 1) := by decide +kernel
theorem d_FL_layNodes_51 : decode prog_3_method_4_code 51 = .ok (.invokevirtual 40, 3) := by decide +kernel
theorem d_FL_layNodes_54 : decode prog_3_method_4_code 54 = .ok (.iinc 3 1, 3) := by decide +kernel
theorem d_FL_layNodes_57 : decode prog_3_method_4_code 57 = .ok (.goto (-33), 3) := by decide +kernel
theorem d_FL_layNodes_60 : decode prog_3_method_4_code 60 = .ok (.iinc 2 1, 3) := by decide +kernel
theorem d_FL_layNodes_63 : decode prog_3_method_4_code 63 = .ok (.goto (-57), 3) := by decide +kernel
theorem d_FL_layNodes_66 : decode prog_3_method_4_code 66 = .ok (.return_, 1) := by decide +kernel
set_option maxHeartbeats 4000000 in
set_option maxRecDepth 100000 in
theorem c_FL_layNodes (l : Launch) (dC : Nat → ClassId) (dI : Nat → Nat → Nat) (cI cJ cZ : ClassId) (fl rm op bf : Nat) (sn : Int32) (g0 O0 : Nat → Int32) (k nr fr rs at_ h : Nat) (al : Int32) (br : Int64) (N : Nat → Int32) : Met l ⟨"CutPoints$Flow", "layNodes", "(LCutPoints$Sketch;)V"⟩ (Cond.code ⟨"CutPoints$Flow", "layNodes", "(LCutPoints$Sketch;)V"⟩ prog_3_method_4_code 4 none :: TT) (rmk 2 43) (PM dC dI cI cJ cZ [.ref fl, .ref k] [(fl, .inr (4, [.ref rm, .ref op, .ref bf, .int sn])), (rm, .inl (cI, 784, .inl g0)), (op, .inl (cI, 28, .inl O0)), (k, .inr (2, [.ref nr, .ref fr, .ref rs, .ref at_, .ref h, .int al, .long br])), (nr, .inl (cI, 14, .inl N))]) (va_Qv (S := (Nat → Nat) × (Nat → Int32)) (fun u9 => lnI N u9.1 u9.2 14) (fun u9 t9 => va_P (dC, dI) cls ([(fl, .inr (4, [.ref rm, .ref op, .ref bf, .int sn])), (rm, .inl (cI, 784, .inl (nF u9.1))), (op, .inl (cI, 28, .inl u9.2)), (k, .inr (2, [.ref nr, .ref fr, .ref rs, .ref at_, .ref h, .int al, .long br])), (nr, .inl (cI, 14, .inl N))]) t9.heap) (ow [(fl, .inr (4, [.ref rm, .ref op, .ref bf, .int sn])), (rm, .inl (cI, 784, .inl g0)), (op, .inl (cI, 28, .inl O0)), (k, .inr (2, [.ref nr, .ref fr, .ref rs, .ref at_, .ref h, .int al, .long br])), (nr, .inl (cI, 14, .inl N))])) 0 0 (ow [(fl, .inr (4, [.ref rm, .ref op, .ref bf, .int sn])), (rm, .inl (cI, 784, .inl g0)), (op, .inl (cI, 28, .inl O0)), (k, .inr (2, [.ref nr, .ref fr, .ref rs, .ref at_, .ref h, .int al, .long br])), (nr, .inl (cI, 14, .inl N))]) := by
  refine Met.ofW (cc := prog_3_method_4_code) (maxL := 4) (ret := none) (by decide) rfl ?_
  intro p e s m args below meth c s₁ B hml hv
  obtain ⟨rfl, hP, hK, hD0⟩ := hv
  have hx := B.exec
  have hb := B.bytes
  have hr := B.returns
  have hts : ∀ w ∈ TT, w.before _ s = true := fun w h => atoms_spec (ws := (Cond.code ⟨"CutPoints$Flow", "layNodes", "(LCutPoints$Sketch;)V"⟩ prog_3_method_4_code 4 none :: TT)) B.pre w (List.mem_cons_of_mem _ h)
  have hown : s.vm.findClass "CutPoints$Flow" = some m.cls := findClass_of_methodNamed B.named
  have hlocks := B.notSynchronized
  have hD := hD0.mine
  have hS : va_S (ow [(fl, .inr (4, [.ref rm, .ref op, .ref bf, .int sn])), (rm, .inl (cI, 784, .inl g0)), (op, .inl (cI, 28, .inl O0)), (k, .inr (2, [.ref nr, .ref fr, .ref rs, .ref at_, .ref h, .int al, .long br])), (nr, .inl (cI, 14, .inl N))]) s.heap s.heap [] := va_S.rf
  have hl := lv_entry ([.ref fl, .ref k]) (n := 4) (Nat.le_of_ble_eq_true rfl)
  rw [lg_entry_eq]
  generalize (lg_sl ([.ref fl, .ref k]) ++ List.replicate (4 - (lg_sl ([.ref fl, .ref k])).length) Slot.unset).toArray = ls at hl ⊢
  have hl : lv_has ls 4 [(0, .ref fl), (1, .ref k)] := hl
  refine lv_aload_n hx hb d_FL_layNodes_0 rfl (lv_at hl 0 rfl) ?_
  refine x_cv (k_V (n := 0) (C := R_FL) (rest := []) ⟨hx, hb, hml, hown, hts⟩ (c_FL_forget l dC dI cI cJ cZ fl rm op bf sn g0 O0) wml_FL_21 wim_FL_forget wsel_FL_forget wini_FL wcode_FL_forget (by decide +kernel) ⟨Nat.le_of_ble_eq_true rfl, Nat.le_of_ble_eq_true rfl⟩ (preV_M (q := (R_FL, F_FL, 4)) (ci := 4) (q0 := 0) (hP.sub (ws' := [(fl, .inr (4, [.ref rm, .ref op, .ref bf, .int sn])), (rm, .inl (cI, 784, .inl g0)), (op, .inl (cI, 28, .inl O0))]) [0, 1, 2] rfl) hK (hD.sub (ws' := [(fl, .inr (4, [.ref rm, .ref op, .ref bf, .int sn])), (rm, .inl (cI, 784, .inl g0)), (op, .inl (cI, 28, .inl O0))]) [0, 1, 2] (by decide) rfl) rfl rfl) rfl hl.1 rfl (Nat.le_of_ble_eq_true rfl) d_FL_layNodes_1 ⟨Nat.zero_le _, Nat.zero_le _⟩) hP hD hS [0, 1, 2] rfl (fun _ => rfl) (fun u_1 H locs hu_1 hP hS => ?_)
  obtain ⟨O9_1, rfl⟩ : ∃ z, z = u_1 := ⟨_, rfl⟩
  have hP : va_P (dC, dI) cls [(fl, .inr (4, [.ref rm, .ref op, .ref bf, .int sn])), (rm, .inl (cI, 784, .inl (nF (fun _ => 0)))), (op, .inl (cI, 28, .inl O9_1)), (k, .inr (2, [.ref nr, .ref fr, .ref rs, .ref at_, .ref h, .int al, .long br])), (nr, .inl (cI, 14, .inl N))] H := hP
  have hD := hD.addr (ws' := [(fl, .inr (4, [.ref rm, .ref op, .ref bf, .int sn])), (rm, .inl (cI, 784, .inl (nF (fun _ => 0)))), (op, .inl (cI, 28, .inl O9_1)), (k, .inr (2, [.ref nr, .ref fr, .ref rs, .ref at_, .ref h, .int al, .long br])), (nr, .inl (cI, 14, .inl N))]) rfl
  refine lv_iconst (v := (nI 0)) hx hb d_FL_layNodes_4 (by decide) ?_
  refine lv_istore_n (lv' := [(2, .int (nI 0)), (0, .ref fl), (1, .ref k)]) hx hb d_FL_layNodes_5 rfl hl (by decide) rfl (fun ls hl => ?_)
  have L6_2 : ∀ (n : Nat) (C2 : Nat → Nat) (O2 : Nat → Int32) (u : Nat) (hn : 14 - u < n) (hu : u ≤ 14) (hi : lnI N C2 O2 u) (H : Heap) (locs : List Loc) (hP : va_P (dC, dI) cls [(fl, .inr (4, [.ref rm, .ref op, .ref bf, .int sn])), (rm, .inl (cI, 784, .inl (nF C2))), (op, .inl (cI, 28, .inl O2)), (k, .inr (2, [.ref nr, .ref fr, .ref rs, .ref at_, .ref h, .int al, .long br])), (nr, .inl (cI, 14, .inl N))] H) (hD : va_D (ow [(fl, .inr (4, [.ref rm, .ref op, .ref bf, .int sn])), (rm, .inl (cI, 784, .inl g0)), (op, .inl (cI, 28, .inl O0)), (k, .inr (2, [.ref nr, .ref fr, .ref rs, .ref at_, .ref h, .int al, .long br])), (nr, .inl (cI, 14, .inl N))]) [(fl, .inr (4, [.ref rm, .ref op, .ref bf, .int sn])), (rm, .inl (cI, 784, .inl (nF C2))), (op, .inl (cI, 28, .inl O2)), (k, .inr (2, [.ref nr, .ref fr, .ref rs, .ref at_, .ref h, .int al, .long br])), (nr, .inl (cI, 14, .inl N))]) (hS : va_S (ow [(fl, .inr (4, [.ref rm, .ref op, .ref bf, .int sn])), (rm, .inl (cI, 784, .inl g0)), (op, .inl (cI, 28, .inl O0)), (k, .inr (2, [.ref nr, .ref fr, .ref rs, .ref at_, .ref h, .int al, .long br])), (nr, .inl (cI, 14, .inl N))]) s.heap H locs) (ls : Array Slot) (hl : lv_has ls 4 [(0, .ref fl), (1, .ref k), (2, .int (nI u))]), W p l e (headSpec (Cond.code ⟨"CutPoints$Flow", "layNodes", "(LCutPoints$Sketch;)V"⟩ prog_3_method_4_code 4 none :: TT) (rmk 2 43)).room s m ([.ref fl, .ref k] : List Value).toArray below meth c H locs 0 0 (MQ below (va_Qv (S := (Nat → Nat) × (Nat → Int32)) (fun u9 => lnI N u9.1 u9.2 14) (fun u9 t9 => va_P (dC, dI) cls ([(fl, .inr (4, [.ref rm, .ref op, .ref bf, .int sn])), (rm, .inl (cI, 784, .inl (nF u9.1))), (op, .inl (cI, 28, .inl u9.2)), (k, .inr (2, [.ref nr, .ref fr, .ref rs, .ref at_, .ref h, .int al, .long br])), (nr, .inl (cI, 14, .inl N))]) t9.heap) (ow [(fl, .inr (4, [.ref rm, .ref op, .ref bf, .int sn])), (rm, .inl (cI, 784, .inl g0)), (op, .inl (cI, 28, .inl O0)), (k, .inr (2, [.ref nr, .ref fr, .ref rs, .ref at_, .ref h, .int al, .long br])), (nr, .inl (cI, 14, .inl N))])) ([.ref fl, .ref k] : List Value).toArray s 0 0 (ow [(fl, .inr (4, [.ref rm, .ref op, .ref bf, .int sn])), (rm, .inl (cI, 784, .inl g0)), (op, .inl (cI, 28, .inl O0)), (k, .inr (2, [.ref nr, .ref fr, .ref rs, .ref at_, .ref h, .int al, .long br])), (nr, .inl (cI, 14, .inl N))])) (F0 m 6 ls []) := by
    intro n_6
    induction n_6 with
    | zero =>
      intro C2 O2 u hn_6
      exact absurd hn_6 (Nat.not_lt_zero _)
    | succ n_6 ih_6 =>
      intro C2 O2 u hn_6 hu hi H locs hP hD hS ls hl
      have hC2 : ∀ p, C2 p ≤ 210 := fun p => by have := hi.2.2 p; omega
      refine lv_iload_n hx hb d_FL_layNodes_6 rfl (lv_at hl 2 rfl) ?_
      refine lv_bipush (v := (nI 14)) hx hb d_FL_layNodes_7 (by decide) ?_
      refine x_cmp_ge (a := u) (b := 14) (tgt := 66) hx hb (by omega) (by omega) d_FL_layNodes_9 (by decide) (fun c_3 => ?_) (fun c_3 => ?_)
      · skip
        exact W.vret hx hb hr (fun t9 ht9 _ => ⟨⟨(C2, O2), rfl, (by have e9 : u = 14 := (by omega); subst e9; exact hi), by show va_P (dC, dI) cls _ t9.heap; rw [ht9]; exact hP⟩, hS.F ht9⟩) hS.2.2 d_FL_layNodes_66
      · skip
        refine lv_aload_n hx hb d_FL_layNodes_12 rfl (lv_at hl 0 rfl) ?_
        refine lv_iload_n hx hb d_FL_layNodes_13 rfl (lv_at hl 2 rfl) ?_
        refine lv_iload_n hx hb d_FL_layNodes_14 rfl (lv_at hl 2 rfl) ?_
        refine vp_callSi (va_Run.run (k_S (n := 1) (rest := [.int (nI u), .ref fl]) ⟨hx, hb, hml, hown, hts⟩ (c_FL_outOf l dC dI cI cJ cZ u) wml_FL_44 wst_FL_outOf wini_FL wcode_FL_outOf (by decide +kernel) ⟨Nat.le_of_ble_eq_true rfl, Nat.le_of_ble_eq_true rfl⟩ (pre_R (hP.sub (ws' := []) [] rfl) hK) rfl hl.1 rfl (Nat.le_of_ble_eq_true rfl) d_FL_layNodes_15 ⟨Nat.zero_le _, Nat.zero_le _⟩)) (fun r_4 hr_5 => ?_)
        refine xe_i (y := (nI (u + 14))) hr_5 ?_
        refine lv_iconst (v := (nI 1)) hx hb d_FL_layNodes_18 (by decide) ?_
        refine x_cv (k_V (n := 3) (C := R_FL) (rest := []) ⟨hx, hb, hml, hown, hts⟩ (c_FL_change_p l dC dI cI cJ cZ fl rm op bf sn C2 O2 u (u + 14) (by first | assumption | omega) (by first | assumption | omega) hi.1 (fun p => Nat.le_trans (hC2 p) (by decide))) wml_FL_40 wim_FL_change wsel_FL_change wini_FL wcode_FL_change (by decide +kernel) ⟨Nat.le_of_ble_eq_true rfl, Nat.le_of_ble_eq_true rfl⟩ (preV_M (q := (R_FL, F_FL, 4)) (ci := 4) (q0 := 0) (hP.sub (ws' := [(fl, .inr (4, [.ref rm, .ref op, .ref bf, .int sn])), (rm, .inl (cI, 784, .inl (nF C2))), (op, .inl (cI, 28, .inl O2))]) [0, 1, 2] rfl) hK (hD.sub (ws' := [(fl, .inr (4, [.ref rm, .ref op, .ref bf, .int sn])), (rm, .inl (cI, 784, .inl (nF C2))), (op, .inl (cI, 28, .inl O2))]) [0, 1, 2] (by decide) rfl) rfl rfl) rfl hl.1 rfl (Nat.le_of_ble_eq_true rfl) d_FL_layNodes_19 ⟨Nat.zero_le _, Nat.zero_le _⟩) hP hD hS [0, 1, 2] rfl (fun _ => rfl) (fun u_6 H locs hu_6 hP hS => ?_)
        obtain ⟨O9_6, rfl⟩ : ∃ z, z = u_6 := ⟨_, rfl⟩
        have hP : va_P (dC, dI) cls [(fl, .inr (4, [.ref rm, .ref op, .ref bf, .int sn])), (rm, .inl (cI, 784, .inl (nF (va_up C2 (u * 28 + (u + 14)) (C2 (u * 28 + (u + 14)) + 1))))), (op, .inl (cI, 28, .inl O9_6)), (k, .inr (2, [.ref nr, .ref fr, .ref rs, .ref at_, .ref h, .int al, .long br])), (nr, .inl (cI, 14, .inl N))] H := hP
        have hD := hD.addr (ws' := [(fl, .inr (4, [.ref rm, .ref op, .ref bf, .int sn])), (rm, .inl (cI, 784, .inl (nF (va_up C2 (u * 28 + (u + 14)) (C2 (u * 28 + (u + 14)) + 1))))), (op, .inl (cI, 28, .inl O9_6)), (k, .inr (2, [.ref nr, .ref fr, .ref rs, .ref at_, .ref h, .int al, .long br])), (nr, .inl (cI, 14, .inl N))]) rfl
        refine lv_iconst (v := (nI 0)) hx hb d_FL_layNodes_22 (by decide) ?_
        refine lv_istore_n (lv' := [(3, .int (nI 0)), (0, .ref fl), (1, .ref k), (2, .int (nI u))]) hx hb d_FL_layNodes_23 rfl hl (by decide) rfl (fun ls hl => ?_)
        have L24_7 : ∀ (n : Nat) (C2 : Nat → Nat) (O2 : Nat → Int32) (j : Nat) (hn : 14 - j < n) (hj14 : j ≤ 14) (hj : lnJ N C2 O2 u j) (H : Heap) (locs : List Loc) (hP : va_P (dC, dI) cls [(fl, .inr (4, [.ref rm, .ref op, .ref bf, .int sn])), (rm, .inl (cI, 784, .inl (nF C2))), (op, .inl (cI, 28, .inl O2)), (k, .inr (2, [.ref nr, .ref fr, .ref rs, .ref at_, .ref h, .int al, .long br])), (nr, .inl (cI, 14, .inl N))] H) (hD : va_D (ow [(fl, .inr (4, [.ref rm, .ref op, .ref bf, .int sn])), (rm, .inl (cI, 784, .inl g0)), (op, .inl (cI, 28, .inl O0)), (k, .inr (2, [.ref nr, .ref fr, .ref rs, .ref at_, .ref h, .int al, .long br])), (nr, .inl (cI, 14, .inl N))]) [(fl, .inr (4, [.ref rm, .ref op, .ref bf, .int sn])), (rm, .inl (cI, 784, .inl (nF C2))), (op, .inl (cI, 28, .inl O2)), (k, .inr (2, [.ref nr, .ref fr, .ref rs, .ref at_, .ref h, .int al, .long br])), (nr, .inl (cI, 14, .inl N))]) (hS : va_S (ow [(fl, .inr (4, [.ref rm, .ref op, .ref bf, .int sn])), (rm, .inl (cI, 784, .inl g0)), (op, .inl (cI, 28, .inl O0)), (k, .inr (2, [.ref nr, .ref fr, .ref rs, .ref at_, .ref h, .int al, .long br])), (nr, .inl (cI, 14, .inl N))]) s.heap H locs) (ls : Array Slot) (hl : lv_has ls 4 [(0, .ref fl), (1, .ref k), (2, .int (nI u)), (3, .int (nI j))]), W p l e (headSpec (Cond.code ⟨"CutPoints$Flow", "layNodes", "(LCutPoints$Sketch;)V"⟩ prog_3_method_4_code 4 none :: TT) (rmk 2 43)).room s m ([.ref fl, .ref k] : List Value).toArray below meth c H locs 0 0 (MQ below (va_Qv (S := (Nat → Nat) × (Nat → Int32)) (fun u9 => lnI N u9.1 u9.2 14) (fun u9 t9 => va_P (dC, dI) cls ([(fl, .inr (4, [.ref rm, .ref op, .ref bf, .int sn])), (rm, .inl (cI, 784, .inl (nF u9.1))), (op, .inl (cI, 28, .inl u9.2)), (k, .inr (2, [.ref nr, .ref fr, .ref rs, .ref at_, .ref h, .int al, .long br])), (nr, .inl (cI, 14, .inl N))]) t9.heap) (ow [(fl, .inr (4, [.ref rm, .ref op, .ref bf, .int sn])), (rm, .inl (cI, 784, .inl g0)), (op, .inl (cI, 28, .inl O0)), (k, .inr (2, [.ref nr, .ref fr, .ref rs, .ref at_, .ref h, .int al, .long br])), (nr, .inl (cI, 14, .inl N))])) ([.ref fl, .ref k] : List Value).toArray s 0 0 (ow [(fl, .inr (4, [.ref rm, .ref op, .ref bf, .int sn])), (rm, .inl (cI, 784, .inl g0)), (op, .inl (cI, 28, .inl O0)), (k, .inr (2, [.ref nr, .ref fr, .ref rs, .ref at_, .ref h, .int al, .long br])), (nr, .inl (cI, 14, .inl N))])) (F0 m 24 ls []) := by
          intro n_24
          induction n_24 with
          | zero =>
            intro C2 O2 j hn_24
            exact absurd hn_24 (Nat.not_lt_zero _)
          | succ n_24 ih_24 =>
            intro C2 O2 j hn_24 hj14 hj H locs hP hD hS ls hl
            have hC3 : ∀ p, C2 p ≤ 225 := fun p => by have := hj.2.2 p; omega
            refine lv_iload_n hx hb d_FL_layNodes_24 rfl (lv_at hl 3 rfl) ?_
            refine lv_bipush (v := (nI 14)) hx hb d_FL_layNodes_25 (by decide) ?_
            refine x_cmp_ge (a := j) (b := 14) (tgt := 60) hx hb (by omega) (by omega) d_FL_layNodes_27 (by decide) (fun c_8 => ?_) (fun c_8 => ?_)
            · skip
              refine lv_iinc (v := (nI (u + 1))) (lv' := [(2, .int (nI (u + 1))), (0, .ref fl), (1, .ref k), (3, .int (nI j))]) hx hb d_FL_layNodes_60 hl (k := 2) rfl (nI_1 _) (by decide) rfl (fun ls hl => ?_)
              refine lv_goto (tgt := 6) hx hb d_FL_layNodes_63 (by decide) ?_
              exact ih_6 C2 O2 (u + 1) (by omega) (by first | assumption | omega) (lnI_n hj (by omega)) _ _ hP hD hS ls (lv_sub hl [1, 2, 0] rfl)
            · skip
              refine lv_aload_n hx hb d_FL_layNodes_30 rfl (lv_at hl 1 rfl) ?_
              refine va_get (D := (dC, dI)) (ci := 2) (v := .ref nr) (C := R_SK) (T := F_SK) (N := 7) hx hb hts in_SK hown hK.1 hP 3 rfl rfl 0 (by decide) (hts _ wfl_FL_48) (fun _ h9 => h9) rfl d_FL_layNodes_31 ?_
              refine lv_iload_n hx hb d_FL_layNodes_34 rfl (lv_at hl 2 rfl) ?_
              refine x_iald (n := 14) (f := N) (j := u) hx hb hK.1 hP 4 0 rfl rfl (by omega) (by omega) d_FL_layNodes_35 ?_
              refine lv_i2l (v := ((N u).toInt64)) hx hb d_FL_layNodes_36 rfl ?_
              refine lv_iload_n hx hb d_FL_layNodes_37 rfl (lv_at hl 3 rfl) ?_
              refine vp_callSi (va_Run.run (k_SN (n := 2) (rest := []) ⟨hx, hb, hml, hown, hts⟩ (c_CP_hasBit l dC dI cI cJ cZ ((N u).toInt64) j (by first | assumption | omega)) hK wmn_FL_30 wst_CP_hasBit wini_CP wcode_CP_hasBit (by decide +kernel) ⟨Nat.le_of_ble_eq_true rfl, Nat.le_of_ble_eq_true rfl⟩ (pre_R (hP.sub (ws' := []) [] rfl) hK) rfl hl.1 rfl (Nat.le_of_ble_eq_true rfl) d_FL_layNodes_38 ⟨Nat.zero_le _, Nat.zero_le _⟩)) (fun r_9 hr_10 => ?_)
              refine xe_i (y := (bI (lb ((N u).toInt64) j))) hr_10 ?_
              refine xe_i (y := (bI (bt (N u) j))) (by rw [lb_i2l _ (by omega)]) ?_
              refine x_if_eq (tgt := 54) hx hb d_FL_layNodes_41 (by decide) (fun c_11 => ?_) (fun c_11 => ?_)
              · skip
                refine lv_iinc (v := (nI (j + 1))) (lv' := [(3, .int (nI (j + 1))), (0, .ref fl), (1, .ref k), (2, .int (nI u))]) hx hb d_FL_layNodes_54 hl (k := 3) rfl (nI_1 _) (by decide) rfl (fun ls hl => ?_)
                refine lv_goto (tgt := 24) hx hb d_FL_layNodes_57 (by decide) ?_
                exact ih_24 C2 O2 (j + 1) (by omega) (by first | assumption | omega) (lnJ_f hj c_11) _ _ hP hD hS ls (lv_sub hl [1, 2, 3, 0] rfl)
              · skip
                refine lv_aload_n hx hb d_FL_layNodes_44 rfl (lv_at hl 0 rfl) ?_
                refine lv_iload_n hx hb d_FL_layNodes_45 rfl (lv_at hl 2 rfl) ?_
                refine vp_callSi (va_Run.run (k_S (n := 1) (rest := [.ref fl]) ⟨hx, hb, hml, hown, hts⟩ (c_FL_outOf l dC dI cI cJ cZ u) wml_FL_44 wst_FL_outOf wini_FL wcode_FL_outOf (by decide +kernel) ⟨Nat.le_of_ble_eq_true rfl, Nat.le_of_ble_eq_true rfl⟩ (pre_R (hP.sub (ws' := []) [] rfl) hK) rfl hl.1 rfl (Nat.le_of_ble_eq_true rfl) d_FL_layNodes_46 ⟨Nat.zero_le _, Nat.zero_le _⟩)) (fun r_12 hr_13 => ?_)
                refine xe_i (y := (nI (u + 14))) hr_13 ?_
                refine lv_iload_n hx hb d_FL_layNodes_49 rfl (lv_at hl 3 rfl) ?_
                refine lv_iconst (v := (nI 1)) hx hb d_FL_layNodes_50 (by decide) ?_
                refine x_cv (k_V (n := 3) (C := R_FL) (rest := []) ⟨hx, hb, hml, hown, hts⟩ (c_FL_change_p l dC dI cI cJ cZ fl rm op bf sn C2 O2 (u + 14) j (by first | assumption | omega) (by first | assumption | omega) hj.1 (fun p => Nat.le_trans (hC3 p) (by decide))) wml_FL_40 wim_FL_change wsel_FL_change wini_FL wcode_FL_change (by decide +kernel) ⟨Nat.le_of_ble_eq_true rfl, Nat.le_of_ble_eq_true rfl⟩ (preV_M (q := (R_FL, F_FL, 4)) (ci := 4) (q0 := 0) (hP.sub (ws' := [(fl, .inr (4, [.ref rm, .ref op, .ref bf, .int sn])), (rm, .inl (cI, 784, .inl (nF C2))), (op, .inl (cI, 28, .inl O2))]) [0, 1, 2] rfl) hK (hD.sub (ws' := [(fl, .inr (4, [.ref rm, .ref op, .ref bf, .int sn])), (rm, .inl (cI, 784, .inl (nF C2))), (op, .inl (cI, 28, .inl O2))]) [0, 1, 2] (by decide) rfl) rfl rfl) rfl hl.1 rfl (Nat.le_of_ble_eq_true rfl) d_FL_layNodes_51 ⟨Nat.zero_le _, Nat.zero_le _⟩) hP hD hS [0, 1, 2] rfl (fun _ => rfl) (fun u_14 H locs hu_14 hP hS => ?_)
                obtain ⟨O9_14, rfl⟩ : ∃ z, z = u_14 := ⟨_, rfl⟩
                have hP : va_P (dC, dI) cls [(fl, .inr (4, [.ref rm, .ref op, .ref bf, .int sn])), (rm, .inl (cI, 784, .inl (nF (va_up C2 ((u + 14) * 28 + j) (C2 ((u + 14) * 28 + j) + 1))))), (op, .inl (cI, 28, .inl O9_14)), (k, .inr (2, [.ref nr, .ref fr, .ref rs, .ref at_, .ref h, .int al, .long br])), (nr, .inl (cI, 14, .inl N))] H := hP
                have hD := hD.addr (ws' := [(fl, .inr (4, [.ref rm, .ref op, .ref bf, .int sn])), (rm, .inl (cI, 784, .inl (nF (va_up C2 ((u + 14) * 28 + j) (C2 ((u + 14) * 28 + j) + 1))))), (op, .inl (cI, 28, .inl O9_14)), (k, .inr (2, [.ref nr, .ref fr, .ref rs, .ref at_, .ref h, .int al, .long br])), (nr, .inl (cI, 14, .inl N))]) rfl
                refine lv_iinc (v := (nI (j + 1))) (lv' := [(3, .int (nI (j + 1))), (0, .ref fl), (1, .ref k), (2, .int (nI u))]) hx hb d_FL_layNodes_54 hl (k := 3) rfl (nI_1 _) (by decide) rfl (fun ls hl => ?_)
                refine lv_goto (tgt := 24) hx hb d_FL_layNodes_57 (by decide) ?_
                exact ih_24 (va_up C2 ((u + 14) * 28 + j) (C2 ((u + 14) * 28 + j) + 1)) O9_14 (j + 1) (by omega) (by first | assumption | omega) (lnJ_t (by assumption) (by assumption) hj c_11 hu_14) _ _ hP hD hS ls (lv_sub hl [1, 2, 3, 0] rfl)
        exact L24_7 ((14 - 0) + 1) (va_up C2 (u * 28 + (u + 14)) (C2 (u * 28 + (u + 14)) + 1)) O9_6 0 (Nat.lt_succ_self _) (by first | assumption | omega) (lnJ_0 (by assumption) hi hu_6) _ _ hP hD hS ls (lv_sub hl [1, 2, 3, 0] rfl)
  exact L6_2 ((14 - 0) + 1) (fun _ => 0) O9_1 0 (Nat.lt_succ_self _) (by first | assumption | omega) (lnI_0 hu_1) _ _ hP hD hS ls (lv_sub hl [1, 2, 0] rfl)
