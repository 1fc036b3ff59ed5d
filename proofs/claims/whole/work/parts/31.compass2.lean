theorem d_CO_fillLeads_0 : decode prog_2_method_3_code 0 = .ok (.aload_n 0, 1) := by decide +kernel
theorem d_CO_fillLeads_1 : decode prog_2_method_3_code 1 = .ok (.getfield 9, 3) := by decide +kernel
theorem d_CO_fillLeads_4 : decode prog_2_method_3_code 4 = .ok (.iconst 0, 1) := by decide +kernel
theorem d_CO_fillLeads_5 : decode prog_2_method_3_code 5 = .ok (.invokestatic 37, 3) := by decide +kernel
theorem d_CO_fillLeads_8 : decode prog_2_method_3_code 8 = .ok (.iconst 0, 1) := by decide +kernel
theorem d_CO_fillLeads_9 : decode prog_2_method_3_code 9 = .ok (.istore 6, 2) := by decide +kernel
theorem d_CO_fillLeads_11 : decode prog_2_method_3_code 11 = .ok (.iload 6, 2) := by decide +kernel
theorem d_CO_fillLeads_13 : decode prog_2_method_3_code 13 = .ok (.bipush 40, 2) := by decide +kernel
theorem d_CO_fillLeads_15 : decode prog_2_method_3_code 15 = .ok (.if_icmp .ge 76, 3) := by decide +kernel
theorem d_CO_fillLeads_18 : decode prog_2_method_3_code 18 = .ok (.lload_n 2, 1) := by decide +kernel
theorem d_CO_fillLeads_19 : decode prog_2_method_3_code 19 = .ok (.iload 6, 2) := by decide +kernel
theorem d_CO_fillLeads_21 : decode prog_2_method_3_code 21 = .ok (.invokestatic 15, 3) := by decide +kernel
theorem d_CO_fillLeads_24 : decode prog_2_method_3_code 24 = .ok (.ifCond .eq 27, 3) := by decide +kernel
theorem d_CO_fillLeads_27 : decode prog_2_method_3_code 27 = .ok (.aload_n 0, 1) := by decide +kernel
theorem d_CO_fillLeads_28 : decode prog_2_method_3_code 28 = .ok (.getfield 9, 3) := by decide +kernel
theorem d_CO_fillLeads_31 : decode prog_2_method_3_code 31 = .ok (.aload_n 1, 1) := by decide +kernel
theorem d_CO_fillLeads_32 : decode prog_2_method_3_code 32 = .ok (.getfield 34, 3) := by decide +kernel
theorem d_CO_fillLeads_35 : decode prog_2_method_3_code 35 = .ok (.iload 6, 2) := by decide +kernel
theorem d_CO_fillLeads_37 : decode prog_2_method_3_code 37 = .ok (.iaload, 1) := by decide +kernel
theorem d_CO_fillLeads_38 : decode prog_2_method_3_code 38 = .ok (.dup2, 1) := by decide +kernel
theorem d_CO_fillLeads_39 : decode prog_2_method_3_code 39 = .ok (.iaload, 1) := by decide +kernel
theorem d_CO_fillLeads_40 : decode prog_2_method_3_code 40 = .ok (.iconst 1, 1) := by decide +kernel
theorem d_CO_fillLeads_41 : decode prog_2_method_3_code 41 = .ok (.aload_n 1, 1) := by decide +kernel
theorem d_CO_fillLeads_42 : decode prog_2_method_3_code 42 = .ok (.getfield 25, 3) := by decide +kernel
theorem d_CO_fillLeads_45 : decode prog_2_method_3_code 45 = .ok (.iload 6, 2) := by decide +kernel
theorem d_CO_fillLeads_47 : decode prog_2_method_3_code 47 = .ok (.iaload, 1) := by decide +kernel
theorem d_CO_fillLeads_48 : decode prog_2_method_3_code 48 = .ok (.ishl, 1) := by decide +kernel
theorem d_CO_fillLeads_49 : decode prog_2_method_3_code 49 = .ok (.ior, 1) := by decide +kernel
theorem d_CO_fillLeads_50 : decode prog_2_method_3_code 50 = .ok (.iastore, 1) := by decide +kernel
theorem d_CO_fillLeads_51 : decode prog_2_method_3_code 51 = .ok (.lload 4, 2) := by decide +kernel
theorem d_CO_fillLeads_53 : decode prog_2_method_3_code 53 = .ok (.iload 6, 2) := by decide +kernel
theorem d_CO_fillLeads_55 : decode prog_2_method_3_code 55 = .ok (.invokestatic 15, 3) := by decide +kernel
theorem d_CO_fillLeads_58 : decode prog_2_method_3_code 58 = .ok (.ifCond .eq 27, 3) := by decide +kernel
theorem d_CO_fillLeads_61 : decode prog_2_method_3_code 61 = .ok (.aload_n 0, 1) := by decide +kernel
theorem d_CO_fillLeads_62 : decode prog_2_method_3_code 62 = .ok (.getfield 9, 3) := by decide +kernel
theorem d_CO_fillLeads_65 : decode prog_2_method_3_code 65 = .ok (.aload_n 1, 1) := by decide +kernel
theorem d_CO_fillLeads_66 : decode prog_2_method_3_code 66 = .ok (.getfield 25, 3) := by decide +kernel
theorem d_CO_fillLeads_69 : decode prog_2_method_3_code 69 = .ok (.iload 6, 2) := by decide +kernel
theorem d_CO_fillLeads_71 : decode prog_2_method_3_code 71 = .ok (.iaload, 1) := by decide +kernel
theorem d_CO_fillLeads_72 : decode prog_2_method_3_code 72 = .ok (.dup2, 1) := by decide +kernel
theorem d_CO_fillLeads_73 : decode prog_2_method_3_code 73 = .ok (.iaload, 1) := by decide +kernel
theorem d_CO_fillLeads_74 : decode prog_2_method_3_code 74 = .ok (.iconst 1, 1) := by decide +kernel
theorem d_CO_fillLeads_75 : decode prog_2_method_3_code 75 = .ok (.aload_n 1, 1) := by decide +kernel
theorem d_CO_fillLeads_76 : decode prog_2_method_3_code 76 = .ok (.getfield 34, 3) := by decide +kernel
theorem d_CO_fillLeads_79 : decode prog_2_method_3_code 79 = .ok (.iload 6, 2) := by decide +kernel
theorem d_CO_fillLeads_81 : decode prog_2_method_3_code 81 = .ok (.iaload, 1) := by decide +kernel
theorem d_CO_fillLeads_82 : decode prog_2_method_3_code 82 = .ok (.ishl, 1) := by decide +kernel
theorem d_CO_fillLeads_83 : decode prog_2_method_3_code 83 = .ok (.ior, 1) := by decide +kernel
theorem d_CO_fillLeads_84 : decode prog_2_method_3_code 84 = .ok (.iastore, 1) := by decide +kernel
theorem d_CO_fillLeads_85 : decode prog_2_method_3_code 85 = .ok (.iinc 6 1, 3) := by decide +kernel
theorem d_CO_fillLeads_88 : decode prog_2_method_3_code 88 = .ok (.goto (-77), 3) := by decide +kernel
theorem d_CO_fillLeads_91 : decode prog_2_method_3_code 91 = .ok (.return_, 1) := by decide +kernel
set_option maxHeartbeats 4000000 in
set_option maxRecDepth 100000 in
theorem c_CO_fillLeads (l : Launch) (dC : Nat → ClassId) (dI : Nat → Nat → Nat) (cI cJ cZ : ClassId) (co ld : Nat) (g a1 a2 nd ar : Nat) (pr : Int64) (F G : Nat → Nat) (hF : ∀ k, F k < 14) (hG : ∀ k, G k < 14) (r0 : Nat → Int32) (mf mb : Int64) : Met l ⟨"CutPoints$Compass", "fillLeads", "(LCutPoints$Graph;JJ)V"⟩ (Cond.code ⟨"CutPoints$Compass", "fillLeads", "(LCutPoints$Graph;JJ)V"⟩ prog_2_method_3_code 7 none :: TT) (rmk 1 23) (PM dC dI cI cJ cZ [.ref co, .ref g, .long mf, .long mb] [(co, .inr (5, [.ref ld])), (ld, .inl (cI, 14, .inl r0)), (g, .inr (1, [.ref a1, .ref a2, .int (nI nd), .int (nI ar), .long pr])), (a1, .inl (cI, 41, .inl (nF F))), (a2, .inl (cI, 41, .inl (nF G)))]) (va_Qv (S := Nat → Int32) (fun u9 => LRi F G mf mb u9 40) (fun u9 t9 => va_P (dC, dI) cls ([(co, .inr (5, [.ref ld])), (ld, .inl (cI, 14, .inl u9)), (g, .inr (1, [.ref a1, .ref a2, .int (nI nd), .int (nI ar), .long pr])), (a1, .inl (cI, 41, .inl (nF F))), (a2, .inl (cI, 41, .inl (nF G)))]) t9.heap) (ow [(co, .inr (5, [.ref ld])), (ld, .inl (cI, 14, .inl r0)), (g, .inr (1, [.ref a1, .ref a2, .int (nI nd), .int (nI ar), .long pr])), (a1, .inl (cI, 41, .inl (nF F))), (a2, .inl (cI, 41, .inl (nF G)))])) 0 0 (ow [(co, .inr (5, [.ref ld])), (ld, .inl (cI, 14, .inl r0)), (g, .inr (1, [.ref a1, .ref a2, .int (nI nd), .int (nI ar), .long pr])), (a1, .inl (cI, 41, .inl (nF F))), (a2, .inl (cI, 41, .inl (nF G)))]) := by
  refine Met.ofW (cc := prog_2_method_3_code) (maxL := 7) (ret := none) (by decide) rfl ?_
  intro p e s m args below meth c s₁ BB9 hml hv
  obtain ⟨rfl, hP, hK, hD0⟩ := hv
  have hx := BB9.exec
  have hb := BB9.bytes
  have hr := BB9.returns
  have hts : ∀ w ∈ TT, w.before _ s = true := fun w h => atoms_spec (ws := (Cond.code ⟨"CutPoints$Compass", "fillLeads", "(LCutPoints$Graph;JJ)V"⟩ prog_2_method_3_code 7 none :: TT)) BB9.pre w (List.mem_cons_of_mem _ h)
  have hown : s.vm.findClass "CutPoints$Compass" = some m.cls := findClass_of_methodNamed BB9.named
  have hlocks := BB9.notSynchronized
  have hD := hD0.mine
  have hS : va_S (ow [(co, .inr (5, [.ref ld])), (ld, .inl (cI, 14, .inl r0)), (g, .inr (1, [.ref a1, .ref a2, .int (nI nd), .int (nI ar), .long pr])), (a1, .inl (cI, 41, .inl (nF F))), (a2, .inl (cI, 41, .inl (nF G)))]) s.heap s.heap [] := va_S.rf
  have hl := lv_entry ([.ref co, .ref g, .long mf, .long mb]) (n := 7) (Nat.le_of_ble_eq_true rfl)
  rw [lg_entry_eq]
  generalize (lg_sl ([.ref co, .ref g, .long mf, .long mb]) ++ List.replicate (7 - (lg_sl ([.ref co, .ref g, .long mf, .long mb])).length) Slot.unset).toArray = ls at hl ⊢
  have hl : lv_has ls 7 [(0, .ref co), (1, .ref g), (2, .long mf), (4, .long mb)] := hl
  refine lv_aload_n hx hb d_CO_fillLeads_0 rfl (lv_at hl 0 rfl) ?_
  refine va_get (D := (dC, dI)) (ci := 5) (v := .ref ld) (C := R_CO) (T := F_CO) (N := 1) hx hb hts in_CO hown hK.1 hP 0 rfl rfl 0 (by decide) (hts _ wfl_CO_9) (fun _ h9 => h9) rfl d_CO_fillLeads_1 ?_
  refine lv_iconst (v := (nI 0)) hx hb d_CO_fillLeads_4 (by decide) ?_
  refine x_cv (k_S (n := 2) (rest := []) ⟨hx, hb, hml, hown, hts⟩ (c_JA_fill l dC dI cI cJ cZ ld 14 r0 (nI 0) (by first | assumption | omega)) wml_CO_37 wst_JA_fill wini_JA wcode_JA_fill (by decide +kernel) ⟨Nat.le_of_ble_eq_true rfl, Nat.le_of_ble_eq_true rfl⟩ (pre_M (hP.sub (ws' := [(ld, .inl (cI, 14, .inl r0))]) [1] rfl) hK (hD.sub (ws' := [(ld, .inl (cI, 14, .inl r0))]) [1] (by decide) rfl)) rfl hl.1 rfl (Nat.le_of_ble_eq_true rfl) d_CO_fillLeads_5 ⟨Nat.zero_le _, Nat.zero_le _⟩) hP hD hS [1] rfl (fun _ => rfl) (fun u_1 H locs hu_1 hP hS => ?_)
  obtain ⟨g_1, rfl⟩ : ∃ z, z = u_1 := ⟨_, rfl⟩
  have hP : va_P (dC, dI) cls [(co, .inr (5, [.ref ld])), (ld, .inl (cI, 14, .inl g_1)), (g, .inr (1, [.ref a1, .ref a2, .int (nI nd), .int (nI ar), .long pr])), (a1, .inl (cI, 41, .inl (nF F))), (a2, .inl (cI, 41, .inl (nF G)))] H := hP
  have hD := hD.addr (ws' := [(co, .inr (5, [.ref ld])), (ld, .inl (cI, 14, .inl g_1)), (g, .inr (1, [.ref a1, .ref a2, .int (nI nd), .int (nI ar), .long pr])), (a1, .inl (cI, 41, .inl (nF F))), (a2, .inl (cI, 41, .inl (nF G)))]) rfl
  refine lv_iconst (v := (nI 0)) hx hb d_CO_fillLeads_8 (by decide) ?_
  refine lv_istore (lv' := [(6, .int (nI 0)), (0, .ref co), (1, .ref g), (2, .long mf), (4, .long mb)]) hx hb d_CO_fillLeads_9 hl (by decide) rfl (fun ls hl => ?_)
  have L11_2 : ∀ (n : Nat) (r2 : Nat → Int32) (i : Nat) (hn : 40 - i < n) (hi : i ≤ 40) (hn : LRi F G mf mb r2 i) (H : Heap) (locs : List Loc) (hP : va_P (dC, dI) cls [(co, .inr (5, [.ref ld])), (ld, .inl (cI, 14, .inl r2)), (g, .inr (1, [.ref a1, .ref a2, .int (nI nd), .int (nI ar), .long pr])), (a1, .inl (cI, 41, .inl (nF F))), (a2, .inl (cI, 41, .inl (nF G)))] H) (hD : va_D (ow [(co, .inr (5, [.ref ld])), (ld, .inl (cI, 14, .inl r0)), (g, .inr (1, [.ref a1, .ref a2, .int (nI nd), .int (nI ar), .long pr])), (a1, .inl (cI, 41, .inl (nF F))), (a2, .inl (cI, 41, .inl (nF G)))]) [(co, .inr (5, [.ref ld])), (ld, .inl (cI, 14, .inl r2)), (g, .inr (1, [.ref a1, .ref a2, .int (nI nd), .int (nI ar), .long pr])), (a1, .inl (cI, 41, .inl (nF F))), (a2, .inl (cI, 41, .inl (nF G)))]) (hS : va_S (ow [(co, .inr (5, [.ref ld])), (ld, .inl (cI, 14, .inl r0)), (g, .inr (1, [.ref a1, .ref a2, .int (nI nd), .int (nI ar), .long pr])), (a1, .inl (cI, 41, .inl (nF F))), (a2, .inl (cI, 41, .inl (nF G)))]) s.heap H locs) (ls : Array Slot) (hl : lv_has ls 7 [(0, .ref co), (1, .ref g), (2, .long mf), (4, .long mb), (6, .int (nI i))]), W p l e (headSpec (Cond.code ⟨"CutPoints$Compass", "fillLeads", "(LCutPoints$Graph;JJ)V"⟩ prog_2_method_3_code 7 none :: TT) (rmk 1 23)).room s m ([.ref co, .ref g, .long mf, .long mb] : List Value).toArray below meth c H locs 0 0 (MQ below (va_Qv (S := Nat → Int32) (fun u9 => LRi F G mf mb u9 40) (fun u9 t9 => va_P (dC, dI) cls ([(co, .inr (5, [.ref ld])), (ld, .inl (cI, 14, .inl u9)), (g, .inr (1, [.ref a1, .ref a2, .int (nI nd), .int (nI ar), .long pr])), (a1, .inl (cI, 41, .inl (nF F))), (a2, .inl (cI, 41, .inl (nF G)))]) t9.heap) (ow [(co, .inr (5, [.ref ld])), (ld, .inl (cI, 14, .inl r0)), (g, .inr (1, [.ref a1, .ref a2, .int (nI nd), .int (nI ar), .long pr])), (a1, .inl (cI, 41, .inl (nF F))), (a2, .inl (cI, 41, .inl (nF G)))])) ([.ref co, .ref g, .long mf, .long mb] : List Value).toArray s 0 0 (ow [(co, .inr (5, [.ref ld])), (ld, .inl (cI, 14, .inl r0)), (g, .inr (1, [.ref a1, .ref a2, .int (nI nd), .int (nI ar), .long pr])), (a1, .inl (cI, 41, .inl (nF F))), (a2, .inl (cI, 41, .inl (nF G)))])) (F0 m 11 ls []) := by
    intro n_11
    induction n_11 with
    | zero =>
      intro r2 i hn_11
      exact absurd hn_11 (Nat.not_lt_zero _)
    | succ n_11 ih_11 =>
      intro r2 i hn_11 hi hn H locs hP hD hS ls hl
      refine lv_iload hx hb d_CO_fillLeads_11 (lv_at hl 4 rfl) ?_
      refine lv_bipush (v := (nI 40)) hx hb d_CO_fillLeads_13 (by decide) ?_
      refine x_cmp_ge (a := i) (b := 40) (tgt := 91) hx hb (by omega) (by omega) d_CO_fillLeads_15 (by decide) (fun c_3 => ?_) (fun c_3 => ?_)
      · skip
        exact W.vret hx hb hr (fun t9 ht9 _ => ⟨⟨(r2), rfl, (by have e9 : i = 40 := (by omega); subst e9; exact hn), by show va_P (dC, dI) cls _ t9.heap; rw [ht9]; exact hP⟩, hS.F ht9⟩) hS.2.2 d_CO_fillLeads_91
      · skip
        refine lv_lload_n hx hb d_CO_fillLeads_18 rfl (lv_at hl 2 rfl) ?_
        refine lv_iload hx hb d_CO_fillLeads_19 (lv_at hl 4 rfl) ?_
        refine vp_callSi (va_Run.run (k_SN (n := 2) (rest := []) ⟨hx, hb, hml, hown, hts⟩ (c_CP_hasBit l dC dI cI cJ cZ mf i (by first | assumption | omega)) hK wmn_CO_15 wst_CP_hasBit wini_CP wcode_CP_hasBit (by decide +kernel) ⟨Nat.le_of_ble_eq_true rfl, Nat.le_of_ble_eq_true rfl⟩ (pre_R (hP.sub (ws' := []) [] rfl) hK) rfl hl.1 rfl (Nat.le_of_ble_eq_true rfl) d_CO_fillLeads_21 ⟨Nat.zero_le _, Nat.zero_le _⟩)) (fun r_4 hr_5 => ?_)
        refine xe_i (y := (bI (lb mf i))) hr_5 ?_
        refine x_if_eq (tgt := 51) hx hb d_CO_fillLeads_24 (by decide) (fun c_6 => ?_) (fun c_6 => ?_)
        · skip
          refine lv_lload hx hb d_CO_fillLeads_51 (lv_at hl 3 rfl) ?_
          refine lv_iload hx hb d_CO_fillLeads_53 (lv_at hl 4 rfl) ?_
          refine vp_callSi (va_Run.run (k_SN (n := 2) (rest := []) ⟨hx, hb, hml, hown, hts⟩ (c_CP_hasBit l dC dI cI cJ cZ mb i (by first | assumption | omega)) hK wmn_CO_15 wst_CP_hasBit wini_CP wcode_CP_hasBit (by decide +kernel) ⟨Nat.le_of_ble_eq_true rfl, Nat.le_of_ble_eq_true rfl⟩ (pre_R (hP.sub (ws' := []) [] rfl) hK) rfl hl.1 rfl (Nat.le_of_ble_eq_true rfl) d_CO_fillLeads_55 ⟨Nat.zero_le _, Nat.zero_le _⟩)) (fun r_7 hr_8 => ?_)
          refine xe_i (y := (bI (lb mb i))) hr_8 ?_
          refine x_if_eq (tgt := 85) hx hb d_CO_fillLeads_58 (by decide) (fun c_9 => ?_) (fun c_9 => ?_)
          · skip
            refine lv_iinc (v := (nI (i + 1))) (lv' := [(6, .int (nI (i + 1))), (0, .ref co), (1, .ref g), (2, .long mf), (4, .long mb)]) hx hb d_CO_fillLeads_85 hl (k := 4) rfl (nI_1 _) (by decide) rfl (fun ls hl => ?_)
            refine lv_goto (tgt := 11) hx hb d_CO_fillLeads_88 (by decide) ?_
            exact ih_11 r2 (i + 1) (by omega) (by first | assumption | omega) (LRi_f (LRh_f hn c_6) c_9) _ _ hP hD hS ls (lv_sub hl [1, 2, 3, 4, 0] rfl)
          · skip
            refine lv_aload_n hx hb d_CO_fillLeads_61 rfl (lv_at hl 0 rfl) ?_
            refine va_get (D := (dC, dI)) (ci := 5) (v := .ref ld) (C := R_CO) (T := F_CO) (N := 1) hx hb hts in_CO hown hK.1 hP 0 rfl rfl 0 (by decide) (hts _ wfl_CO_9) (fun _ h9 => h9) rfl d_CO_fillLeads_62 ?_
            refine lv_aload_n hx hb d_CO_fillLeads_65 rfl (lv_at hl 1 rfl) ?_
            refine va_get (D := (dC, dI)) (ci := 1) (v := .ref a2) (C := R_GR) (T := F_GR) (N := 5) hx hb hts in_GR hown hK.1 hP 2 rfl rfl 1 (by decide) (hts _ wfl_CO_25) (fun _ h9 => h9) rfl d_CO_fillLeads_66 ?_
            refine lv_iload hx hb d_CO_fillLeads_69 (lv_at hl 4 rfl) ?_
            refine x_iald (n := 41) (f := (nF G)) (j := i) hx hb hK.1 hP 4 0 rfl rfl (by omega) (by omega) d_CO_fillLeads_71 ?_
            refine xe_i (y := (nI (G i))) rfl ?_
            refine lv_dup2_11 hx hb d_CO_fillLeads_72 rfl rfl ?_
            refine x_iald (n := 14) (f := r2) (j := (G i)) hx hb hK.1 hP 1 0 rfl rfl (hG _) (by omega) d_CO_fillLeads_73 ?_
            refine lv_iconst (v := (nI 1)) hx hb d_CO_fillLeads_74 (by decide) ?_
            refine lv_aload_n hx hb d_CO_fillLeads_75 rfl (lv_at hl 1 rfl) ?_
            refine va_get (D := (dC, dI)) (ci := 1) (v := .ref a1) (C := R_GR) (T := F_GR) (N := 5) hx hb hts in_GR hown hK.1 hP 2 rfl rfl 0 (by decide) (hts _ wfl_CO_34) (fun _ h9 => h9) rfl d_CO_fillLeads_76 ?_
            refine lv_iload hx hb d_CO_fillLeads_79 (lv_at hl 4 rfl) ?_
            refine x_iald (n := 41) (f := (nF F)) (j := i) hx hb hK.1 hP 3 0 rfl rfl (by omega) (by omega) d_CO_fillLeads_81 ?_
            refine xe_i (y := (nI (F i))) rfl ?_
            refine lv_ishl hx hb d_CO_fillLeads_82 ?_
            refine xe_i (y := (sb (F i))) rfl ?_
            refine lv_ior hx hb d_CO_fillLeads_83 ?_
            refine x_iast (g := (va_up r2 (G i) ((r2 (G i)) ||| (sb (F i))))) hx hb hK.1 hP hD hS 1 0 rfl rfl rfl (hG _) (by omega) d_CO_fillLeads_84 (fun H locs hP hD hS => ?_)
            have hP : va_P (dC, dI) cls [(co, .inr (5, [.ref ld])), (ld, .inl (cI, 14, .inl (va_up r2 (G i) ((r2 (G i)) ||| (sb (F i)))))), (g, .inr (1, [.ref a1, .ref a2, .int (nI nd), .int (nI ar), .long pr])), (a1, .inl (cI, 41, .inl (nF F))), (a2, .inl (cI, 41, .inl (nF G)))] H := hP
            have hD : va_D (ow [(co, .inr (5, [.ref ld])), (ld, .inl (cI, 14, .inl r0)), (g, .inr (1, [.ref a1, .ref a2, .int (nI nd), .int (nI ar), .long pr])), (a1, .inl (cI, 41, .inl (nF F))), (a2, .inl (cI, 41, .inl (nF G)))]) [(co, .inr (5, [.ref ld])), (ld, .inl (cI, 14, .inl (va_up r2 (G i) ((r2 (G i)) ||| (sb (F i)))))), (g, .inr (1, [.ref a1, .ref a2, .int (nI nd), .int (nI ar), .long pr])), (a1, .inl (cI, 41, .inl (nF F))), (a2, .inl (cI, 41, .inl (nF G)))] := hD
            refine lv_iinc (v := (nI (i + 1))) (lv' := [(6, .int (nI (i + 1))), (0, .ref co), (1, .ref g), (2, .long mf), (4, .long mb)]) hx hb d_CO_fillLeads_85 hl (k := 4) rfl (nI_1 _) (by decide) rfl (fun ls hl => ?_)
            refine lv_goto (tgt := 11) hx hb d_CO_fillLeads_88 (by decide) ?_
            exact ih_11 (va_up r2 (G i) ((r2 (G i)) ||| (sb (F i)))) (i + 1) (by omega) (by first | assumption | omega) (LRi_t hF (LRh_f hn c_6) c_9) _ _ hP hD hS ls (lv_sub hl [1, 2, 3, 4, 0] rfl)
        · skip
          refine lv_aload_n hx hb d_CO_fillLeads_27 rfl (lv_at hl 0 rfl) ?_
          refine va_get (D := (dC, dI)) (ci := 5) (v := .ref ld) (C := R_CO) (T := F_CO) (N := 1) hx hb hts in_CO hown hK.1 hP 0 rfl rfl 0 (by decide) (hts _ wfl_CO_9) (fun _ h9 => h9) rfl d_CO_fillLeads_28 ?_
          refine lv_aload_n hx hb d_CO_fillLeads_31 rfl (lv_at hl 1 rfl) ?_
          refine va_get (D := (dC, dI)) (ci := 1) (v := .ref a1) (C := R_GR) (T := F_GR) (N := 5) hx hb hts in_GR hown hK.1 hP 2 rfl rfl 0 (by decide) (hts _ wfl_CO_34) (fun _ h9 => h9) rfl d_CO_fillLeads_32 ?_
          refine lv_iload hx hb d_CO_fillLeads_35 (lv_at hl 4 rfl) ?_
          refine x_iald (n := 41) (f := (nF F)) (j := i) hx hb hK.1 hP 3 0 rfl rfl (by omega) (by omega) d_CO_fillLeads_37 ?_
          refine xe_i (y := (nI (F i))) rfl ?_
          refine lv_dup2_11 hx hb d_CO_fillLeads_38 rfl rfl ?_
          refine x_iald (n := 14) (f := r2) (j := (F i)) hx hb hK.1 hP 1 0 rfl rfl (hF _) (by omega) d_CO_fillLeads_39 ?_
          refine lv_iconst (v := (nI 1)) hx hb d_CO_fillLeads_40 (by decide) ?_
          refine lv_aload_n hx hb d_CO_fillLeads_41 rfl (lv_at hl 1 rfl) ?_
          refine va_get (D := (dC, dI)) (ci := 1) (v := .ref a2) (C := R_GR) (T := F_GR) (N := 5) hx hb hts in_GR hown hK.1 hP 2 rfl rfl 1 (by decide) (hts _ wfl_CO_25) (fun _ h9 => h9) rfl d_CO_fillLeads_42 ?_
          refine lv_iload hx hb d_CO_fillLeads_45 (lv_at hl 4 rfl) ?_
          refine x_iald (n := 41) (f := (nF G)) (j := i) hx hb hK.1 hP 4 0 rfl rfl (by omega) (by omega) d_CO_fillLeads_47 ?_
          refine xe_i (y := (nI (G i))) rfl ?_
          refine lv_ishl hx hb d_CO_fillLeads_48 ?_
          refine xe_i (y := (sb (G i))) rfl ?_
          refine lv_ior hx hb d_CO_fillLeads_49 ?_
          refine x_iast (g := (va_up r2 (F i) ((r2 (F i)) ||| (sb (G i))))) hx hb hK.1 hP hD hS 1 0 rfl rfl rfl (hF _) (by omega) d_CO_fillLeads_50 (fun H locs hP hD hS => ?_)
          have hP : va_P (dC, dI) cls [(co, .inr (5, [.ref ld])), (ld, .inl (cI, 14, .inl (va_up r2 (F i) ((r2 (F i)) ||| (sb (G i)))))), (g, .inr (1, [.ref a1, .ref a2, .int (nI nd), .int (nI ar), .long pr])), (a1, .inl (cI, 41, .inl (nF F))), (a2, .inl (cI, 41, .inl (nF G)))] H := hP
          have hD : va_D (ow [(co, .inr (5, [.ref ld])), (ld, .inl (cI, 14, .inl r0)), (g, .inr (1, [.ref a1, .ref a2, .int (nI nd), .int (nI ar), .long pr])), (a1, .inl (cI, 41, .inl (nF F))), (a2, .inl (cI, 41, .inl (nF G)))]) [(co, .inr (5, [.ref ld])), (ld, .inl (cI, 14, .inl (va_up r2 (F i) ((r2 (F i)) ||| (sb (G i)))))), (g, .inr (1, [.ref a1, .ref a2, .int (nI nd), .int (nI ar), .long pr])), (a1, .inl (cI, 41, .inl (nF F))), (a2, .inl (cI, 41, .inl (nF G)))] := hD
          refine lv_lload hx hb d_CO_fillLeads_51 (lv_at hl 3 rfl) ?_
          refine lv_iload hx hb d_CO_fillLeads_53 (lv_at hl 4 rfl) ?_
          refine vp_callSi (va_Run.run (k_SN (n := 2) (rest := []) ⟨hx, hb, hml, hown, hts⟩ (c_CP_hasBit l dC dI cI cJ cZ mb i (by first | assumption | omega)) hK wmn_CO_15 wst_CP_hasBit wini_CP wcode_CP_hasBit (by decide +kernel) ⟨Nat.le_of_ble_eq_true rfl, Nat.le_of_ble_eq_true rfl⟩ (pre_R (hP.sub (ws' := []) [] rfl) hK) rfl hl.1 rfl (Nat.le_of_ble_eq_true rfl) d_CO_fillLeads_55 ⟨Nat.zero_le _, Nat.zero_le _⟩)) (fun r_10 hr_11 => ?_)
          refine xe_i (y := (bI (lb mb i))) hr_11 ?_
          refine x_if_eq (tgt := 85) hx hb d_CO_fillLeads_58 (by decide) (fun c_12 => ?_) (fun c_12 => ?_)
          · skip
            refine lv_iinc (v := (nI (i + 1))) (lv' := [(6, .int (nI (i + 1))), (0, .ref co), (1, .ref g), (2, .long mf), (4, .long mb)]) hx hb d_CO_fillLeads_85 hl (k := 4) rfl (nI_1 _) (by decide) rfl (fun ls hl => ?_)
            refine lv_goto (tgt := 11) hx hb d_CO_fillLeads_88 (by decide) ?_
            exact ih_11 (va_up r2 (F i) ((r2 (F i)) ||| (sb (G i)))) (i + 1) (by omega) (by first | assumption | omega) (LRi_f (LRh_t hG hn c_6) c_12) _ _ hP hD hS ls (lv_sub hl [1, 2, 3, 4, 0] rfl)
          · skip
            refine lv_aload_n hx hb d_CO_fillLeads_61 rfl (lv_at hl 0 rfl) ?_
            refine va_get (D := (dC, dI)) (ci := 5) (v := .ref ld) (C := R_CO) (T := F_CO) (N := 1) hx hb hts in_CO hown hK.1 hP 0 rfl rfl 0 (by decide) (hts _ wfl_CO_9) (fun _ h9 => h9) rfl d_CO_fillLeads_62 ?_
            refine lv_aload_n hx hb d_CO_fillLeads_65 rfl (lv_at hl 1 rfl) ?_
            refine va_get (D := (dC, dI)) (ci := 1) (v := .ref a2) (C := R_GR) (T := F_GR) (N := 5) hx hb hts in_GR hown hK.1 hP 2 rfl rfl 1 (by decide) (hts _ wfl_CO_25) (fun _ h9 => h9) rfl d_CO_fillLeads_66 ?_
            refine lv_iload hx hb d_CO_fillLeads_69 (lv_at hl 4 rfl) ?_
            refine x_iald (n := 41) (f := (nF G)) (j := i) hx hb hK.1 hP 4 0 rfl rfl (by omega) (by omega) d_CO_fillLeads_71 ?_
            refine xe_i (y := (nI (G i))) rfl ?_
            refine lv_dup2_11 hx hb d_CO_fillLeads_72 rfl rfl ?_
            refine x_iald (n := 14) (f := (va_up r2 (F i) ((r2 (F i)) ||| (sb (G i))))) (j := (G i)) hx hb hK.1 hP 1 0 rfl rfl (hG _) (by omega) d_CO_fillLeads_73 ?_
            refine lv_iconst (v := (nI 1)) hx hb d_CO_fillLeads_74 (by decide) ?_
            refine lv_aload_n hx hb d_CO_fillLeads_75 rfl (lv_at hl 1 rfl) ?_
            refine va_get (D := (dC, dI)) (ci := 1) (v := .ref a1) (C := R_GR) (T := F_GR) (N := 5) hx hb hts in_GR hown hK.1 hP 2 rfl rfl 0 (by decide) (hts _ wfl_CO_34) (fun _ h9 => h9) rfl d_CO_fillLeads_76 ?_
            refine lv_iload hx hb d_CO_fillLeads_79 (lv_at hl 4 rfl) ?_
            refine x_iald (n := 41) (f := (nF F)) (j := i) hx hb hK.1 hP 3 0 rfl rfl (by omega) (by omega) d_CO_fillLeads_81 ?_
            refine xe_i (y := (nI (F i))) rfl ?_
            refine lv_ishl hx hb d_CO_fillLeads_82 ?_
            refine xe_i (y := (sb (F i))) rfl ?_
            refine lv_ior hx hb d_CO_fillLeads_83 ?_
            refine x_iast (g := (va_up (va_up r2 (F i) ((r2 (F i)) ||| (sb (G i)))) (G i) (((va_up r2 (F i) ((r2 (F i)) ||| (sb (G i)))) (G i)) ||| (sb (F i))))) hx hb hK.1 hP hD hS 1 0 rfl rfl rfl (hG _) (by omega) d_CO_fillLeads_84 (fun H locs hP hD hS => ?_)
            have hP : va_P (dC, dI) cls [(co, .inr (5, [.ref ld])), (ld, .inl (cI, 14, .inl (va_up (va_up r2 (F i) ((r2 (F i)) ||| (sb (G i)))) (G i) (((va_up r2 (F i) ((r2 (F i)) ||| (sb (G i)))) (G i)) ||| (sb (F i)))))), (g, .inr (1, [.ref a1, .ref a2, .int (nI nd), .int (nI ar), .long pr])), (a1, .inl (cI, 41, .inl (nF F))), (a2, .inl (cI, 41, .inl (nF G)))] H := hP
            have hD : va_D (ow [(co, .inr (5, [.ref ld])), (ld, .inl (cI, 14, .inl r0)), (g, .inr (1, [.ref a1, .ref a2, .int (nI nd), .int (nI ar), .long pr])), (a1, .inl (cI, 41, .inl (nF F))), (a2, .inl (cI, 41, .inl (nF G)))]) [(co, .inr (5, [.ref ld])), (ld, .inl (cI, 14, .inl (va_up (va_up r2 (F i) ((r2 (F i)) ||| (sb (G i)))) (G i) (((va_up r2 (F i) ((r2 (F i)) ||| (sb (G i)))) (G i)) ||| (sb (F i)))))), (g, .inr (1, [.ref a1, .ref a2, .int (nI nd), .int (nI ar), .long pr])), (a1, .inl (cI, 41, .inl (nF F))), (a2, .inl (cI, 41, .inl (nF G)))] := hD
            refine lv_iinc (v := (nI (i + 1))) (lv' := [(6, .int (nI (i + 1))), (0, .ref co), (1, .ref g), (2, .long mf), (4, .long mb)]) hx hb d_CO_fillLeads_85 hl (k := 4) rfl (nI_1 _) (by decide) rfl (fun ls hl => ?_)
            refine lv_goto (tgt := 11) hx hb d_CO_fillLeads_88 (by decide) ?_
            exact ih_11 (va_up (va_up r2 (F i) ((r2 (F i)) ||| (sb (G i)))) (G i) (((va_up r2 (F i) ((r2 (F i)) ||| (sb (G i)))) (G i)) ||| (sb (F i)))) (i + 1) (by omega) (by first | assumption | omega) (LRi_t hF (LRh_t hG hn c_6) c_12) _ _ hP hD hS ls (lv_sub hl [1, 2, 3, 4, 0] rfl)
  exact L11_2 ((40 - 0) + 1) g_1 0 (Nat.lt_succ_self _) (by first | assumption | omega) (LRi_0 hu_1) _ _ hP hD hS ls (lv_sub hl [1, 2, 3, 4, 0] rfl)

theorem d_CO_goesForth_0 : decode prog_2_method_2_code 0 = .ok (.lconst 0, 1) := by decide +kernel
theorem d_CO_goesForth_1 : decode prog_2_method_2_code 1 = .ok (.lstore 5, 2) := by decide +kernel
theorem d_CO_goesForth_3 : decode prog_2_method_2_code 3 = .ok (.lconst 0, 1) := by decide +kernel
theorem d_CO_goesForth_4 : decode prog_2_method_2_code 4 = .ok (.lstore 7, 2) := by decide +kernel
theorem d_CO_goesForth_6 : decode prog_2_method_2_code 6 = .ok (.iconst 0, 1) := by decide +kernel
theorem d_CO_goesForth_7 : decode prog_2_method_2_code 7 = .ok (.istore 9, 2) := by decide +kernel
theorem d_CO_goesForth_9 : decode prog_2_method_2_code 9 = .ok (.iload 9, 2) := by decide +kernel
theorem d_CO_goesForth_11 : decode prog_2_method_2_code 11 = .ok (.iload 4, 2) := by decide +kernel
theorem d_CO_goesForth_13 : decode prog_2_method_2_code 13 = .ok (.if_icmp .gt 112, 3) := by decide +kernel
theorem d_CO_goesForth_16 : decode prog_2_method_2_code 16 = .ok (.iload 9, 2) := by decide +kernel
theorem d_CO_goesForth_18 : decode prog_2_method_2_code 18 = .ok (.bipush 40, 2) := by decide +kernel
theorem d_CO_goesForth_20 : decode prog_2_method_2_code 20 = .ok (.if_icmp .ge 105, 3) := by decide +kernel
theorem d_CO_goesForth_23 : decode prog_2_method_2_code 23 = .ok (.lload_n 2, 1) := by decide +kernel
theorem d_CO_goesForth_24 : decode prog_2_method_2_code 24 = .ok (.iload 9, 2) := by decide +kernel
theorem d_CO_goesForth_26 : decode prog_2_method_2_code 26 = .ok (.invokestatic 15, 3) := by decide +kernel
theorem d_CO_goesForth_29 : decode prog_2_method_2_code 29 = .ok (.ifCond .eq 90, 3) := by decide +kernel
theorem d_CO_goesForth_32 : decode prog_2_method_2_code 32 = .ok (.lconst 1, 1) := by decide +kernel
theorem d_CO_goesForth_33 : decode prog_2_method_2_code 33 = .ok (.iload 9, 2) := by decide +kernel
theorem d_CO_goesForth_35 : decode prog_2_method_2_code 35 = .ok (.lshl, 1) := by decide +kernel
theorem d_CO_goesForth_36 : decode prog_2_method_2_code 36 = .ok (.lstore 10, 2) := by decide +kernel
theorem d_CO_goesForth_38 : decode prog_2_method_2_code 38 = .ok (.aload_n 0, 1) := by decide +kernel
theorem d_CO_goesForth_39 : decode prog_2_method_2_code 39 = .ok (.aload_n 1, 1) := by decide +kernel
theorem d_CO_goesForth_40 : decode prog_2_method_2_code 40 = .ok (.lload_n 2, 1) := by decide +kernel
theorem d_CO_goesForth_41 : decode prog_2_method_2_code 41 = .ok (.lload 7, 2) := by decide +kernel
theorem d_CO_goesForth_43 : decode prog_2_method_2_code 43 = .ok (.ldc2_w 19, 3) := by decide +kernel
theorem d_CO_goesForth_46 : decode prog_2_method_2_code 46 = .ok (.lxor, 1) := by decide +kernel
theorem d_CO_goesForth_47 : decode prog_2_method_2_code 47 = .ok (.land, 1) := by decide +kernel
theorem d_CO_goesForth_48 : decode prog_2_method_2_code 48 = .ok (.lload 10, 2) := by decide +kernel
theorem d_CO_goesForth_50 : decode prog_2_method_2_code 50 = .ok (.ldc2_w 19, 3) := by decide +kernel
theorem d_CO_goesForth_53 : decode prog_2_method_2_code 53 = .ok (.lxor, 1) := by decide +kernel
theorem d_CO_goesForth_54 : decode prog_2_method_2_code 54 = .ok (.land, 1) := by decide +kernel
theorem d_CO_goesForth_55 : decode prog_2_method_2_code 55 = .ok (.lload_n 2, 1) := by decide +kernel
theorem d_CO_goesForth_56 : decode prog_2_method_2_code 56 = .ok (.lload 5, 2) := by decide +kernel
theorem d_CO_goesForth_58 : decode prog_2_method_2_code 58 = .ok (.ldc2_w 19, 3) := by decide +kernel
theorem d_CO_goesForth_61 : decode prog_2_method_2_code 61 = .ok (.lxor, 1) := by decide +kernel
theorem d_CO_goesForth_62 : decode prog_2_method_2_code 62 = .ok (.land, 1) := by decide +kernel
theorem d_CO_goesForth_63 : decode prog_2_method_2_code 63 = .ok (.lload 10, 2) := by decide +kernel
theorem d_CO_goesForth_65 : decode prog_2_method_2_code 65 = .ok (.ldc2_w 19, 3) := by decide +kernel
theorem d_CO_goesForth_68 : decode prog_2_method_2_code 68 = .ok (.lxor, 1) := by decide +kernel
theorem d_CO_goesForth_69 : decode prog_2_method_2_code 69 = .ok (.land, 1) := by decide +kernel
theorem d_CO_goesForth_70 : decode prog_2_method_2_code 70 = .ok (.invokevirtual 21, 3) := by decide +kernel
theorem d_CO_goesForth_73 : decode prog_2_method_2_code 73 = .ok (.aload_n 0, 1) := by decide +kernel
theorem d_CO_goesForth_74 : decode prog_2_method_2_code 74 = .ok (.getfield 9, 3) := by decide +kernel
theorem d_CO_goesForth_77 : decode prog_2_method_2_code 77 = .ok (.aload_n 1, 1) := by decide +kernel
theorem d_CO_goesForth_78 : decode prog_2_method_2_code 78 = .ok (.getfield 25, 3) := by decide +kernel
theorem d_CO_goesForth_81 : decode prog_2_method_2_code 81 = .ok (.iload 9, 2) := by decide +kernel
theorem d_CO_goesForth_83 : decode prog_2_method_2_code 83 = .ok (.iaload, 1) := by decide +kernel
theorem d_CO_goesForth_84 : decode prog_2_method_2_code 84 = .ok (.iconst (-1), 1) := by decide +kernel
theorem d_CO_goesForth_85 : decode prog_2_method_2_code 85 = .ok (.invokestatic 30, 3) := by decide +kernel
theorem d_CO_goesForth_88 : decode prog_2_method_2_code 88 = .ok (.i2l, 1) := by decide +kernel
theorem d_CO_goesForth_89 : decode prog_2_method_2_code 89 = .ok (.aload_n 1, 1) := by decide +kernel
theorem d_CO_goesForth_90 : decode prog_2_method_2_code 90 = .ok (.getfield 34, 3) := by decide +kernel
theorem d_CO_goesForth_93 : decode prog_2_method_2_code 93 = .ok (.iload 9, 2) := by decide +kernel
theorem d_CO_goesForth_95 : decode prog_2_method_2_code 95 = .ok (.iaload, 1) := by decide +kernel
theorem d_CO_goesForth_96 : decode prog_2_method_2_code 96 = .ok (.invokestatic 15, 3) := by decide +kernel
theorem d_CO_goesForth_99 : decode prog_2_method_2_code 99 = .ok (.ifCond .eq 13, 3) := by decide +kernel
theorem d_CO_goesForth_102 : decode prog_2_method_2_code 102 = .ok (.lload 5, 2) := by decide +kernel
theorem d_CO_goesForth_104 : decode prog_2_method_2_code 104 = .ok (.lload 10, 2) := by decide +kernel
theorem d_CO_goesForth_106 : decode prog_2_method_2_code 106 = .ok (.lor, 1) := by decide +kernel
theorem d_CO_goesForth_107 : decode prog_2_method_2_code 107 = .ok (.lstore 5, 2) := by decide +kernel
theorem d_CO_goesForth_109 : decode prog_2_method_2_code 109 = .ok (.goto 10, 3) := by decide +kernel
theorem d_CO_goesForth_112 : decode prog_2_method_2_code 112 = .ok (.lload 7, 2) := by decide +kernel
theorem d_CO_goesForth_114 : decode prog_2_method_2_code 114 = .ok (.lload 10, 2) := by decide +kernel
theorem d_CO_goesForth_116 : decode prog_2_method_2_code 116 = .ok (.lor, 1) := by decide +kernel
theorem d_CO_goesForth_117 : decode prog_2_method_2_code 117 = .ok (.lstore 7, 2) := by decide +kernel
theorem d_CO_goesForth_119 : decode prog_2_method_2_code 119 = .ok (.iinc 9 1, 3) := by decide +kernel
theorem d_CO_goesForth_122 : decode prog_2_method_2_code 122 = .ok (.goto (-113), 3) := by decide +kernel
theorem d_CO_goesForth_125 : decode prog_2_method_2_code 125 = .ok (.lload 5, 2) := by decide +kernel
theorem d_CO_goesForth_127 : decode prog_2_method_2_code 127 = .ok (.iload 4, 2) := by decide +kernel
theorem d_CO_goesForth_129 : decode prog_2_method_2_code 129 = .ok (.invokestatic 15, 3) := by decide +kernel
theorem d_CO_goesForth_132 : decode prog_2_method_2_code 132 = .ok (.ireturn, 1) := by decide +kernel
set_option maxHeartbeats 4000000 in
set_option maxRecDepth 100000 in
theorem c_CO_goesForth (l : Launch) (dC : Nat → ClassId) (dI : Nat → Nat → Nat) (cI cJ cZ : ClassId) (co ld : Nat) (g a1 a2 nd ar : Nat) (pr : Int64) (F G : Nat → Nat) (hF : ∀ k, F k < 14) (hG : ∀ k, G k < 14) (r0 : Nat → Int32) (op : Int64) (as : Nat) (has : as < 40) : Met l ⟨"CutPoints$Compass", "goesForth", "(LCutPoints$Graph;JI)Z"⟩ (Cond.code ⟨"CutPoints$Compass", "goesForth", "(LCutPoints$Graph;JI)Z"⟩ prog_2_method_2_code 12 (some .boolean) :: TT) (rmk 2 49) (PM dC dI cI cJ cZ [.ref co, .ref g, .long op, .int (nI as)] [(co, .inr (5, [.ref ld])), (ld, .inl (cI, 14, .inl r0)), (g, .inr (1, [.ref a1, .ref a2, .int (nI nd), .int (nI ar), .long pr])), (a1, .inl (cI, 41, .inl (nF F))), (a2, .inl (cI, 41, .inl (nF G)))]) (va_Qi (S := Nat → Int32) (fun r u9 => ∃ dF : Nat → Bool, GF op F G dF (as + 1) ∧ r = bI (dF as)) (fun u9 t9 => va_P (dC, dI) cls ([(co, .inr (5, [.ref ld])), (ld, .inl (cI, 14, .inl u9)), (g, .inr (1, [.ref a1, .ref a2, .int (nI nd), .int (nI ar), .long pr])), (a1, .inl (cI, 41, .inl (nF F))), (a2, .inl (cI, 41, .inl (nF G)))]) t9.heap) (ow [(co, .inr (5, [.ref ld])), (ld, .inl (cI, 14, .inl r0)), (g, .inr (1, [.ref a1, .ref a2, .int (nI nd), .int (nI ar), .long pr])), (a1, .inl (cI, 41, .inl (nF F))), (a2, .inl (cI, 41, .inl (nF G)))])) 0 0 (ow [(co, .inr (5, [.ref ld])), (ld, .inl (cI, 14, .inl r0)), (g, .inr (1, [.ref a1, .ref a2, .int (nI nd), .int (nI ar), .long pr])), (a1, .inl (cI, 41, .inl (nF F))), (a2, .inl (cI, 41, .inl (nF G)))]) := by
  refine Met.ofW (cc := prog_2_method_2_code) (maxL := 12) (ret := (some .boolean)) (by decide) rfl ?_
  intro p e s m args below meth c s₁ BB9 hml hv
  obtain ⟨rfl, hP, hK, hD0⟩ := hv
  have hx := BB9.exec
  have hb := BB9.bytes
  have hr := BB9.returns
  have hts : ∀ w ∈ TT, w.before _ s = true := fun w h => atoms_spec (ws := (Cond.code ⟨"CutPoints$Compass", "goesForth", "(LCutPoints$Graph;JI)Z"⟩ prog_2_method_2_code 12 (some .boolean) :: TT)) BB9.pre w (List.mem_cons_of_mem _ h)
  have hown : s.vm.findClass "CutPoints$Compass" = some m.cls := findClass_of_methodNamed BB9.named
  have hlocks := BB9.notSynchronized
  have hD := hD0.mine
  have hS : va_S (ow [(co, .inr (5, [.ref ld])), (ld, .inl (cI, 14, .inl r0)), (g, .inr (1, [.ref a1, .ref a2, .int (nI nd), .int (nI ar), .long pr])), (a1, .inl (cI, 41, .inl (nF F))), (a2, .inl (cI, 41, .inl (nF G)))]) s.heap s.heap [] := va_S.rf
  have hl := lv_entry ([.ref co, .ref g, .long op, .int (nI as)]) (n := 12) (Nat.le_of_ble_eq_true rfl)
  rw [lg_entry_eq]
  generalize (lg_sl ([.ref co, .ref g, .long op, .int (nI as)]) ++ List.replicate (12 - (lg_sl ([.ref co, .ref g, .long op, .int (nI as)])).length) Slot.unset).toArray = ls at hl ⊢
  have hl : lv_has ls 12 [(0, .ref co), (1, .ref g), (2, .long op), (4, .int (nI as))] := hl
  refine lv_lconst (v := 0) hx hb d_CO_goesForth_0 rfl ?_
  refine lv_lstore (lv' := [(5, .long 0), (0, .ref co), (1, .ref g), (2, .long op), (4, .int (nI as))]) hx hb d_CO_goesForth_1 hl (by decide) rfl (fun ls hl => ?_)
  refine lv_lconst (v := 0) hx hb d_CO_goesForth_3 rfl ?_
  refine lv_lstore (lv' := [(7, .long 0), (5, .long 0), (0, .ref co), (1, .ref g), (2, .long op), (4, .int (nI as))]) hx hb d_CO_goesForth_4 hl (by decide) rfl (fun ls hl => ?_)
  refine lv_iconst (v := (nI 0)) hx hb d_CO_goesForth_6 (by decide) ?_
  refine lv_istore (lv' := [(9, .int (nI 0)), (7, .long 0), (5, .long 0), (0, .ref co), (1, .ref g), (2, .long op), (4, .int (nI as))]) hx hb d_CO_goesForth_7 hl (by decide) rfl (fun ls hl => ?_)
  have L9_1 : ∀ (n : Nat) (r2 : Nat → Int32) (fo : Int64) (ba : Int64) (i : Nat) (hn : 41 - i < n) (hi : i ≤ as + 1) (hj : gfI op F G fo ba i) (H : Heap) (locs : List Loc) (hP : va_P (dC, dI) cls [(co, .inr (5, [.ref ld])), (ld, .inl (cI, 14, .inl r2)), (g, .inr (1, [.ref a1, .ref a2, .int (nI nd), .int (nI ar), .long pr])), (a1, .inl (cI, 41, .inl (nF F))), (a2, .inl (cI, 41, .inl (nF G)))] H) (hD : va_D (ow [(co, .inr (5, [.ref ld])), (ld, .inl (cI, 14, .inl r0)), (g, .inr (1, [.ref a1, .ref a2, .int (nI nd), .int (nI ar), .long pr])), (a1, .inl (cI, 41, .inl (nF F))), (a2, .inl (cI, 41, .inl (nF G)))]) [(co, .inr (5, [.ref ld])), (ld, .inl (cI, 14, .inl r2)), (g, .inr (1, [.ref a1, .ref a2, .int (nI nd), .int (nI ar), .long pr])), (a1, .inl (cI, 41, .inl (nF F))), (a2, .inl (cI, 41, .inl (nF G)))]) (hS : va_S (ow [(co, .inr (5, [.ref ld])), (ld, .inl (cI, 14, .inl r0)), (g, .inr (1, [.ref a1, .ref a2, .int (nI nd), .int (nI ar), .long pr])), (a1, .inl (cI, 41, .inl (nF F))), (a2, .inl (cI, 41, .inl (nF G)))]) s.heap H locs) (ls : Array Slot) (hl : lv_has ls 12 [(0, .ref co), (1, .ref g), (2, .long op), (4, .int (nI as)), (5, .long fo), (7, .long ba), (9, .int (nI i))]), W p l e (headSpec (Cond.code ⟨"CutPoints$Compass", "goesForth", "(LCutPoints$Graph;JI)Z"⟩ prog_2_method_2_code 12 (some .boolean) :: TT) (rmk 2 49)).room s m ([.ref co, .ref g, .long op, .int (nI as)] : List Value).toArray below meth c H locs 0 0 (MQ below (va_Qi (S := Nat → Int32) (fun r u9 => ∃ dF : Nat → Bool, GF op F G dF (as + 1) ∧ r = bI (dF as)) (fun u9 t9 => va_P (dC, dI) cls ([(co, .inr (5, [.ref ld])), (ld, .inl (cI, 14, .inl u9)), (g, .inr (1, [.ref a1, .ref a2, .int (nI nd), .int (nI ar), .long pr])), (a1, .inl (cI, 41, .inl (nF F))), (a2, .inl (cI, 41, .inl (nF G)))]) t9.heap) (ow [(co, .inr (5, [.ref ld])), (ld, .inl (cI, 14, .inl r0)), (g, .inr (1, [.ref a1, .ref a2, .int (nI nd), .int (nI ar), .long pr])), (a1, .inl (cI, 41, .inl (nF F))), (a2, .inl (cI, 41, .inl (nF G)))])) ([.ref co, .ref g, .long op, .int (nI as)] : List Value).toArray s 0 0 (ow [(co, .inr (5, [.ref ld])), (ld, .inl (cI, 14, .inl r0)), (g, .inr (1, [.ref a1, .ref a2, .int (nI nd), .int (nI ar), .long pr])), (a1, .inl (cI, 41, .inl (nF F))), (a2, .inl (cI, 41, .inl (nF G)))])) (F0 m 9 ls []) := by
    intro n_9
    induction n_9 with
    | zero =>
      intro r2 fo ba i hn_9
      exact absurd hn_9 (Nat.not_lt_zero _)
    | succ n_9 ih_9 =>
      intro r2 fo ba i hn_9 hi hj H locs hP hD hS ls hl
      refine lv_iload hx hb d_CO_goesForth_9 (lv_at hl 6 rfl) ?_
      refine lv_iload hx hb d_CO_goesForth_11 (lv_at hl 3 rfl) ?_
      refine x_cmp_gt (a := i) (b := as) (tgt := 125) hx hb (by omega) (by omega) d_CO_goesForth_13 (by decide) (fun c_2 => ?_) (fun c_2 => ?_)
      · skip
        refine lv_lload hx hb d_CO_goesForth_125 (lv_at hl 4 rfl) ?_
        refine lv_iload hx hb d_CO_goesForth_127 (lv_at hl 3 rfl) ?_
        refine vp_callSi (va_Run.run (k_SN (n := 2) (rest := []) ⟨hx, hb, hml, hown, hts⟩ (c_CP_hasBit l dC dI cI cJ cZ fo as (by first | assumption | omega)) hK wmn_CO_15 wst_CP_hasBit wini_CP wcode_CP_hasBit (by decide +kernel) ⟨Nat.le_of_ble_eq_true rfl, Nat.le_of_ble_eq_true rfl⟩ (pre_R (hP.sub (ws' := []) [] rfl) hK) rfl hl.1 rfl (Nat.le_of_ble_eq_true rfl) d_CO_goesForth_129 ⟨Nat.zero_le _, Nat.zero_le _⟩)) (fun r_3 hr_4 => ?_)
        refine xe_i (y := (bI (lb fo as))) hr_4 ?_
        exact W.zret (v := (bI (lb fo as))) hx hb hr (bI_nar _) (fun t9 ht9 _ => ⟨⟨_, (r2), rfl, ⟨_, (by have e9 : i = as + 1 := (by omega); subst e9; exact hj.1), rfl⟩, by show va_P (dC, dI) cls _ t9.heap; rw [ht9]; exact hP⟩, hS.F ht9⟩) hS.2.2 d_CO_goesForth_132
      · skip
        refine lv_iload hx hb d_CO_goesForth_16 (lv_at hl 6 rfl) ?_
        refine lv_bipush (v := (nI 40)) hx hb d_CO_goesForth_18 (by decide) ?_
        refine x_cmp_ge (a := i) (b := 40) (tgt := 125) hx hb (by omega) (by omega) d_CO_goesForth_20 (by decide) (fun c_5 => ?_) (fun c_5 => ?_)
        · skip
          omega
        · skip
          refine lv_lload_n hx hb d_CO_goesForth_23 rfl (lv_at hl 2 rfl) ?_
          refine lv_iload hx hb d_CO_goesForth_24 (lv_at hl 6 rfl) ?_
          refine vp_callSi (va_Run.run (k_SN (n := 2) (rest := []) ⟨hx, hb, hml, hown, hts⟩ (c_CP_hasBit l dC dI cI cJ cZ op i (by first | assumption | omega)) hK wmn_CO_15 wst_CP_hasBit wini_CP wcode_CP_hasBit (by decide +kernel) ⟨Nat.le_of_ble_eq_true rfl, Nat.le_of_ble_eq_true rfl⟩ (pre_R (hP.sub (ws' := []) [] rfl) hK) rfl hl.1 rfl (Nat.le_of_ble_eq_true rfl) d_CO_goesForth_26 ⟨Nat.zero_le _, Nat.zero_le _⟩)) (fun r_6 hr_7 => ?_)
          refine xe_i (y := (bI (lb op i))) hr_7 ?_
          refine x_if_eq (tgt := 119) hx hb d_CO_goesForth_29 (by decide) (fun c_8 => ?_) (fun c_8 => ?_)
          · skip
            refine lv_iinc (v := (nI (i + 1))) (lv' := [(9, .int (nI (i + 1))), (0, .ref co), (1, .ref g), (2, .long op), (4, .int (nI as)), (5, .long fo), (7, .long ba)]) hx hb d_CO_goesForth_119 hl (k := 6) rfl (nI_1 _) (by decide) rfl (fun ls hl => ?_)
            refine lv_goto (tgt := 9) hx hb d_CO_goesForth_122 (by decide) ?_
            exact ih_9 r2 fo ba (i + 1) (by omega) (by first | assumption | omega) (gfI_f hj c_8) _ _ hP hD hS ls (lv_sub hl [1, 2, 3, 4, 5, 6, 0] rfl)
          · skip
            refine lv_lconst (v := 1) hx hb d_CO_goesForth_32 rfl ?_
            refine lv_iload hx hb d_CO_goesForth_33 (lv_at hl 6 rfl) ?_
            refine lv_lshl (v := (lsb i)) hx hb d_CO_goesForth_35 rfl ?_
            refine lv_lstore (lv' := [(10, .long (lsb i)), (0, .ref co), (1, .ref g), (2, .long op), (4, .int (nI as)), (5, .long fo), (7, .long ba), (9, .int (nI i))]) hx hb d_CO_goesForth_36 hl (by decide) rfl (fun ls hl => ?_)
            refine lv_aload_n hx hb d_CO_goesForth_38 rfl (lv_at hl 1 rfl) ?_
            refine lv_aload_n hx hb d_CO_goesForth_39 rfl (lv_at hl 2 rfl) ?_
            refine lv_lload_n hx hb d_CO_goesForth_40 rfl (lv_at hl 3 rfl) ?_
            refine lv_lload hx hb d_CO_goesForth_41 (lv_at hl 6 rfl) ?_
            refine lv_ldc2 (v := -1) hx hb hown (hts _ wkl_CO_19) d_CO_goesForth_43 ?_
            refine lv_lxor hx hb d_CO_goesForth_46 ?_
            refine lv_land hx hb d_CO_goesForth_47 ?_
            refine lv_lload hx hb d_CO_goesForth_48 (lv_at hl 0 rfl) ?_
            refine lv_ldc2 (v := -1) hx hb hown (hts _ wkl_CO_19) d_CO_goesForth_50 ?_
            refine lv_lxor hx hb d_CO_goesForth_53 ?_
            refine lv_land hx hb d_CO_goesForth_54 ?_
            refine lv_lload_n hx hb d_CO_goesForth_55 rfl (lv_at hl 3 rfl) ?_
            refine lv_lload hx hb d_CO_goesForth_56 (lv_at hl 5 rfl) ?_
            refine lv_ldc2 (v := -1) hx hb hown (hts _ wkl_CO_19) d_CO_goesForth_58 ?_
            refine lv_lxor hx hb d_CO_goesForth_61 ?_
            refine lv_land hx hb d_CO_goesForth_62 ?_
            refine lv_lload hx hb d_CO_goesForth_63 (lv_at hl 0 rfl) ?_
            refine lv_ldc2 (v := -1) hx hb hown (hts _ wkl_CO_19) d_CO_goesForth_65 ?_
            refine lv_lxor hx hb d_CO_goesForth_68 ?_
            refine lv_land hx hb d_CO_goesForth_69 ?_
            refine x_cv (k_V (n := 3) (C := R_CO) (rest := []) ⟨hx, hb, hml, hown, hts⟩ (c_CO_fillLeads l dC dI cI cJ cZ co ld g a1 a2 nd ar pr F G (by first | assumption | omega) (by first | assumption | omega) r2 ((op &&& (ba ^^^ (-1 : Int64))) &&& ((lsb i) ^^^ (-1 : Int64))) ((op &&& (fo ^^^ (-1 : Int64))) &&& ((lsb i) ^^^ (-1 : Int64)))) wml_CO_21 wim_CO_fillLeads wsel_CO_fillLeads wini_CO wcode_CO_fillLeads (by decide +kernel) ⟨Nat.le_of_ble_eq_true rfl, Nat.le_of_ble_eq_true rfl⟩ (preV_M (q := (R_CO, F_CO, 1)) (ci := 5) (q0 := 0) (hP.sub (ws' := [(co, .inr (5, [.ref ld])), (ld, .inl (cI, 14, .inl r2)), (g, .inr (1, [.ref a1, .ref a2, .int (nI nd), .int (nI ar), .long pr])), (a1, .inl (cI, 41, .inl (nF F))), (a2, .inl (cI, 41, .inl (nF G)))]) [0, 1, 2, 3, 4] rfl) hK (hD.sub (ws' := [(co, .inr (5, [.ref ld])), (ld, .inl (cI, 14, .inl r2)), (g, .inr (1, [.ref a1, .ref a2, .int (nI nd), .int (nI ar), .long pr])), (a1, .inl (cI, 41, .inl (nF F))), (a2, .inl (cI, 41, .inl (nF G)))]) [0, 1, 2, 3, 4] (by decide) rfl) rfl rfl) rfl hl.1 rfl (Nat.le_of_ble_eq_true rfl) d_CO_goesForth_70 ⟨Nat.zero_le _, Nat.zero_le _⟩) hP hD hS [0, 1, 2, 3, 4] rfl (fun _ => rfl) (fun u_9 H locs hu_9 hP hS => ?_)
            obtain ⟨r9_9, rfl⟩ : ∃ z, z = u_9 := ⟨_, rfl⟩
            have hP : va_P (dC, dI) cls [(co, .inr (5, [.ref ld])), (ld, .inl (cI, 14, .inl r9_9)), (g, .inr (1, [.ref a1, .ref a2, .int (nI nd), .int (nI ar), .long pr])), (a1, .inl (cI, 41, .inl (nF F))), (a2, .inl (cI, 41, .inl (nF G)))] H := hP
            have hD := hD.addr (ws' := [(co, .inr (5, [.ref ld])), (ld, .inl (cI, 14, .inl r9_9)), (g, .inr (1, [.ref a1, .ref a2, .int (nI nd), .int (nI ar), .long pr])), (a1, .inl (cI, 41, .inl (nF F))), (a2, .inl (cI, 41, .inl (nF G)))]) rfl
            refine lv_aload_n hx hb d_CO_goesForth_73 rfl (lv_at hl 1 rfl) ?_
            refine va_get (D := (dC, dI)) (ci := 5) (v := .ref ld) (C := R_CO) (T := F_CO) (N := 1) hx hb hts in_CO hown hK.1 hP 0 rfl rfl 0 (by decide) (hts _ wfl_CO_9) (fun _ h9 => h9) rfl d_CO_goesForth_74 ?_
            refine lv_aload_n hx hb d_CO_goesForth_77 rfl (lv_at hl 2 rfl) ?_
            refine va_get (D := (dC, dI)) (ci := 1) (v := .ref a2) (C := R_GR) (T := F_GR) (N := 5) hx hb hts in_GR hown hK.1 hP 2 rfl rfl 1 (by decide) (hts _ wfl_CO_25) (fun _ h9 => h9) rfl d_CO_goesForth_78 ?_
            refine lv_iload hx hb d_CO_goesForth_81 (lv_at hl 7 rfl) ?_
            refine x_iald (n := 41) (f := (nF G)) (j := i) hx hb hK.1 hP 4 0 rfl rfl (by omega) (by omega) d_CO_goesForth_83 ?_
            refine xe_i (y := (nI (G i))) rfl ?_
            refine lv_iconst (v := (-1)) hx hb d_CO_goesForth_84 (by decide) ?_
            refine vp_callSi (va_Run.run (k_SN (n := 3) (rest := []) ⟨hx, hb, hml, hown, hts⟩ (c_CP_spread l dC dI cI cJ cZ ld r9_9 (G i) (-1) (hG _) (fun a b h => by obtain ⟨e9, _, h9⟩ := (hu_9 a b h.1).mp h.2.1; rcases h9 with z | z <;> (have := z.2.2; have := hF e9; have := hG e9; omega))) hK wmn_CO_30 wst_CP_spread wini_CP wcode_CP_spread (by decide +kernel) ⟨Nat.le_of_ble_eq_true rfl, Nat.le_of_ble_eq_true rfl⟩ (pre_R (hP.sub (ws' := [(ld, .inl (cI, 14, .inl r9_9))]) [1] rfl) hK) rfl hl.1 rfl (Nat.le_of_ble_eq_true rfl) d_CO_goesForth_85 ⟨Nat.zero_le _, Nat.zero_le _⟩)) (fun r_10 hr_11 => ?_)
            refine lv_i2l (v := r_10.toInt64) hx hb d_CO_goesForth_88 rfl ?_
            refine lv_aload_n hx hb d_CO_goesForth_89 rfl (lv_at hl 2 rfl) ?_
            refine va_get (D := (dC, dI)) (ci := 1) (v := .ref a1) (C := R_GR) (T := F_GR) (N := 5) hx hb hts in_GR hown hK.1 hP 2 rfl rfl 0 (by decide) (hts _ wfl_CO_34) (fun _ h9 => h9) rfl d_CO_goesForth_90 ?_
            refine lv_iload hx hb d_CO_goesForth_93 (lv_at hl 7 rfl) ?_
            refine x_iald (n := 41) (f := (nF F)) (j := i) hx hb hK.1 hP 3 0 rfl rfl (by omega) (by omega) d_CO_goesForth_95 ?_
            refine xe_i (y := (nI (F i))) rfl ?_
            refine vp_callSi (va_Run.run (k_SN (n := 2) (rest := []) ⟨hx, hb, hml, hown, hts⟩ (c_CP_hasBit l dC dI cI cJ cZ r_10.toInt64 (F i) (Nat.lt_trans (hF _) (by decide))) hK wmn_CO_15 wst_CP_hasBit wini_CP wcode_CP_hasBit (by decide +kernel) ⟨Nat.le_of_ble_eq_true rfl, Nat.le_of_ble_eq_true rfl⟩ (pre_R (hP.sub (ws' := []) [] rfl) hK) rfl hl.1 rfl (Nat.le_of_ble_eq_true rfl) d_CO_goesForth_96 ⟨Nat.zero_le _, Nat.zero_le _⟩)) (fun r_12 hr_13 => ?_)
            refine xe_i (y := (bI (lb r_10.toInt64 (F i)))) hr_13 ?_
            refine xe_i (y := (bI (bt r_10 (F i)))) (by rw [lb_i2l _ (Nat.lt_trans (hF _) (by decide))]) ?_
            refine x_if_eq (tgt := 112) hx hb d_CO_goesForth_99 (by decide) (fun c_14 => ?_) (fun c_14 => ?_)
            · skip
              refine lv_lload hx hb d_CO_goesForth_112 (lv_at hl 6 rfl) ?_
              refine lv_lload hx hb d_CO_goesForth_114 (lv_at hl 0 rfl) ?_
              refine lv_lor hx hb d_CO_goesForth_116 ?_
              refine lv_lstore (lv' := [(7, .long (ba ||| (lsb i))), (10, .long (lsb i)), (0, .ref co), (1, .ref g), (2, .long op), (4, .int (nI as)), (5, .long fo), (9, .int (nI i))]) hx hb d_CO_goesForth_117 hl (by decide) rfl (fun ls hl => ?_)
              refine lv_iinc (v := (nI (i + 1))) (lv' := [(9, .int (nI (i + 1))), (7, .long (ba ||| (lsb i))), (10, .long (lsb i)), (0, .ref co), (1, .ref g), (2, .long op), (4, .int (nI as)), (5, .long fo)]) hx hb d_CO_goesForth_119 hl (k := 7) rfl (nI_1 _) (by decide) rfl (fun ls hl => ?_)
              refine lv_goto (tgt := 9) hx hb d_CO_goesForth_122 (by decide) ?_
              exact ih_9 r9_9 fo (ba ||| (lsb i)) (i + 1) (by omega) (by first | assumption | omega) (gfI_b (by assumption) hj c_8 (fun q9 => by rw [(gf_ask hF hG hj hu_9 (by assumption) hr_11).mpr q9] at c_14; cases c_14)) _ _ hP hD hS ls (lv_sub hl [3, 4, 5, 6, 7, 1, 0] rfl)
            · skip
              refine lv_lload hx hb d_CO_goesForth_102 (lv_at hl 5 rfl) ?_
              refine lv_lload hx hb d_CO_goesForth_104 (lv_at hl 0 rfl) ?_
              refine lv_lor hx hb d_CO_goesForth_106 ?_
              refine lv_lstore (lv' := [(5, .long (fo ||| (lsb i))), (10, .long (lsb i)), (0, .ref co), (1, .ref g), (2, .long op), (4, .int (nI as)), (7, .long ba), (9, .int (nI i))]) hx hb d_CO_goesForth_107 hl (by decide) rfl (fun ls hl => ?_)
              refine lv_goto (tgt := 119) hx hb d_CO_goesForth_109 (by decide) ?_
              refine lv_iinc (v := (nI (i + 1))) (lv' := [(9, .int (nI (i + 1))), (5, .long (fo ||| (lsb i))), (10, .long (lsb i)), (0, .ref co), (1, .ref g), (2, .long op), (4, .int (nI as)), (7, .long ba)]) hx hb d_CO_goesForth_119 hl (k := 7) rfl (nI_1 _) (by decide) rfl (fun ls hl => ?_)
              refine lv_goto (tgt := 9) hx hb d_CO_goesForth_122 (by decide) ?_
              exact ih_9 r9_9 (fo ||| (lsb i)) ba (i + 1) (by omega) (by first | assumption | omega) (gfI_t (by assumption) hj c_8 ((gf_ask hF hG hj hu_9 (by assumption) hr_11).mp c_14)) _ _ hP hD hS ls (lv_sub hl [3, 4, 5, 6, 1, 7, 0] rfl)
  exact L9_1 ((41 - 0) + 1) r0 0 0 0 (Nat.lt_succ_self _) (by first | assumption | omega) (gfI_0 op F G) _ _ hP hD hS ls (lv_sub hl [3, 4, 5, 6, 2, 1, 0] rfl)
