theorem d_SK_fillRows_0 : decode prog_6_method_3_code 0 = .ok (.aload_n 3, 1) := by decide +kernel
theorem d_SK_fillRows_1 : decode prog_6_method_3_code 1 = .ok (.iconst 0, 1) := by decide +kernel
theorem d_SK_fillRows_2 : decode prog_6_method_3_code 2 = .ok (.invokestatic 62, 3) := by decide +kernel
theorem d_SK_fillRows_5 : decode prog_6_method_3_code 5 = .ok (.iconst 0, 1) := by decide +kernel
theorem d_SK_fillRows_6 : decode prog_6_method_3_code 6 = .ok (.istore 4, 2) := by decide +kernel
theorem d_SK_fillRows_8 : decode prog_6_method_3_code 8 = .ok (.iload 4, 2) := by decide +kernel
theorem d_SK_fillRows_10 : decode prog_6_method_3_code 10 = .ok (.bipush 40, 2) := by decide +kernel
theorem d_SK_fillRows_12 : decode prog_6_method_3_code 12 = .ok (.if_icmp .gt 60, 3) := by decide +kernel
theorem d_SK_fillRows_15 : decode prog_6_method_3_code 15 = .ok (.lload_n 1, 1) := by decide +kernel
theorem d_SK_fillRows_16 : decode prog_6_method_3_code 16 = .ok (.iload 4, 2) := by decide +kernel
theorem d_SK_fillRows_18 : decode prog_6_method_3_code 18 = .ok (.invokestatic 68, 3) := by decide +kernel
theorem d_SK_fillRows_21 : decode prog_6_method_3_code 21 = .ok (.ifCond .eq 45, 3) := by decide +kernel
theorem d_SK_fillRows_24 : decode prog_6_method_3_code 24 = .ok (.aload_n 3, 1) := by decide +kernel
theorem d_SK_fillRows_25 : decode prog_6_method_3_code 25 = .ok (.aload_n 0, 1) := by decide +kernel
theorem d_SK_fillRows_26 : decode prog_6_method_3_code 26 = .ok (.getfield 72, 3) := by decide +kernel
theorem d_SK_fillRows_29 : decode prog_6_method_3_code 29 = .ok (.iload 4, 2) := by decide +kernel
theorem d_SK_fillRows_31 : decode prog_6_method_3_code 31 = .ok (.iaload, 1) := by decide +kernel
theorem d_SK_fillRows_32 : decode prog_6_method_3_code 32 = .ok (.dup2, 1) := by decide +kernel
theorem d_SK_fillRows_33 : decode prog_6_method_3_code 33 = .ok (.iaload, 1) := by decide +kernel
theorem d_SK_fillRows_34 : decode prog_6_method_3_code 34 = .ok (.iconst 1, 1) := by decide +kernel
theorem d_SK_fillRows_35 : decode prog_6_method_3_code 35 = .ok (.aload_n 0, 1) := by decide +kernel
theorem d_SK_fillRows_36 : decode prog_6_method_3_code 36 = .ok (.getfield 75, 3) := by decide +kernel
theorem d_SK_fillRows_39 : decode prog_6_method_3_code 39 = .ok (.iload 4, 2) := by decide +kernel
theorem d_SK_fillRows_41 : decode prog_6_method_3_code 41 = .ok (.iaload, 1) := by decide +kernel
theorem d_SK_fillRows_42 : decode prog_6_method_3_code 42 = .ok (.ishl, 1) := by decide +kernel
theorem d_SK_fillRows_43 : decode prog_6_method_3_code 43 = .ok (.ior, 1) := by decide +kernel
theorem d_SK_fillRows_44 : decode prog_6_method_3_code 44 = .ok (.iastore, 1) := by decide +kernel
theorem d_SK_fillRows_45 : decode prog_6_method_3_code 45 = .ok (.aload_n 3, 1) := by decide +kernel
theorem d_SK_fillRows_46 : decode prog_6_method_3_code 46 = .ok (.aload_n 0, 1) := by decide +kernel
theorem d_SK_fillRows_47 : decode prog_6_method_3_code 47 = .ok (.getfield 75, 3) := by decide +kernel
theorem d_SK_fillRows_50 : decode prog_6_method_3_code 50 = .ok (.iload 4, 2) := by decide +kernel
theorem d_SK_fillRows_52 : decode prog_6_method_3_code 52 = .ok (.iaload, 1) := by decide +kernel
theorem d_SK_fillRows_53 : decode prog_6_method_3_code 53 = .ok (.dup2, 1) := by decide +kernel
theorem d_SK_fillRows_54 : decode prog_6_method_3_code 54 = .ok (.iaload, 1) := by decide +kernel
theorem d_SK_fillRows_55 : decode prog_6_method_3_code 55 = .ok (.iconst 1, 1) := by decide +kernel
theorem d_SK_fillRows_56 : decode prog_6_method_3_code 56 = .ok (.aload_n 0, 1) := by decide +kernel
theorem d_SK_fillRows_57 : decode prog_6_method_3_code 57 = .ok (.getfield 72, 3) := by decide +kernel
theorem d_SK_fillRows_60 : decode prog_6_method_3_code 60 = .ok (.iload 4, 2) := by decide +kernel
theorem d_SK_fillRows_62 : decode prog_6_method_3_code 62 = .ok (.iaload, 1) := by decide +kernel
theorem d_SK_fillRows_63 : decode prog_6_method_3_code 63 = .ok (.ishl, 1) := by decide +kernel
theorem d_SK_fillRows_64 : decode prog_6_method_3_code 64 = .ok (.ior, 1) := by decide +kernel
theorem d_SK_fillRows_65 : decode prog_6_method_3_code 65 = .ok (.iastore, 1) := by decide +kernel
theorem d_SK_fillRows_66 : decode prog_6_method_3_code 66 = .ok (.iinc 4 1, 3) := by decide +kernel
theorem d_SK_fillRows_69 : decode prog_6_method_3_code 69 = .ok (.goto (-61), 3) := by decide +kernel
theorem d_SK_fillRows_72 : decode prog_6_method_3_code 72 = .ok (.return_, 1) := by decide +kernel
set_option maxHeartbeats 4000000 in
set_option maxRecDepth 100000 in
theorem c_SK_fillRows (l : Launch) (dC : Nat → ClassId) (dI : Nat → Nat → Nat) (cI cJ cZ : ClassId) (g a1 a2 nd ar : Nat) (pr : Int64) (F G : Nat → Nat) (hF : ∀ k, F k < 14) (hG : ∀ k, G k < 14) (ro : Nat) (r : Nat → Int32) (dr : Int64) : Met l ⟨"CutPoints$Sketch", "fillRows", "(LCutPoints$Graph;J[I)V"⟩ (Cond.code ⟨"CutPoints$Sketch", "fillRows", "(LCutPoints$Graph;J[I)V"⟩ prog_6_method_3_code 5 none :: TT) (rmk 1 23) (PM dC dI cI cJ cZ [.ref g, .long dr, .ref ro] [(g, .inr (1, [.ref a1, .ref a2, .int (nI nd), .int (nI ar), .long pr])), (a1, .inl (cI, 41, .inl (nF F))), (a2, .inl (cI, 41, .inl (nF G))), (ro, .inl (cI, 14, .inl r))]) (va_Qv (S := Nat → Int32) (fun u => NR (lb dr) F G u) (fun u t => va_P (dC, dI) cls ([(g, .inr (1, [.ref a1, .ref a2, .int (nI nd), .int (nI ar), .long pr])), (a1, .inl (cI, 41, .inl (nF F))), (a2, .inl (cI, 41, .inl (nF G))), (ro, .inl (cI, 14, .inl u))]) t.heap) (ow [(g, .inr (1, [.ref a1, .ref a2, .int (nI nd), .int (nI ar), .long pr])), (a1, .inl (cI, 41, .inl (nF F))), (a2, .inl (cI, 41, .inl (nF G))), (ro, .inl (cI, 14, .inl r))])) 0 0 (ow [(g, .inr (1, [.ref a1, .ref a2, .int (nI nd), .int (nI ar), .long pr])), (a1, .inl (cI, 41, .inl (nF F))), (a2, .inl (cI, 41, .inl (nF G))), (ro, .inl (cI, 14, .inl r))]) := by
  refine Met.ofW (cc := prog_6_method_3_code) (maxL := 5) (ret := none) (by decide) rfl ?_
  intro p e s m args below meth c s₁ B hml hv
  obtain ⟨rfl, hP, hK, hD0⟩ := hv
  have hx := B.exec
  have hb := B.bytes
  have hr := B.returns
  have hts : ∀ w ∈ TT, w.before _ s = true := fun w h => atoms_spec (ws := (Cond.code ⟨"CutPoints$Sketch", "fillRows", "(LCutPoints$Graph;J[I)V"⟩ prog_6_method_3_code 5 none :: TT)) B.pre w (List.mem_cons_of_mem _ h)
  have hown : s.vm.findClass "CutPoints$Sketch" = some m.cls := findClass_of_methodNamed B.named
  have hlocks := B.notSynchronized
  have hD := hD0.mine
  have hS : va_S (ow [(g, .inr (1, [.ref a1, .ref a2, .int (nI nd), .int (nI ar), .long pr])), (a1, .inl (cI, 41, .inl (nF F))), (a2, .inl (cI, 41, .inl (nF G))), (ro, .inl (cI, 14, .inl r))]) s.heap s.heap [] := va_S.rf
  have hl := lv_entry ([.ref g, .long dr, .ref ro]) (n := 5) (Nat.le_of_ble_eq_true rfl)
  rw [lg_entry_eq]
  generalize (lg_sl ([.ref g, .long dr, .ref ro]) ++ List.replicate (5 - (lg_sl ([.ref g, .long dr, .ref ro])).length) Slot.unset).toArray = ls at hl ⊢
  have hl : lv_has ls 5 [(0, .ref g), (1, .long dr), (3, .ref ro)] := hl
  refine lv_aload_n hx hb d_SK_fillRows_0 rfl (lv_at hl 2 rfl) ?_
  refine lv_iconst (v := (nI 0)) hx hb d_SK_fillRows_1 (by decide) ?_
  refine x_cv (k_S (n := 2) (rest := []) ⟨hx, hb, hml, hown, hts⟩ (c_JA_fill l dC dI cI cJ cZ ro 14 r (nI 0) (by first | assumption | omega)) wml_SK_62 wst_JA_fill wini_JA wcode_JA_fill (by decide +kernel) ⟨Nat.le_of_ble_eq_true rfl, Nat.le_of_ble_eq_true rfl⟩ (pre_M (hP.sub (ws' := [(ro, .inl (cI, 14, .inl r))]) [3] rfl) hK (hD.sub (ws' := [(ro, .inl (cI, 14, .inl r))]) [3] (by decide) rfl)) rfl hl.1 rfl (Nat.le_of_ble_eq_true rfl) d_SK_fillRows_2 ⟨Nat.zero_le _, Nat.zero_le _⟩) hP hD hS [3] rfl (fun _ => rfl) (fun u_1 H locs hu_1 hP hS => ?_)
  obtain ⟨g_1, rfl⟩ : ∃ z, z = u_1 := ⟨_, rfl⟩
  have hP : va_P (dC, dI) cls [(g, .inr (1, [.ref a1, .ref a2, .int (nI nd), .int (nI ar), .long pr])), (a1, .inl (cI, 41, .inl (nF F))), (a2, .inl (cI, 41, .inl (nF G))), (ro, .inl (cI, 14, .inl g_1))] H := hP
  have hD := hD.addr (ws' := [(g, .inr (1, [.ref a1, .ref a2, .int (nI nd), .int (nI ar), .long pr])), (a1, .inl (cI, 41, .inl (nF F))), (a2, .inl (cI, 41, .inl (nF G))), (ro, .inl (cI, 14, .inl g_1))]) rfl
  refine lv_iconst (v := (nI 0)) hx hb d_SK_fillRows_5 (by decide) ?_
  refine lv_istore (lv' := [(4, .int (nI 0)), (0, .ref g), (1, .long dr), (3, .ref ro)]) hx hb d_SK_fillRows_6 hl (by decide) rfl (fun ls hl => ?_)
  have L8_2 : ∀ (n : Nat) (r2 : Nat → Int32) (i : Nat) (hn : 41 - i < n) (hi : i ≤ 41) (hn : NRi (lb dr) F G r2 i) (H : Heap) (locs : List Loc) (hP : va_P (dC, dI) cls [(g, .inr (1, [.ref a1, .ref a2, .int (nI nd), .int (nI ar), .long pr])), (a1, .inl (cI, 41, .inl (nF F))), (a2, .inl (cI, 41, .inl (nF G))), (ro, .inl (cI, 14, .inl r2))] H) (hD : va_D (ow [(g, .inr (1, [.ref a1, .ref a2, .int (nI nd), .int (nI ar), .long pr])), (a1, .inl (cI, 41, .inl (nF F))), (a2, .inl (cI, 41, .inl (nF G))), (ro, .inl (cI, 14, .inl r))]) [(g, .inr (1, [.ref a1, .ref a2, .int (nI nd), .int (nI ar), .long pr])), (a1, .inl (cI, 41, .inl (nF F))), (a2, .inl (cI, 41, .inl (nF G))), (ro, .inl (cI, 14, .inl r2))]) (hS : va_S (ow [(g, .inr (1, [.ref a1, .ref a2, .int (nI nd), .int (nI ar), .long pr])), (a1, .inl (cI, 41, .inl (nF F))), (a2, .inl (cI, 41, .inl (nF G))), (ro, .inl (cI, 14, .inl r))]) s.heap H locs) (ls : Array Slot) (hl : lv_has ls 5 [(0, .ref g), (1, .long dr), (3, .ref ro), (4, .int (nI i))]), W p l e (headSpec (Cond.code ⟨"CutPoints$Sketch", "fillRows", "(LCutPoints$Graph;J[I)V"⟩ prog_6_method_3_code 5 none :: TT) (rmk 1 23)).room s m ([.ref g, .long dr, .ref ro] : List Value).toArray below meth c H locs 0 0 (MQ below (va_Qv (S := Nat → Int32) (fun u => NR (lb dr) F G u) (fun u t => va_P (dC, dI) cls ([(g, .inr (1, [.ref a1, .ref a2, .int (nI nd), .int (nI ar), .long pr])), (a1, .inl (cI, 41, .inl (nF F))), (a2, .inl (cI, 41, .inl (nF G))), (ro, .inl (cI, 14, .inl u))]) t.heap) (ow [(g, .inr (1, [.ref a1, .ref a2, .int (nI nd), .int (nI ar), .long pr])), (a1, .inl (cI, 41, .inl (nF F))), (a2, .inl (cI, 41, .inl (nF G))), (ro, .inl (cI, 14, .inl r))])) ([.ref g, .long dr, .ref ro] : List Value).toArray s 0 0 (ow [(g, .inr (1, [.ref a1, .ref a2, .int (nI nd), .int (nI ar), .long pr])), (a1, .inl (cI, 41, .inl (nF F))), (a2, .inl (cI, 41, .inl (nF G))), (ro, .inl (cI, 14, .inl r))])) (F0 m 8 ls []) := by
    intro n_8
    induction n_8 with
    | zero =>
      intro r2 i hn_8
      exact absurd hn_8 (Nat.not_lt_zero _)
    | succ n_8 ih_8 =>
      intro r2 i hn_8 hi hn H locs hP hD hS ls hl
      refine lv_iload hx hb d_SK_fillRows_8 (lv_at hl 3 rfl) ?_
      refine lv_bipush (v := (nI 40)) hx hb d_SK_fillRows_10 (by decide) ?_
      refine x_cmp_gt (a := i) (b := 40) (tgt := 72) hx hb (by omega) (by omega) d_SK_fillRows_12 (by decide) (fun c_3 => ?_) (fun c_3 => ?_)
      · skip
        exact W.vret hx hb hr (fun t ht _ => ⟨⟨(r2), rfl, (by have e9 : i = 41 := (by omega); subst e9; exact hn), by show va_P (dC, dI) cls _ t.heap; rw [ht]; exact hP⟩, hS.F ht⟩) hS.2.2 d_SK_fillRows_72
      · skip
        refine lv_lload_n hx hb d_SK_fillRows_15 rfl (lv_at hl 1 rfl) ?_
        refine lv_iload hx hb d_SK_fillRows_16 (lv_at hl 3 rfl) ?_
        refine vp_callSi (va_Run.run (k_SN (n := 2) (rest := []) ⟨hx, hb, hml, hown, hts⟩ (c_CP_hasBit l dC dI cI cJ cZ dr i (by first | assumption | omega)) hK wmn_SK_68 wst_CP_hasBit wini_CP wcode_CP_hasBit (by decide +kernel) ⟨Nat.le_of_ble_eq_true rfl, Nat.le_of_ble_eq_true rfl⟩ (pre_R (hP.sub (ws' := []) [] rfl) hK) rfl hl.1 rfl (Nat.le_of_ble_eq_true rfl) d_SK_fillRows_18 ⟨Nat.zero_le _, Nat.zero_le _⟩)) (fun r_4 hr_5 => ?_)
        refine xe_i (y := (bI (lb dr i))) hr_5 ?_
        refine x_if_eq (tgt := 66) hx hb d_SK_fillRows_21 (by decide) (fun c_6 => ?_) (fun c_6 => ?_)
        · skip
          refine lv_iinc (v := (nI (i + 1))) (lv' := [(4, .int (nI (i + 1))), (0, .ref g), (1, .long dr), (3, .ref ro)]) hx hb d_SK_fillRows_66 hl (k := 3) rfl (nI_1 _) (by decide) rfl (fun ls hl => ?_)
          refine lv_goto (tgt := 8) hx hb d_SK_fillRows_69 (by decide) ?_
          exact ih_8 r2 (i + 1) (by omega) (by first | assumption | omega) (NRi_f hn c_6) _ _ hP hD hS ls (lv_sub hl [1, 2, 3, 0] rfl)
        · skip
          refine lv_aload_n hx hb d_SK_fillRows_24 rfl (lv_at hl 2 rfl) ?_
          refine lv_aload_n hx hb d_SK_fillRows_25 rfl (lv_at hl 0 rfl) ?_
          refine va_get (D := (dC, dI)) (ci := 1) (v := .ref a1) (C := R_GR) (T := F_GR) (N := 5) hx hb hts in_GR hown hK.1 hP 0 rfl rfl 0 (by decide) (hts _ wfl_SK_72) (fun _ h9 => h9) rfl d_SK_fillRows_26 ?_
          refine lv_iload hx hb d_SK_fillRows_29 (lv_at hl 3 rfl) ?_
          refine x_iald (n := 41) (f := (nF F)) (j := i) hx hb hK.1 hP 1 0 rfl rfl (by omega) (by omega) d_SK_fillRows_31 ?_
          refine xe_i (y := (nI (F i))) rfl ?_
          refine lv_dup2_11 hx hb d_SK_fillRows_32 rfl rfl ?_
          refine x_iald (n := 14) (f := r2) (j := (F i)) hx hb hK.1 hP 3 0 rfl rfl (hF _) (by omega) d_SK_fillRows_33 ?_
          refine lv_iconst (v := (nI 1)) hx hb d_SK_fillRows_34 (by decide) ?_
          refine lv_aload_n hx hb d_SK_fillRows_35 rfl (lv_at hl 0 rfl) ?_
          refine va_get (D := (dC, dI)) (ci := 1) (v := .ref a2) (C := R_GR) (T := F_GR) (N := 5) hx hb hts in_GR hown hK.1 hP 0 rfl rfl 1 (by decide) (hts _ wfl_SK_75) (fun _ h9 => h9) rfl d_SK_fillRows_36 ?_
          refine lv_iload hx hb d_SK_fillRows_39 (lv_at hl 3 rfl) ?_
          refine x_iald (n := 41) (f := (nF G)) (j := i) hx hb hK.1 hP 2 0 rfl rfl (by omega) (by omega) d_SK_fillRows_41 ?_
          refine xe_i (y := (nI (G i))) rfl ?_
          refine lv_ishl hx hb d_SK_fillRows_42 ?_
          refine xe_i (y := (sb (G i))) rfl ?_
          refine lv_ior hx hb d_SK_fillRows_43 ?_
          refine x_iast (g := (va_up r2 (F i) ((r2 (F i)) ||| (sb (G i))))) hx hb hK.1 hP hD hS 3 0 rfl rfl rfl (hF _) (by omega) d_SK_fillRows_44 (fun H locs hP hD hS => ?_)
          have hP : va_P (dC, dI) cls [(g, .inr (1, [.ref a1, .ref a2, .int (nI nd), .int (nI ar), .long pr])), (a1, .inl (cI, 41, .inl (nF F))), (a2, .inl (cI, 41, .inl (nF G))), (ro, .inl (cI, 14, .inl (va_up r2 (F i) ((r2 (F i)) ||| (sb (G i))))))] H := hP
          have hD : va_D (ow [(g, .inr (1, [.ref a1, .ref a2, .int (nI nd), .int (nI ar), .long pr])), (a1, .inl (cI, 41, .inl (nF F))), (a2, .inl (cI, 41, .inl (nF G))), (ro, .inl (cI, 14, .inl r))]) [(g, .inr (1, [.ref a1, .ref a2, .int (nI nd), .int (nI ar), .long pr])), (a1, .inl (cI, 41, .inl (nF F))), (a2, .inl (cI, 41, .inl (nF G))), (ro, .inl (cI, 14, .inl (va_up r2 (F i) ((r2 (F i)) ||| (sb (G i))))))] := hD
          refine lv_aload_n hx hb d_SK_fillRows_45 rfl (lv_at hl 2 rfl) ?_
          refine lv_aload_n hx hb d_SK_fillRows_46 rfl (lv_at hl 0 rfl) ?_
          refine va_get (D := (dC, dI)) (ci := 1) (v := .ref a2) (C := R_GR) (T := F_GR) (N := 5) hx hb hts in_GR hown hK.1 hP 0 rfl rfl 1 (by decide) (hts _ wfl_SK_75) (fun _ h9 => h9) rfl d_SK_fillRows_47 ?_
          refine lv_iload hx hb d_SK_fillRows_50 (lv_at hl 3 rfl) ?_
          refine x_iald (n := 41) (f := (nF G)) (j := i) hx hb hK.1 hP 2 0 rfl rfl (by omega) (by omega) d_SK_fillRows_52 ?_
          refine xe_i (y := (nI (G i))) rfl ?_
          refine lv_dup2_11 hx hb d_SK_fillRows_53 rfl rfl ?_
          refine x_iald (n := 14) (f := (va_up r2 (F i) ((r2 (F i)) ||| (sb (G i))))) (j := (G i)) hx hb hK.1 hP 3 0 rfl rfl (hG _) (by omega) d_SK_fillRows_54 ?_
          refine lv_iconst (v := (nI 1)) hx hb d_SK_fillRows_55 (by decide) ?_
          refine lv_aload_n hx hb d_SK_fillRows_56 rfl (lv_at hl 0 rfl) ?_
          refine va_get (D := (dC, dI)) (ci := 1) (v := .ref a1) (C := R_GR) (T := F_GR) (N := 5) hx hb hts in_GR hown hK.1 hP 0 rfl rfl 0 (by decide) (hts _ wfl_SK_72) (fun _ h9 => h9) rfl d_SK_fillRows_57 ?_
          refine lv_iload hx hb d_SK_fillRows_60 (lv_at hl 3 rfl) ?_
          refine x_iald (n := 41) (f := (nF F)) (j := i) hx hb hK.1 hP 1 0 rfl rfl (by omega) (by omega) d_SK_fillRows_62 ?_
          refine xe_i (y := (nI (F i))) rfl ?_
          refine lv_ishl hx hb d_SK_fillRows_63 ?_
          refine xe_i (y := (sb (F i))) rfl ?_
          refine lv_ior hx hb d_SK_fillRows_64 ?_
          refine x_iast (g := (va_up (va_up r2 (F i) ((r2 (F i)) ||| (sb (G i)))) (G i) (((va_up r2 (F i) ((r2 (F i)) ||| (sb (G i)))) (G i)) ||| (sb (F i))))) hx hb hK.1 hP hD hS 3 0 rfl rfl rfl (hG _) (by omega) d_SK_fillRows_65 (fun H locs hP hD hS => ?_)
          have hP : va_P (dC, dI) cls [(g, .inr (1, [.ref a1, .ref a2, .int (nI nd), .int (nI ar), .long pr])), (a1, .inl (cI, 41, .inl (nF F))), (a2, .inl (cI, 41, .inl (nF G))), (ro, .inl (cI, 14, .inl (va_up (va_up r2 (F i) ((r2 (F i)) ||| (sb (G i)))) (G i) (((va_up r2 (F i) ((r2 (F i)) ||| (sb (G i)))) (G i)) ||| (sb (F i))))))] H := hP
          have hD : va_D (ow [(g, .inr (1, [.ref a1, .ref a2, .int (nI nd), .int (nI ar), .long pr])), (a1, .inl (cI, 41, .inl (nF F))), (a2, .inl (cI, 41, .inl (nF G))), (ro, .inl (cI, 14, .inl r))]) [(g, .inr (1, [.ref a1, .ref a2, .int (nI nd), .int (nI ar), .long pr])), (a1, .inl (cI, 41, .inl (nF F))), (a2, .inl (cI, 41, .inl (nF G))), (ro, .inl (cI, 14, .inl (va_up (va_up r2 (F i) ((r2 (F i)) ||| (sb (G i)))) (G i) (((va_up r2 (F i) ((r2 (F i)) ||| (sb (G i)))) (G i)) ||| (sb (F i))))))] := hD
          refine lv_iinc (v := (nI (i + 1))) (lv' := [(4, .int (nI (i + 1))), (0, .ref g), (1, .long dr), (3, .ref ro)]) hx hb d_SK_fillRows_66 hl (k := 3) rfl (nI_1 _) (by decide) rfl (fun ls hl => ?_)
          refine lv_goto (tgt := 8) hx hb d_SK_fillRows_69 (by decide) ?_
          exact ih_8 (va_up (va_up r2 (F i) ((r2 (F i)) ||| (sb (G i)))) (G i) (((va_up r2 (F i) ((r2 (F i)) ||| (sb (G i)))) (G i)) ||| (sb (F i)))) (i + 1) (by omega) (by first | assumption | omega) (NRi_t hF hG hn c_6) _ _ hP hD hS ls (lv_sub hl [1, 2, 3, 0] rfl)
  exact L8_2 ((41 - 0) + 1) g_1 0 (Nat.lt_succ_self _) (by first | assumption | omega) (NRi_0 hu_1) _ _ hP hD hS ls (lv_sub hl [1, 2, 3, 0] rfl)

theorem d_SK_fillArcs_0 : decode prog_6_method_4_code 0 = .ok (.aload_n 0, 1) := by decide +kernel
theorem d_SK_fillArcs_1 : decode prog_6_method_4_code 1 = .ok (.getfield 21, 3) := by decide +kernel
theorem d_SK_fillArcs_4 : decode prog_6_method_4_code 4 = .ok (.lconst 0, 1) := by decide +kernel
theorem d_SK_fillArcs_5 : decode prog_6_method_4_code 5 = .ok (.invokestatic 78, 3) := by decide +kernel
theorem d_SK_fillArcs_8 : decode prog_6_method_4_code 8 = .ok (.iconst 0, 1) := by decide +kernel
theorem d_SK_fillArcs_9 : decode prog_6_method_4_code 9 = .ok (.istore 4, 2) := by decide +kernel
theorem d_SK_fillArcs_11 : decode prog_6_method_4_code 11 = .ok (.iload 4, 2) := by decide +kernel
theorem d_SK_fillArcs_13 : decode prog_6_method_4_code 13 = .ok (.bipush 40, 2) := by decide +kernel
theorem d_SK_fillArcs_15 : decode prog_6_method_4_code 15 = .ok (.if_icmp .gt 56, 3) := by decide +kernel
theorem d_SK_fillArcs_18 : decode prog_6_method_4_code 18 = .ok (.lload_n 2, 1) := by decide +kernel
theorem d_SK_fillArcs_19 : decode prog_6_method_4_code 19 = .ok (.iload 4, 2) := by decide +kernel
theorem d_SK_fillArcs_21 : decode prog_6_method_4_code 21 = .ok (.invokestatic 68, 3) := by decide +kernel
theorem d_SK_fillArcs_24 : decode prog_6_method_4_code 24 = .ok (.ifCond .eq 41, 3) := by decide +kernel
theorem d_SK_fillArcs_27 : decode prog_6_method_4_code 27 = .ok (.aload_n 0, 1) := by decide +kernel
theorem d_SK_fillArcs_28 : decode prog_6_method_4_code 28 = .ok (.getfield 21, 3) := by decide +kernel
theorem d_SK_fillArcs_31 : decode prog_6_method_4_code 31 = .ok (.aload_n 1, 1) := by decide +kernel
theorem d_SK_fillArcs_32 : decode prog_6_method_4_code 32 = .ok (.getfield 72, 3) := by decide +kernel
theorem d_SK_fillArcs_35 : decode prog_6_method_4_code 35 = .ok (.iload 4, 2) := by decide +kernel
theorem d_SK_fillArcs_37 : decode prog_6_method_4_code 37 = .ok (.iaload, 1) := by decide +kernel
theorem d_SK_fillArcs_38 : decode prog_6_method_4_code 38 = .ok (.dup2, 1) := by decide +kernel
theorem d_SK_fillArcs_39 : decode prog_6_method_4_code 39 = .ok (.laload, 1) := by decide +kernel
theorem d_SK_fillArcs_40 : decode prog_6_method_4_code 40 = .ok (.lconst 1, 1) := by decide +kernel
theorem d_SK_fillArcs_41 : decode prog_6_method_4_code 41 = .ok (.iload 4, 2) := by decide +kernel
theorem d_SK_fillArcs_43 : decode prog_6_method_4_code 43 = .ok (.lshl, 1) := by decide +kernel
theorem d_SK_fillArcs_44 : decode prog_6_method_4_code 44 = .ok (.lor, 1) := by decide +kernel
theorem d_SK_fillArcs_45 : decode prog_6_method_4_code 45 = .ok (.lastore, 1) := by decide +kernel
theorem d_SK_fillArcs_46 : decode prog_6_method_4_code 46 = .ok (.aload_n 0, 1) := by decide +kernel
theorem d_SK_fillArcs_47 : decode prog_6_method_4_code 47 = .ok (.getfield 21, 3) := by decide +kernel
theorem d_SK_fillArcs_50 : decode prog_6_method_4_code 50 = .ok (.aload_n 1, 1) := by decide +kernel
theorem d_SK_fillArcs_51 : decode prog_6_method_4_code 51 = .ok (.getfield 75, 3) := by decide +kernel
theorem d_SK_fillArcs_54 : decode prog_6_method_4_code 54 = .ok (.iload 4, 2) := by decide +kernel
theorem d_SK_fillArcs_56 : decode prog_6_method_4_code 56 = .ok (.iaload, 1) := by decide +kernel
theorem d_SK_fillArcs_57 : decode prog_6_method_4_code 57 = .ok (.dup2, 1) := by decide +kernel
theorem d_SK_fillArcs_58 : decode prog_6_method_4_code 58 = .ok (.laload, 1) := by decide +kernel
theorem d_SK_fillArcs_59 : decode prog_6_method_4_code 59 = .ok (.lconst 1, 1) := by decide +kernel
theorem d_SK_fillArcs_60 : decode prog_6_method_4_code 60 = .ok (.iload 4, 2) := by decide +kernel
theorem d_SK_fillArcs_62 : decode prog_6_method_4_code 62 = .ok (.lshl, 1) := by decide +kernel
theorem d_SK_fillArcs_63 : decode prog_6_method_4_code 63 = .ok (.lor, 1) := by decide +kernel
theorem d_SK_fillArcs_64 : decode prog_6_method_4_code 64 = .ok (.lastore, 1) := by decide +kernel
theorem d_SK_fillArcs_65 : decode prog_6_method_4_code 65 = .ok (.iinc 4 1, 3) := by decide +kernel
theorem d_SK_fillArcs_68 : decode prog_6_method_4_code 68 = .ok (.goto (-57), 3) := by decide +kernel
theorem d_SK_fillArcs_71 : decode prog_6_method_4_code 71 = .ok (.return_, 1) := by decide +kernel
set_option maxHeartbeats 4000000 in
set_option maxRecDepth 100000 in
theorem c_SK_fillArcs (l : Launch) (dC : Nat → ClassId) (dI : Nat → Nat → Nat) (cI cJ cZ : ClassId) (k nr fr rs at_ h : Nat) (al : Int32) (br : Int64) (g a1 a2 nd ar : Nat) (pr : Int64) (F G : Nat → Nat) (hF : ∀ k, F k < 14) (hG : ∀ k, G k < 14) (A : Nat → Int64) (dr : Int64) : Met l ⟨"CutPoints$Sketch", "fillArcs", "(LCutPoints$Graph;J)V"⟩ (Cond.code ⟨"CutPoints$Sketch", "fillArcs", "(LCutPoints$Graph;J)V"⟩ prog_6_method_4_code 5 none :: TT) (rmk 1 24) (PM dC dI cI cJ cZ [.ref k, .ref g, .long dr] [(k, .inr (2, [.ref nr, .ref fr, .ref rs, .ref at_, .ref h, .int al, .long br])), (g, .inr (1, [.ref a1, .ref a2, .int (nI nd), .int (nI ar), .long pr])), (a1, .inl (cI, 41, .inl (nF F))), (a2, .inl (cI, 41, .inl (nF G))), (at_, .inl (cJ, 14, .inr (.inl A)))]) (va_Qv (S := Nat → Int64) (fun u => AR (lb dr) F G u) (fun u t => va_P (dC, dI) cls ([(k, .inr (2, [.ref nr, .ref fr, .ref rs, .ref at_, .ref h, .int al, .long br])), (g, .inr (1, [.ref a1, .ref a2, .int (nI nd), .int (nI ar), .long pr])), (a1, .inl (cI, 41, .inl (nF F))), (a2, .inl (cI, 41, .inl (nF G))), (at_, .inl (cJ, 14, .inr (.inl u)))]) t.heap) (ow [(k, .inr (2, [.ref nr, .ref fr, .ref rs, .ref at_, .ref h, .int al, .long br])), (g, .inr (1, [.ref a1, .ref a2, .int (nI nd), .int (nI ar), .long pr])), (a1, .inl (cI, 41, .inl (nF F))), (a2, .inl (cI, 41, .inl (nF G))), (at_, .inl (cJ, 14, .inr (.inl A)))])) 0 0 (ow [(k, .inr (2, [.ref nr, .ref fr, .ref rs, .ref at_, .ref h, .int al, .long br])), (g, .inr (1, [.ref a1, .ref a2, .int (nI nd), .int (nI ar), .long pr])), (a1, .inl (cI, 41, .inl (nF F))), (a2, .inl (cI, 41, .inl (nF G))), (at_, .inl (cJ, 14, .inr (.inl A)))]) := by
  refine Met.ofW (cc := prog_6_method_4_code) (maxL := 5) (ret := none) (by decide) rfl ?_
  intro p e s m args below meth c s₁ B hml hv
  obtain ⟨rfl, hP, hK, hD0⟩ := hv
  have hx := B.exec
  have hb := B.bytes
  have hr := B.returns
  have hts : ∀ w ∈ TT, w.before _ s = true := fun w h => atoms_spec (ws := (Cond.code ⟨"CutPoints$Sketch", "fillArcs", "(LCutPoints$Graph;J)V"⟩ prog_6_method_4_code 5 none :: TT)) B.pre w (List.mem_cons_of_mem _ h)
  have hown : s.vm.findClass "CutPoints$Sketch" = some m.cls := findClass_of_methodNamed B.named
  have hlocks := B.notSynchronized
  have hD := hD0.mine
  have hS : va_S (ow [(k, .inr (2, [.ref nr, .ref fr, .ref rs, .ref at_, .ref h, .int al, .long br])), (g, .inr (1, [.ref a1, .ref a2, .int (nI nd), .int (nI ar), .long pr])), (a1, .inl (cI, 41, .inl (nF F))), (a2, .inl (cI, 41, .inl (nF G))), (at_, .inl (cJ, 14, .inr (.inl A)))]) s.heap s.heap [] := va_S.rf
  have hl := lv_entry ([.ref k, .ref g, .long dr]) (n := 5) (Nat.le_of_ble_eq_true rfl)
  rw [lg_entry_eq]
  generalize (lg_sl ([.ref k, .ref g, .long dr]) ++ List.replicate (5 - (lg_sl ([.ref k, .ref g, .long dr])).length) Slot.unset).toArray = ls at hl ⊢
  have hl : lv_has ls 5 [(0, .ref k), (1, .ref g), (2, .long dr)] := hl
  refine lv_aload_n hx hb d_SK_fillArcs_0 rfl (lv_at hl 0 rfl) ?_
  refine va_get (D := (dC, dI)) (ci := 2) (v := .ref at_) (C := R_SK) (T := F_SK) (N := 7) hx hb hts in_SK hown hK.1 hP 0 rfl rfl 3 (by decide) (hts _ wfl_SK_21) (fun _ h9 => h9) rfl d_SK_fillArcs_1 ?_
  refine lv_lconst (v := 0) hx hb d_SK_fillArcs_4 rfl ?_
  refine x_cv (k_S (n := 2) (rest := []) ⟨hx, hb, hml, hown, hts⟩ (c_JA_fill_JJV l dC dI cI cJ cZ at_ 14 A 0 (by first | assumption | omega)) wml_SK_78 wst_JA_fill_JJV wini_JA wcode_JA_fill_JJV (by decide +kernel) ⟨Nat.le_of_ble_eq_true rfl, Nat.le_of_ble_eq_true rfl⟩ (pre_M (hP.sub (ws' := [(at_, .inl (cJ, 14, .inr (.inl A)))]) [4] rfl) hK (hD.sub (ws' := [(at_, .inl (cJ, 14, .inr (.inl A)))]) [4] (by decide) rfl)) rfl hl.1 rfl (Nat.le_of_ble_eq_true rfl) d_SK_fillArcs_5 ⟨Nat.zero_le _, Nat.zero_le _⟩) hP hD hS [4] rfl (fun _ => rfl) (fun u_1 H locs hu_1 hP hS => ?_)
  obtain ⟨g_1, rfl⟩ : ∃ z, z = u_1 := ⟨_, rfl⟩
  have hP : va_P (dC, dI) cls [(k, .inr (2, [.ref nr, .ref fr, .ref rs, .ref at_, .ref h, .int al, .long br])), (g, .inr (1, [.ref a1, .ref a2, .int (nI nd), .int (nI ar), .long pr])), (a1, .inl (cI, 41, .inl (nF F))), (a2, .inl (cI, 41, .inl (nF G))), (at_, .inl (cJ, 14, .inr (.inl g_1)))] H := hP
  have hD := hD.addr (ws' := [(k, .inr (2, [.ref nr, .ref fr, .ref rs, .ref at_, .ref h, .int al, .long br])), (g, .inr (1, [.ref a1, .ref a2, .int (nI nd), .int (nI ar), .long pr])), (a1, .inl (cI, 41, .inl (nF F))), (a2, .inl (cI, 41, .inl (nF G))), (at_, .inl (cJ, 14, .inr (.inl g_1)))]) rfl
  refine lv_iconst (v := (nI 0)) hx hb d_SK_fillArcs_8 (by decide) ?_
  refine lv_istore (lv' := [(4, .int (nI 0)), (0, .ref k), (1, .ref g), (2, .long dr)]) hx hb d_SK_fillArcs_9 hl (by decide) rfl (fun ls hl => ?_)
  have L11_2 : ∀ (n : Nat) (A2 : Nat → Int64) (i : Nat) (hn : 41 - i < n) (hi : i ≤ 41) (hn : ARi (lb dr) F G A2 i) (H : Heap) (locs : List Loc) (hP : va_P (dC, dI) cls [(k, .inr (2, [.ref nr, .ref fr, .ref rs, .ref at_, .ref h, .int al, .long br])), (g, .inr (1, [.ref a1, .ref a2, .int (nI nd), .int (nI ar), .long pr])), (a1, .inl (cI, 41, .inl (nF F))), (a2, .inl (cI, 41, .inl (nF G))), (at_, .inl (cJ, 14, .inr (.inl A2)))] H) (hD : va_D (ow [(k, .inr (2, [.ref nr, .ref fr, .ref rs, .ref at_, .ref h, .int al, .long br])), (g, .inr (1, [.ref a1, .ref a2, .int (nI nd), .int (nI ar), .long pr])), (a1, .inl (cI, 41, .inl (nF F))), (a2, .inl (cI, 41, .inl (nF G))), (at_, .inl (cJ, 14, .inr (.inl A)))]) [(k, .inr (2, [.ref nr, .ref fr, .ref rs, .ref at_, .ref h, .int al, .long br])), (g, .inr (1, [.ref a1, .ref a2, .int (nI nd), .int (nI ar), .long pr])), (a1, .inl (cI, 41, .inl (nF F))), (a2, .inl (cI, 41, .inl (nF G))), (at_, .inl (cJ, 14, .inr (.inl A2)))]) (hS : va_S (ow [(k, .inr (2, [.ref nr, .ref fr, .ref rs, .ref at_, .ref h, .int al, .long br])), (g, .inr (1, [.ref a1, .ref a2, .int (nI nd), .int (nI ar), .long pr])), (a1, .inl (cI, 41, .inl (nF F))), (a2, .inl (cI, 41, .inl (nF G))), (at_, .inl (cJ, 14, .inr (.inl A)))]) s.heap H locs) (ls : Array Slot) (hl : lv_has ls 5 [(0, .ref k), (1, .ref g), (2, .long dr), (4, .int (nI i))]), W p l e (headSpec (Cond.code ⟨"CutPoints$Sketch", "fillArcs", "(LCutPoints$Graph;J)V"⟩ prog_6_method_4_code 5 none :: TT) (rmk 1 24)).room s m ([.ref k, .ref g, .long dr] : List Value).toArray below meth c H locs 0 0 (MQ below (va_Qv (S := Nat → Int64) (fun u => AR (lb dr) F G u) (fun u t => va_P (dC, dI) cls ([(k, .inr (2, [.ref nr, .ref fr, .ref rs, .ref at_, .ref h, .int al, .long br])), (g, .inr (1, [.ref a1, .ref a2, .int (nI nd), .int (nI ar), .long pr])), (a1, .inl (cI, 41, .inl (nF F))), (a2, .inl (cI, 41, .inl (nF G))), (at_, .inl (cJ, 14, .inr (.inl u)))]) t.heap) (ow [(k, .inr (2, [.ref nr, .ref fr, .ref rs, .ref at_, .ref h, .int al, .long br])), (g, .inr (1, [.ref a1, .ref a2, .int (nI nd), .int (nI ar), .long pr])), (a1, .inl (cI, 41, .inl (nF F))), (a2, .inl (cI, 41, .inl (nF G))), (at_, .inl (cJ, 14, .inr (.inl A)))])) ([.ref k, .ref g, .long dr] : List Value).toArray s 0 0 (ow [(k, .inr (2, [.ref nr, .ref fr, .ref rs, .ref at_, .ref h, .int al, .long br])), (g, .inr (1, [.ref a1, .ref a2, .int (nI nd), .int (nI ar), .long pr])), (a1, .inl (cI, 41, .inl (nF F))), (a2, .inl (cI, 41, .inl (nF G))), (at_, .inl (cJ, 14, .inr (.inl A)))])) (F0 m 11 ls []) := by
    intro n_11
    induction n_11 with
    | zero =>
      intro A2 i hn_11
      exact absurd hn_11 (Nat.not_lt_zero _)
    | succ n_11 ih_11 =>
      intro A2 i hn_11 hi hn H locs hP hD hS ls hl
      refine lv_iload hx hb d_SK_fillArcs_11 (lv_at hl 3 rfl) ?_
      refine lv_bipush (v := (nI 40)) hx hb d_SK_fillArcs_13 (by decide) ?_
      refine x_cmp_gt (a := i) (b := 40) (tgt := 71) hx hb (by omega) (by omega) d_SK_fillArcs_15 (by decide) (fun c_3 => ?_) (fun c_3 => ?_)
      · skip
        exact W.vret hx hb hr (fun t ht _ => ⟨⟨(A2), rfl, (by have e9 : i = 41 := (by omega); subst e9; exact hn), by show va_P (dC, dI) cls _ t.heap; rw [ht]; exact hP⟩, hS.F ht⟩) hS.2.2 d_SK_fillArcs_71
      · skip
        have hi41 : i < 41 := by omega
        refine lv_lload_n hx hb d_SK_fillArcs_18 rfl (lv_at hl 2 rfl) ?_
        refine lv_iload hx hb d_SK_fillArcs_19 (lv_at hl 3 rfl) ?_
        refine vp_callSi (va_Run.run (k_SN (n := 2) (rest := []) ⟨hx, hb, hml, hown, hts⟩ (c_CP_hasBit l dC dI cI cJ cZ dr i (by first | assumption | omega)) hK wmn_SK_68 wst_CP_hasBit wini_CP wcode_CP_hasBit (by decide +kernel) ⟨Nat.le_of_ble_eq_true rfl, Nat.le_of_ble_eq_true rfl⟩ (pre_R (hP.sub (ws' := []) [] rfl) hK) rfl hl.1 rfl (Nat.le_of_ble_eq_true rfl) d_SK_fillArcs_21 ⟨Nat.zero_le _, Nat.zero_le _⟩)) (fun r_4 hr_5 => ?_)
        refine xe_i (y := (bI (lb dr i))) hr_5 ?_
        refine x_if_eq (tgt := 65) hx hb d_SK_fillArcs_24 (by decide) (fun c_6 => ?_) (fun c_6 => ?_)
        · skip
          refine lv_iinc (v := (nI (i + 1))) (lv' := [(4, .int (nI (i + 1))), (0, .ref k), (1, .ref g), (2, .long dr)]) hx hb d_SK_fillArcs_65 hl (k := 3) rfl (nI_1 _) (by decide) rfl (fun ls hl => ?_)
          refine lv_goto (tgt := 11) hx hb d_SK_fillArcs_68 (by decide) ?_
          exact ih_11 A2 (i + 1) (by omega) (by first | assumption | omega) (ARi_f hn c_6) _ _ hP hD hS ls (lv_sub hl [1, 2, 3, 0] rfl)
        · skip
          refine lv_aload_n hx hb d_SK_fillArcs_27 rfl (lv_at hl 0 rfl) ?_
          refine va_get (D := (dC, dI)) (ci := 2) (v := .ref at_) (C := R_SK) (T := F_SK) (N := 7) hx hb hts in_SK hown hK.1 hP 0 rfl rfl 3 (by decide) (hts _ wfl_SK_21) (fun _ h9 => h9) rfl d_SK_fillArcs_28 ?_
          refine lv_aload_n hx hb d_SK_fillArcs_31 rfl (lv_at hl 1 rfl) ?_
          refine va_get (D := (dC, dI)) (ci := 1) (v := .ref a1) (C := R_GR) (T := F_GR) (N := 5) hx hb hts in_GR hown hK.1 hP 1 rfl rfl 0 (by decide) (hts _ wfl_SK_72) (fun _ h9 => h9) rfl d_SK_fillArcs_32 ?_
          refine lv_iload hx hb d_SK_fillArcs_35 (lv_at hl 3 rfl) ?_
          refine x_iald (n := 41) (f := (nF F)) (j := i) hx hb hK.1 hP 2 0 rfl rfl (by omega) (by omega) d_SK_fillArcs_37 ?_
          refine xe_i (y := (nI (F i))) rfl ?_
          refine lv_dup2_11 hx hb d_SK_fillArcs_38 rfl rfl ?_
          refine x_lald (n := 14) (f := A2) (j := (F i)) hx hb hK.1 hP 4 1 rfl rfl (hF _) (by omega) d_SK_fillArcs_39 ?_
          refine lv_lconst (v := 1) hx hb d_SK_fillArcs_40 rfl ?_
          refine lv_iload hx hb d_SK_fillArcs_41 (lv_at hl 3 rfl) ?_
          refine lv_lshl (v := (lsb i)) hx hb d_SK_fillArcs_43 rfl ?_
          refine lv_lor hx hb d_SK_fillArcs_44 ?_
          refine x_last (g := (va_up A2 (F i) ((A2 (F i)) ||| (lsb i)))) hx hb hK.1 hP hD hS 4 1 rfl rfl rfl (hF _) (by omega) d_SK_fillArcs_45 (fun H locs hP hD hS => ?_)
          have hP : va_P (dC, dI) cls [(k, .inr (2, [.ref nr, .ref fr, .ref rs, .ref at_, .ref h, .int al, .long br])), (g, .inr (1, [.ref a1, .ref a2, .int (nI nd), .int (nI ar), .long pr])), (a1, .inl (cI, 41, .inl (nF F))), (a2, .inl (cI, 41, .inl (nF G))), (at_, .inl (cJ, 14, .inr (.inl (va_up A2 (F i) ((A2 (F i)) ||| (lsb i))))))] H := hP
          have hD : va_D (ow [(k, .inr (2, [.ref nr, .ref fr, .ref rs, .ref at_, .ref h, .int al, .long br])), (g, .inr (1, [.ref a1, .ref a2, .int (nI nd), .int (nI ar), .long pr])), (a1, .inl (cI, 41, .inl (nF F))), (a2, .inl (cI, 41, .inl (nF G))), (at_, .inl (cJ, 14, .inr (.inl A)))]) [(k, .inr (2, [.ref nr, .ref fr, .ref rs, .ref at_, .ref h, .int al, .long br])), (g, .inr (1, [.ref a1, .ref a2, .int (nI nd), .int (nI ar), .long pr])), (a1, .inl (cI, 41, .inl (nF F))), (a2, .inl (cI, 41, .inl (nF G))), (at_, .inl (cJ, 14, .inr (.inl (va_up A2 (F i) ((A2 (F i)) ||| (lsb i))))))] := hD
          refine lv_aload_n hx hb d_SK_fillArcs_46 rfl (lv_at hl 0 rfl) ?_
          refine va_get (D := (dC, dI)) (ci := 2) (v := .ref at_) (C := R_SK) (T := F_SK) (N := 7) hx hb hts in_SK hown hK.1 hP 0 rfl rfl 3 (by decide) (hts _ wfl_SK_21) (fun _ h9 => h9) rfl d_SK_fillArcs_47 ?_
          refine lv_aload_n hx hb d_SK_fillArcs_50 rfl (lv_at hl 1 rfl) ?_
          refine va_get (D := (dC, dI)) (ci := 1) (v := .ref a2) (C := R_GR) (T := F_GR) (N := 5) hx hb hts in_GR hown hK.1 hP 1 rfl rfl 1 (by decide) (hts _ wfl_SK_75) (fun _ h9 => h9) rfl d_SK_fillArcs_51 ?_
          refine lv_iload hx hb d_SK_fillArcs_54 (lv_at hl 3 rfl) ?_
          refine x_iald (n := 41) (f := (nF G)) (j := i) hx hb hK.1 hP 3 0 rfl rfl (by omega) (by omega) d_SK_fillArcs_56 ?_
          refine xe_i (y := (nI (G i))) rfl ?_
          refine lv_dup2_11 hx hb d_SK_fillArcs_57 rfl rfl ?_
          refine x_lald (n := 14) (f := (va_up A2 (F i) ((A2 (F i)) ||| (lsb i)))) (j := (G i)) hx hb hK.1 hP 4 1 rfl rfl (hG _) (by omega) d_SK_fillArcs_58 ?_
          refine lv_lconst (v := 1) hx hb d_SK_fillArcs_59 rfl ?_
          refine lv_iload hx hb d_SK_fillArcs_60 (lv_at hl 3 rfl) ?_
          refine lv_lshl (v := (lsb i)) hx hb d_SK_fillArcs_62 rfl ?_
          refine lv_lor hx hb d_SK_fillArcs_63 ?_
          refine x_last (g := (va_up (va_up A2 (F i) ((A2 (F i)) ||| (lsb i))) (G i) (((va_up A2 (F i) ((A2 (F i)) ||| (lsb i))) (G i)) ||| (lsb i)))) hx hb hK.1 hP hD hS 4 1 rfl rfl rfl (hG _) (by omega) d_SK_fillArcs_64 (fun H locs hP hD hS => ?_)
          have hP : va_P (dC, dI) cls [(k, .inr (2, [.ref nr, .ref fr, .ref rs, .ref at_, .ref h, .int al, .long br])), (g, .inr (1, [.ref a1, .ref a2, .int (nI nd), .int (nI ar), .long pr])), (a1, .inl (cI, 41, .inl (nF F))), (a2, .inl (cI, 41, .inl (nF G))), (at_, .inl (cJ, 14, .inr (.inl (va_up (va_up A2 (F i) ((A2 (F i)) ||| (lsb i))) (G i) (((va_up A2 (F i) ((A2 (F i)) ||| (lsb i))) (G i)) ||| (lsb i))))))] H := hP
          have hD : va_D (ow [(k, .inr (2, [.ref nr, .ref fr, .ref rs, .ref at_, .ref h, .int al, .long br])), (g, .inr (1, [.ref a1, .ref a2, .int (nI nd), .int (nI ar), .long pr])), (a1, .inl (cI, 41, .inl (nF F))), (a2, .inl (cI, 41, .inl (nF G))), (at_, .inl (cJ, 14, .inr (.inl A)))]) [(k, .inr (2, [.ref nr, .ref fr, .ref rs, .ref at_, .ref h, .int al, .long br])), (g, .inr (1, [.ref a1, .ref a2, .int (nI nd), .int (nI ar), .long pr])), (a1, .inl (cI, 41, .inl (nF F))), (a2, .inl (cI, 41, .inl (nF G))), (at_, .inl (cJ, 14, .inr (.inl (va_up (va_up A2 (F i) ((A2 (F i)) ||| (lsb i))) (G i) (((va_up A2 (F i) ((A2 (F i)) ||| (lsb i))) (G i)) ||| (lsb i))))))] := hD
          refine lv_iinc (v := (nI (i + 1))) (lv' := [(4, .int (nI (i + 1))), (0, .ref k), (1, .ref g), (2, .long dr)]) hx hb d_SK_fillArcs_65 hl (k := 3) rfl (nI_1 _) (by decide) rfl (fun ls hl => ?_)
          refine lv_goto (tgt := 11) hx hb d_SK_fillArcs_68 (by decide) ?_
          exact ih_11 (va_up (va_up A2 (F i) ((A2 (F i)) ||| (lsb i))) (G i) (((va_up A2 (F i) ((A2 (F i)) ||| (lsb i))) (G i)) ||| (lsb i))) (i + 1) (by omega) (by first | assumption | omega) (ARi_t (by assumption) hn c_6) _ _ hP hD hS ls (lv_sub hl [1, 2, 3, 0] rfl)
  exact L11_2 ((41 - 0) + 1) g_1 0 (Nat.lt_succ_self _) (by first | assumption | omega) (ARi_0 hu_1) _ _ hP hD hS ls (lv_sub hl [1, 2, 3, 0] rfl)

theorem d_SK_arcsAt_0 : decode prog_6_method_7_code 0 = .ok (.lconst 0, 1) := by decide +kernel
theorem d_SK_arcsAt_1 : decode prog_6_method_7_code 1 = .ok (.lstore_n 2, 1) := by decide +kernel
theorem d_SK_arcsAt_2 : decode prog_6_method_7_code 2 = .ok (.iconst 0, 1) := by decide +kernel
theorem d_SK_arcsAt_3 : decode prog_6_method_7_code 3 = .ok (.istore 4, 2) := by decide +kernel
theorem d_SK_arcsAt_5 : decode prog_6_method_7_code 5 = .ok (.iload 4, 2) := by decide +kernel
theorem d_SK_arcsAt_7 : decode prog_6_method_7_code 7 = .ok (.bipush 14, 2) := by decide +kernel
theorem d_SK_arcsAt_9 : decode prog_6_method_7_code 9 = .ok (.if_icmp .ge 29, 3) := by decide +kernel
theorem d_SK_arcsAt_12 : decode prog_6_method_7_code 12 = .ok (.iload_n 1, 1) := by decide +kernel
theorem d_SK_arcsAt_13 : decode prog_6_method_7_code 13 = .ok (.i2l, 1) := by decide +kernel
theorem d_SK_arcsAt_14 : decode prog_6_method_7_code 14 = .ok (.iload 4, 2) := by decide +kernel
theorem d_SK_arcsAt_16 : decode prog_6_method_7_code 16 = .ok (.invokestatic 68, 3) := by decide +kernel
theorem d_SK_arcsAt_19 : decode prog_6_method_7_code 19 = .ok (.ifCond .eq 13, 3) := by decide +kernel
theorem d_SK_arcsAt_22 : decode prog_6_method_7_code 22 = .ok (.lload_n 2, 1) := by decide +kernel
theorem d_SK_arcsAt_23 : decode prog_6_method_7_code 23 = .ok (.aload_n 0, 1) := by decide +kernel
theorem d_SK_arcsAt_24 : decode prog_6_method_7_code 24 = .ok (.getfield 21, 3) := by decide +kernel
theorem d_SK_arcsAt_27 : decode prog_6_method_7_code 27 = .ok (.iload 4, 2) := by decide +kernel
theorem d_SK_arcsAt_29 : decode prog_6_method_7_code 29 = .ok (.laload, 1) := by decide +kernel
theorem d_SK_arcsAt_30 : decode prog_6_method_7_code 30 = .ok (.lor, 1) := by decide +kernel
theorem d_SK_arcsAt_31 : decode prog_6_method_7_code 31 = .ok (.lstore_n 2, 1) := by decide +kernel
theorem d_SK_arcsAt_32 : decode prog_6_method_7_code 32 = .ok (.iinc 4 1, 3) := by decide +kernel
theorem d_SK_arcsAt_35 : decode prog_6_method_7_code 35 = .ok (.goto (-30), 3) := by decide +kernel
theorem d_SK_arcsAt_38 : decode prog_6_method_7_code 38 = .ok (.lload_n 2, 1) := by decide +kernel
theorem d_SK_arcsAt_39 : decode prog_6_method_7_code 39 = .ok (.lreturn, 1) := by decide +kernel
set_option maxHeartbeats 4000000 in
set_option maxRecDepth 100000 in
theorem c_SK_arcsAt (l : Launch) (dC : Nat → ClassId) (dI : Nat → Nat → Nat) (cI cJ cZ : ClassId) (k nr fr rs at_ h : Nat) (al : Int32) (br : Int64) (A : Nat → Int64) (so : Int32) : Met l ⟨"CutPoints$Sketch", "arcsAt", "(I)J"⟩ (Cond.code ⟨"CutPoints$Sketch", "arcsAt", "(I)J"⟩ prog_6_method_7_code 5 (some .long) :: TT) (rmk 1 22) (PR dC dI cI cJ cZ [.ref k, .int so] [(k, .inr (2, [.ref nr, .ref fr, .ref rs, .ref at_, .ref h, .int al, .long br])), (at_, .inl (cJ, 14, .inr (.inl A)))]) (vp_Sl (fun x => AtR A so x 14)) 0 0 (fun _ => False) := by
  refine Met.ofW (cc := prog_6_method_7_code) (maxL := 5) (ret := (some .long)) (by decide) rfl ?_
  intro p e s m args below meth c s₁ B hml hv
  obtain ⟨rfl, hP, hK⟩ := hv
  have hx := B.exec
  have hb := B.bytes
  have hr := B.returns
  have hts : ∀ w ∈ TT, w.before _ s = true := fun w h => atoms_spec (ws := (Cond.code ⟨"CutPoints$Sketch", "arcsAt", "(I)J"⟩ prog_6_method_7_code 5 (some .long) :: TT)) B.pre w (List.mem_cons_of_mem _ h)
  have hown : s.vm.findClass "CutPoints$Sketch" = some m.cls := findClass_of_methodNamed B.named
  have hlocks := B.notSynchronized
  have hl := lv_entry ([.ref k, .int so]) (n := 5) (Nat.le_of_ble_eq_true rfl)
  rw [lg_entry_eq]
  generalize (lg_sl ([.ref k, .int so]) ++ List.replicate (5 - (lg_sl ([.ref k, .int so])).length) Slot.unset).toArray = ls at hl ⊢
  have hl : lv_has ls 5 [(0, .ref k), (1, .int so)] := hl
  refine lv_lconst (v := 0) hx hb d_SK_arcsAt_0 rfl ?_
  refine lv_lstore_n (lv' := [(2, .long 0), (0, .ref k), (1, .int so)]) hx hb d_SK_arcsAt_1 rfl hl (by decide) rfl (fun ls hl => ?_)
  refine lv_iconst (v := (nI 0)) hx hb d_SK_arcsAt_2 (by decide) ?_
  refine lv_istore (lv' := [(4, .int (nI 0)), (2, .long 0), (0, .ref k), (1, .int so)]) hx hb d_SK_arcsAt_3 hl (by decide) rfl (fun ls hl => ?_)
  have L5_1 : ∀ (n : Nat) (x : Int64) (i : Nat) (hn : 14 - i < n) (hi : i ≤ 14) (hn : AtR A so x i) (ls : Array Slot) (hl : lv_has ls 5 [(0, .ref k), (1, .int so), (2, .long x), (4, .int (nI i))]), W p l e (headSpec (Cond.code ⟨"CutPoints$Sketch", "arcsAt", "(I)J"⟩ prog_6_method_7_code 5 (some .long) :: TT) (rmk 1 22)).room s m ([.ref k, .int so] : List Value).toArray below meth c s.heap [] 0 0 (MQ below (vp_Sl (fun x => AtR A so x 14)) ([.ref k, .int so] : List Value).toArray s 0 0 (fun _ => False)) (F0 m 5 ls []) := by
    intro n_5
    induction n_5 with
    | zero =>
      intro x i hn_5
      exact absurd hn_5 (Nat.not_lt_zero _)
    | succ n_5 ih_5 =>
      intro x i hn_5 hi hn ls hl
      refine lv_iload hx hb d_SK_arcsAt_5 (lv_at hl 3 rfl) ?_
      refine lv_bipush (v := (nI 14)) hx hb d_SK_arcsAt_7 (by decide) ?_
      refine x_cmp_ge (a := i) (b := 14) (tgt := 38) hx hb (by omega) (by omega) d_SK_arcsAt_9 (by decide) (fun c_2 => ?_) (fun c_2 => ?_)
      · skip
        refine lv_lload_n hx hb d_SK_arcsAt_38 rfl (lv_at hl 2 rfl) ?_
        exact W.lret (v := x) hx hb hr (fun t ht _ => ⟨_, rfl, (by have e9 : i = 14 := (by omega); subst e9; exact hn), ht⟩) t_nil d_SK_arcsAt_39
      · skip
        refine lv_iload_n hx hb d_SK_arcsAt_12 rfl (lv_at hl 1 rfl) ?_
        refine lv_i2l (v := so.toInt64) hx hb d_SK_arcsAt_13 rfl ?_
        refine lv_iload hx hb d_SK_arcsAt_14 (lv_at hl 3 rfl) ?_
        refine vp_callSi (va_Run.run (k_SN (n := 2) (rest := []) ⟨hx, hb, hml, hown, hts⟩ (c_CP_hasBit l dC dI cI cJ cZ so.toInt64 i (by first | assumption | omega)) hK wmn_SK_68 wst_CP_hasBit wini_CP wcode_CP_hasBit (by decide +kernel) ⟨Nat.le_of_ble_eq_true rfl, Nat.le_of_ble_eq_true rfl⟩ (pre_R (hP.sub (ws' := []) [] rfl) hK) rfl hl.1 rfl (Nat.le_of_ble_eq_true rfl) d_SK_arcsAt_16 ⟨Nat.zero_le _, Nat.zero_le _⟩)) (fun r_3 hr_4 => ?_)
        refine xe_i (y := (bI (lb so.toInt64 i))) hr_4 ?_
        refine xe_i (y := (bI (bt so i))) (by rw [lb_i2l _ (by omega)]) ?_
        refine x_if_eq (tgt := 32) hx hb d_SK_arcsAt_19 (by decide) (fun c_5 => ?_) (fun c_5 => ?_)
        · skip
          refine lv_iinc (v := (nI (i + 1))) (lv' := [(4, .int (nI (i + 1))), (0, .ref k), (1, .int so), (2, .long x)]) hx hb d_SK_arcsAt_32 hl (k := 3) rfl (nI_1 _) (by decide) rfl (fun ls hl => ?_)
          refine lv_goto (tgt := 5) hx hb d_SK_arcsAt_35 (by decide) ?_
          exact ih_5 x (i + 1) (by omega) (by first | assumption | omega) (AtR_f hn c_5) ls (lv_sub hl [1, 2, 3, 0] rfl)
        · skip
          refine lv_lload_n hx hb d_SK_arcsAt_22 rfl (lv_at hl 2 rfl) ?_
          refine lv_aload_n hx hb d_SK_arcsAt_23 rfl (lv_at hl 0 rfl) ?_
          refine va_get (D := (dC, dI)) (ci := 2) (v := .ref at_) (C := R_SK) (T := F_SK) (N := 7) hx hb hts in_SK hown hK.1 hP 0 rfl rfl 3 (by decide) (hts _ wfl_SK_21) (fun _ h9 => h9) rfl d_SK_arcsAt_24 ?_
          refine lv_iload hx hb d_SK_arcsAt_27 (lv_at hl 3 rfl) ?_
          refine x_lald (n := 14) (f := A) (j := i) hx hb hK.1 hP 1 1 rfl rfl (by omega) (by omega) d_SK_arcsAt_29 ?_
          refine lv_lor hx hb d_SK_arcsAt_30 ?_
          refine lv_lstore_n (lv' := [(2, .long (x ||| (A i))), (0, .ref k), (1, .int so), (4, .int (nI i))]) hx hb d_SK_arcsAt_31 rfl hl (by decide) rfl (fun ls hl => ?_)
          refine lv_iinc (v := (nI (i + 1))) (lv' := [(4, .int (nI (i + 1))), (2, .long (x ||| (A i))), (0, .ref k), (1, .int so)]) hx hb d_SK_arcsAt_32 hl (k := 3) rfl (nI_1 _) (by decide) rfl (fun ls hl => ?_)
          refine lv_goto (tgt := 5) hx hb d_SK_arcsAt_35 (by decide) ?_
          exact ih_5 (x ||| (A i)) (i + 1) (by omega) (by first | assumption | omega) (AtR_t hn c_5) ls (lv_sub hl [2, 3, 1, 0] rfl)
  exact L5_1 ((14 - 0) + 1) 0 0 (Nat.lt_succ_self _) (by first | assumption | omega) (AtR_0 A so) ls (lv_sub hl [2, 3, 1, 0] rfl)
