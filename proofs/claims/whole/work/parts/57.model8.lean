theorem d_MO_hasBridge_0 : decode prog_9_method_41_code 0 = .ok (.iconst 0, 1) := by decide +kernel
theorem d_MO_hasBridge_1 : decode prog_9_method_41_code 1 = .ok (.istore_n 2, 1) := by decide +kernel
theorem d_MO_hasBridge_2 : decode prog_9_method_41_code 2 = .ok (.iload_n 2, 1) := by decide +kernel
theorem d_MO_hasBridge_3 : decode prog_9_method_41_code 3 = .ok (.aload_n 0, 1) := by decide +kernel
theorem d_MO_hasBridge_4 : decode prog_9_method_41_code 4 = .ok (.getfield 45, 3) := by decide +kernel
theorem d_MO_hasBridge_7 : decode prog_9_method_41_code 7 = .ok (.if_icmp .ge 42, 3) := by decide +kernel
theorem d_MO_hasBridge_10 : decode prog_9_method_41_code 10 = .ok (.aload_n 0, 1) := by decide +kernel
theorem d_MO_hasBridge_11 : decode prog_9_method_41_code 11 = .ok (.getfield 16, 3) := by decide +kernel
theorem d_MO_hasBridge_14 : decode prog_9_method_41_code 14 = .ok (.iload_n 2, 1) := by decide +kernel
theorem d_MO_hasBridge_15 : decode prog_9_method_41_code 15 = .ok (.baload, 1) := by decide +kernel
theorem d_MO_hasBridge_16 : decode prog_9_method_41_code 16 = .ok (.ifCond .eq 27, 3) := by decide +kernel
theorem d_MO_hasBridge_19 : decode prog_9_method_41_code 19 = .ok (.iload_n 1, 1) := by decide +kernel
theorem d_MO_hasBridge_20 : decode prog_9_method_41_code 20 = .ok (.aload_n 0, 1) := by decide +kernel
theorem d_MO_hasBridge_21 : decode prog_9_method_41_code 21 = .ok (.getfield 7, 3) := by decide +kernel
theorem d_MO_hasBridge_24 : decode prog_9_method_41_code 24 = .ok (.iload_n 2, 1) := by decide +kernel
theorem d_MO_hasBridge_25 : decode prog_9_method_41_code 25 = .ok (.iaload, 1) := by decide +kernel
theorem d_MO_hasBridge_26 : decode prog_9_method_41_code 26 = .ok (.ishr, 1) := by decide +kernel
theorem d_MO_hasBridge_27 : decode prog_9_method_41_code 27 = .ok (.iconst 1, 1) := by decide +kernel
theorem d_MO_hasBridge_28 : decode prog_9_method_41_code 28 = .ok (.iand, 1) := by decide +kernel
theorem d_MO_hasBridge_29 : decode prog_9_method_41_code 29 = .ok (.iconst 1, 1) := by decide +kernel
theorem d_MO_hasBridge_30 : decode prog_9_method_41_code 30 = .ok (.if_icmp .ne 13, 3) := by decide +kernel
theorem d_MO_hasBridge_33 : decode prog_9_method_41_code 33 = .ok (.aload_n 0, 1) := by decide +kernel
theorem d_MO_hasBridge_34 : decode prog_9_method_41_code 34 = .ok (.iload_n 2, 1) := by decide +kernel
theorem d_MO_hasBridge_35 : decode prog_9_method_41_code 35 = .ok (.invokevirtual 95, 3) := by decide +kernel
theorem d_MO_hasBridge_38 : decode prog_9_method_41_code 38 = .ok (.ifCond .eq 5, 3) := by decide +kernel
theorem d_MO_hasBridge_41 : decode prog_9_method_41_code 41 = .ok (.iconst 1, 1) := by decide +kernel
theorem d_MO_hasBridge_42 : decode prog_9_method_41_code 42 = .ok (.ireturn, 1) := by decide +kernel
theorem d_MO_hasBridge_43 : decode prog_9_method_41_code 43 = .ok (.iinc 2 1, 3) := by decide +kernel
theorem d_MO_hasBridge_46 : decode prog_9_method_41_code 46 = .ok (.goto (-44), 3) := by decide +kernel
theorem d_MO_hasBridge_49 : decode prog_9_method_41_code 49 = .ok (.iconst 0, 1) := by decide +kernel
theorem d_MO_hasBridge_50 : decode prog_9_method_41_code 50 = .ok (.ireturn, 1) := by decide +kernel
set_option maxHeartbeats 4000000 in
set_option maxRecDepth 100000 in
theorem c_MO_hasBridge (l : Launch) (dC : Nat → ClassId) (dI : Nat → Nat → Nat) (cI cJ cZ : ClassId) (o fF fG fT fN fW fO fB fS fD : Nat) (th be bz sz : Int32) (nd ar : Nat) (F G : Nat → Nat) (P : Nat → Bool) (hF : ∀ k, F k < 14) (hG : ∀ k, G k < 14) (hnd : nd ≤ 14) (har : ar ≤ 40) (hM : ∀ e, e < ar → F e < nd ∧ G e < nd) (N0 : Nat → Int32) (st : Int32) : Met l ⟨"CutPointsModel", "hasBridge", "(I)Z"⟩ (Cond.code ⟨"CutPointsModel", "hasBridge", "(I)Z"⟩ prog_9_method_41_code 3 (some .boolean) :: TT) (rmk 2 48) (PM dC dI cI cJ cZ [.ref o, .int st] [(o, .inr (7, [.int th, .int (nI nd), .int (nI ar), .ref fF, .ref fG, .ref fT, .ref fN, .ref fW, .int be, .ref fO, .ref fB, .int bz, .ref fS, .ref fD, .int sz])), (fF, .inl (cI, 41, .inl (nF F))), (fG, .inl (cI, 41, .inl (nF G))), (fT, .inl (cZ, 41, .inl (bF P))), (fN, .inl (cI, 14, .inl N0))]) (va_Qi (S := Nat → Int32) (fun r u9 => r = bI (dc (hbR ar P F G st))) (fun u9 t9 => va_P (dC, dI) cls ([(o, .inr (7, [.int th, .int (nI nd), .int (nI ar), .ref fF, .ref fG, .ref fT, .ref fN, .ref fW, .int be, .ref fO, .ref fB, .int bz, .ref fS, .ref fD, .int sz])), (fF, .inl (cI, 41, .inl (nF F))), (fG, .inl (cI, 41, .inl (nF G))), (fT, .inl (cZ, 41, .inl (bF P))), (fN, .inl (cI, 14, .inl u9))]) t9.heap) (ow [(o, .inr (7, [.int th, .int (nI nd), .int (nI ar), .ref fF, .ref fG, .ref fT, .ref fN, .ref fW, .int be, .ref fO, .ref fB, .int bz, .ref fS, .ref fD, .int sz])), (fF, .inl (cI, 41, .inl (nF F))), (fG, .inl (cI, 41, .inl (nF G))), (fT, .inl (cZ, 41, .inl (bF P))), (fN, .inl (cI, 14, .inl N0))])) 0 0 (ow [(o, .inr (7, [.int th, .int (nI nd), .int (nI ar), .ref fF, .ref fG, .ref fT, .ref fN, .ref fW, .int be, .ref fO, .ref fB, .int bz, .ref fS, .ref fD, .int sz])), (fF, .inl (cI, 41, .inl (nF F))), (fG, .inl (cI, 41, .inl (nF G))), (fT, .inl (cZ, 41, .inl (bF P))), (fN, .inl (cI, 14, .inl N0))]) := by
  refine Met.ofW (cc := prog_9_method_41_code) (maxL := 3) (ret := (some .boolean)) (by decide) rfl ?_
  intro p e s m args below meth c s₁ BB9 hml hv
  obtain ⟨rfl, hP, hK, hD0⟩ := hv
  have hx := BB9.exec
  have hb := BB9.bytes
  have hr := BB9.returns
  have hts : ∀ w ∈ TT, w.before _ s = true := fun w h => atoms_spec (ws := (Cond.code ⟨"CutPointsModel", "hasBridge", "(I)Z"⟩ prog_9_method_41_code 3 (some .boolean) :: TT)) BB9.pre w (List.mem_cons_of_mem _ h)
  have hown : s.vm.findClass "CutPointsModel" = some m.cls := findClass_of_methodNamed BB9.named
  have hlocks := BB9.notSynchronized
  have hD := hD0.mine
  have hS : va_S (ow [(o, .inr (7, [.int th, .int (nI nd), .int (nI ar), .ref fF, .ref fG, .ref fT, .ref fN, .ref fW, .int be, .ref fO, .ref fB, .int bz, .ref fS, .ref fD, .int sz])), (fF, .inl (cI, 41, .inl (nF F))), (fG, .inl (cI, 41, .inl (nF G))), (fT, .inl (cZ, 41, .inl (bF P))), (fN, .inl (cI, 14, .inl N0))]) s.heap s.heap [] := va_S.rf
  have hl := lv_entry ([.ref o, .int st]) (n := 3) (Nat.le_of_ble_eq_true rfl)
  rw [lg_entry_eq]
  generalize (lg_sl ([.ref o, .int st]) ++ List.replicate (3 - (lg_sl ([.ref o, .int st])).length) Slot.unset).toArray = ls at hl ⊢
  have hl : lv_has ls 3 [(0, .ref o), (1, .int st)] := hl
  refine lv_iconst (v := (nI 0)) hx hb d_MO_hasBridge_0 (by decide) ?_
  refine lv_istore_n (lv' := [(2, .int (nI 0)), (0, .ref o), (1, .int st)]) hx hb d_MO_hasBridge_1 rfl hl (by decide) rfl (fun ls hl => ?_)
  have L2_1 : ∀ (n : Nat) (N2 : Nat → Int32) (i : Nat) (hn : ar - i < n) (hi : i ≤ ar) (hn : ∀ e, e < i → ¬ (P e = true ∧ bt st (F e) = true ∧ ¬ Rc (ad (lkT ar 0 P (nI e) (-1) (nI 0) F G) F G) (F e) (G e))) (H : Heap) (locs : List Loc) (hP : va_P (dC, dI) cls [(o, .inr (7, [.int th, .int (nI nd), .int (nI ar), .ref fF, .ref fG, .ref fT, .ref fN, .ref fW, .int be, .ref fO, .ref fB, .int bz, .ref fS, .ref fD, .int sz])), (fF, .inl (cI, 41, .inl (nF F))), (fG, .inl (cI, 41, .inl (nF G))), (fT, .inl (cZ, 41, .inl (bF P))), (fN, .inl (cI, 14, .inl N2))] H) (hD : va_D (ow [(o, .inr (7, [.int th, .int (nI nd), .int (nI ar), .ref fF, .ref fG, .ref fT, .ref fN, .ref fW, .int be, .ref fO, .ref fB, .int bz, .ref fS, .ref fD, .int sz])), (fF, .inl (cI, 41, .inl (nF F))), (fG, .inl (cI, 41, .inl (nF G))), (fT, .inl (cZ, 41, .inl (bF P))), (fN, .inl (cI, 14, .inl N0))]) [(o, .inr (7, [.int th, .int (nI nd), .int (nI ar), .ref fF, .ref fG, .ref fT, .ref fN, .ref fW, .int be, .ref fO, .ref fB, .int bz, .ref fS, .ref fD, .int sz])), (fF, .inl (cI, 41, .inl (nF F))), (fG, .inl (cI, 41, .inl (nF G))), (fT, .inl (cZ, 41, .inl (bF P))), (fN, .inl (cI, 14, .inl N2))]) (hS : va_S (ow [(o, .inr (7, [.int th, .int (nI nd), .int (nI ar), .ref fF, .ref fG, .ref fT, .ref fN, .ref fW, .int be, .ref fO, .ref fB, .int bz, .ref fS, .ref fD, .int sz])), (fF, .inl (cI, 41, .inl (nF F))), (fG, .inl (cI, 41, .inl (nF G))), (fT, .inl (cZ, 41, .inl (bF P))), (fN, .inl (cI, 14, .inl N0))]) s.heap H locs) (ls : Array Slot) (hl : lv_has ls 3 [(0, .ref o), (1, .int st), (2, .int (nI i))]), W p l e (headSpec (Cond.code ⟨"CutPointsModel", "hasBridge", "(I)Z"⟩ prog_9_method_41_code 3 (some .boolean) :: TT) (rmk 2 48)).room s m ([.ref o, .int st] : List Value).toArray below meth c H locs 0 0 (MQ below (va_Qi (S := Nat → Int32) (fun r u9 => r = bI (dc (hbR ar P F G st))) (fun u9 t9 => va_P (dC, dI) cls ([(o, .inr (7, [.int th, .int (nI nd), .int (nI ar), .ref fF, .ref fG, .ref fT, .ref fN, .ref fW, .int be, .ref fO, .ref fB, .int bz, .ref fS, .ref fD, .int sz])), (fF, .inl (cI, 41, .inl (nF F))), (fG, .inl (cI, 41, .inl (nF G))), (fT, .inl (cZ, 41, .inl (bF P))), (fN, .inl (cI, 14, .inl u9))]) t9.heap) (ow [(o, .inr (7, [.int th, .int (nI nd), .int (nI ar), .ref fF, .ref fG, .ref fT, .ref fN, .ref fW, .int be, .ref fO, .ref fB, .int bz, .ref fS, .ref fD, .int sz])), (fF, .inl (cI, 41, .inl (nF F))), (fG, .inl (cI, 41, .inl (nF G))), (fT, .inl (cZ, 41, .inl (bF P))), (fN, .inl (cI, 14, .inl N0))])) ([.ref o, .int st] : List Value).toArray s 0 0 (ow [(o, .inr (7, [.int th, .int (nI nd), .int (nI ar), .ref fF, .ref fG, .ref fT, .ref fN, .ref fW, .int be, .ref fO, .ref fB, .int bz, .ref fS, .ref fD, .int sz])), (fF, .inl (cI, 41, .inl (nF F))), (fG, .inl (cI, 41, .inl (nF G))), (fT, .inl (cZ, 41, .inl (bF P))), (fN, .inl (cI, 14, .inl N0))])) (F0 m 2 ls []) := by
    intro n_2
    induction n_2 with
    | zero =>
      intro N2 i hn_2
      exact absurd hn_2 (Nat.not_lt_zero _)
    | succ n_2 ih_2 =>
      intro N2 i hn_2 hi hn H locs hP hD hS ls hl
      refine lv_iload_n hx hb d_MO_hasBridge_2 rfl (lv_at hl 2 rfl) ?_
      refine lv_aload_n hx hb d_MO_hasBridge_3 rfl (lv_at hl 0 rfl) ?_
      refine va_get (D := (dC, dI)) (ci := 7) (v := .int (nI ar)) (C := R_MO) (T := F_MO) (N := 15) hx hb hts in_MO hown hK.1 hP 0 rfl rfl 2 (by decide) (hts _ wfl_MO_45) (fun _ h9 => h9) rfl d_MO_hasBridge_4 ?_
      refine x_cmp_ge (a := i) (b := ar) (tgt := 49) hx hb (by omega) (by omega) d_MO_hasBridge_7 (by decide) (fun c_2 => ?_) (fun c_2 => ?_)
      · skip
        refine lv_iconst (v := (nI 0)) hx hb d_MO_hasBridge_49 (by decide) ?_
        refine xe_i (y := bI false) rfl ?_
        exact W.zret (v := (bI false)) hx hb hr (bI_nar _) (fun t9 ht9 _ => ⟨⟨_, (N2), rfl, (by rw [(dc_f (P := hbR ar P F G st)).mpr (fun ⟨z8, z9, z10⟩ => hn z8 (by omega) z10)]), by show va_P (dC, dI) cls _ t9.heap; rw [ht9]; exact hP⟩, hS.F ht9⟩) hS.2.2 d_MO_hasBridge_50
      · skip
        refine lv_aload_n hx hb d_MO_hasBridge_10 rfl (lv_at hl 0 rfl) ?_
        refine va_get (D := (dC, dI)) (ci := 7) (v := .ref fT) (C := R_MO) (T := F_MO) (N := 15) hx hb hts in_MO hown hK.1 hP 0 rfl rfl 5 (by decide) (hts _ wfl_MO_16) (fun _ h9 => h9) rfl d_MO_hasBridge_11 ?_
        refine lv_iload_n hx hb d_MO_hasBridge_14 rfl (lv_at hl 2 rfl) ?_
        refine x_zald (n := 41) (f := (bF P)) (j := i) hx hb hK.1 hP 3 2 rfl rfl (by omega) (by omega) d_MO_hasBridge_15 ?_
        refine xe_i (y := (bI (P i))) rfl ?_
        refine x_if_eq (tgt := 43) hx hb d_MO_hasBridge_16 (by decide) (fun c_3 => ?_) (fun c_3 => ?_)
        · skip
          refine lv_iinc (v := (nI (i + 1))) (lv' := [(2, .int (nI (i + 1))), (0, .ref o), (1, .int st)]) hx hb d_MO_hasBridge_43 hl (k := 2) rfl (nI_1 _) (by decide) rfl (fun ls hl => ?_)
          refine lv_goto (tgt := 2) hx hb d_MO_hasBridge_46 (by decide) ?_
          exact ih_2 N2 (i + 1) (by omega) (by first | assumption | omega) (lt_s hn (fun z9 => by have y9 := z9.1; rw [c_3] at y9; cases y9)) _ _ hP hD hS ls (lv_sub hl [1, 2, 0] rfl)
        · skip
          refine lv_iload_n hx hb d_MO_hasBridge_19 rfl (lv_at hl 1 rfl) ?_
          refine lv_aload_n hx hb d_MO_hasBridge_20 rfl (lv_at hl 0 rfl) ?_
          refine va_get (D := (dC, dI)) (ci := 7) (v := .ref fF) (C := R_MO) (T := F_MO) (N := 15) hx hb hts in_MO hown hK.1 hP 0 rfl rfl 3 (by decide) (hts _ wfl_MO_7) (fun _ h9 => h9) rfl d_MO_hasBridge_21 ?_
          refine lv_iload_n hx hb d_MO_hasBridge_24 rfl (lv_at hl 2 rfl) ?_
          refine x_iald (n := 41) (f := (nF F)) (j := i) hx hb hK.1 hP 1 0 rfl rfl (by omega) (by omega) d_MO_hasBridge_25 ?_
          refine xe_i (y := (nI (F i))) rfl ?_
          refine lv_ishr hx hb d_MO_hasBridge_26 ?_
          refine lv_iconst (v := (nI 1)) hx hb d_MO_hasBridge_27 (by decide) ?_
          refine lv_iand hx hb d_MO_hasBridge_28 ?_
          refine xe_i (y := (bI (bt st (F i)))) (sh1 (Nat.lt_trans (hF _) (by decide))) ?_
          refine lv_iconst (v := (nI 1)) hx hb d_MO_hasBridge_29 (by decide) ?_
          refine x_cmp1_ne (tgt := 43) hx hb d_MO_hasBridge_30 (by decide) (fun c_4 => ?_) (fun c_4 => ?_)
          · skip
            refine lv_iinc (v := (nI (i + 1))) (lv' := [(2, .int (nI (i + 1))), (0, .ref o), (1, .int st)]) hx hb d_MO_hasBridge_43 hl (k := 2) rfl (nI_1 _) (by decide) rfl (fun ls hl => ?_)
            refine lv_goto (tgt := 2) hx hb d_MO_hasBridge_46 (by decide) ?_
            exact ih_2 N2 (i + 1) (by omega) (by first | assumption | omega) (lt_s hn (fun z9 => by have y9 := z9.2.1; rw [c_4] at y9; cases y9)) _ _ hP hD hS ls (lv_sub hl [1, 2, 0] rfl)
          · skip
            refine lv_aload_n hx hb d_MO_hasBridge_33 rfl (lv_at hl 0 rfl) ?_
            refine lv_iload_n hx hb d_MO_hasBridge_34 rfl (lv_at hl 2 rfl) ?_
            refine x_ci (k_V (n := 1) (C := R_MO) (rest := []) ⟨hx, hb, hml, hown, hts⟩ (c_MO_isBridge l dC dI cI cJ cZ o fF fG fT fN fW fO fB fS fD th be bz sz nd ar F G P hF hG (by first | assumption | omega) (by first | assumption | omega) hM N2 i (by first | assumption | omega)) wml_MO_95 wim_MO_isBridge wsel_MO_isBridge wini_MO wcode_MO_isBridge (by decide +kernel) ⟨Nat.le_of_ble_eq_true rfl, Nat.le_of_ble_eq_true rfl⟩ (preV_M (q := (R_MO, F_MO, 15)) (ci := 7) (q0 := 0) (hP.sub (ws' := [(o, .inr (7, [.int th, .int (nI nd), .int (nI ar), .ref fF, .ref fG, .ref fT, .ref fN, .ref fW, .int be, .ref fO, .ref fB, .int bz, .ref fS, .ref fD, .int sz])), (fF, .inl (cI, 41, .inl (nF F))), (fG, .inl (cI, 41, .inl (nF G))), (fT, .inl (cZ, 41, .inl (bF P))), (fN, .inl (cI, 14, .inl N2))]) [0, 1, 2, 3, 4] rfl) hK (hD.sub (ws' := [(o, .inr (7, [.int th, .int (nI nd), .int (nI ar), .ref fF, .ref fG, .ref fT, .ref fN, .ref fW, .int be, .ref fO, .ref fB, .int bz, .ref fS, .ref fD, .int sz])), (fF, .inl (cI, 41, .inl (nF F))), (fG, .inl (cI, 41, .inl (nF G))), (fT, .inl (cZ, 41, .inl (bF P))), (fN, .inl (cI, 14, .inl N2))]) [0, 1, 2, 3, 4] (by decide) rfl) rfl rfl) rfl hl.1 rfl (Nat.le_of_ble_eq_true rfl) d_MO_hasBridge_35 ⟨Nat.zero_le _, Nat.zero_le _⟩) hP hD hS [0, 1, 2, 3, 4] rfl (fun _ => rfl) (fun r_5 u_5 H locs hu_5 hP hS => ?_)
            obtain ⟨N9_5, rfl⟩ : ∃ z, z = u_5 := ⟨_, rfl⟩
            have hP : va_P (dC, dI) cls [(o, .inr (7, [.int th, .int (nI nd), .int (nI ar), .ref fF, .ref fG, .ref fT, .ref fN, .ref fW, .int be, .ref fO, .ref fB, .int bz, .ref fS, .ref fD, .int sz])), (fF, .inl (cI, 41, .inl (nF F))), (fG, .inl (cI, 41, .inl (nF G))), (fT, .inl (cZ, 41, .inl (bF P))), (fN, .inl (cI, 14, .inl N9_5))] H := hP
            have hD := hD.addr (ws' := [(o, .inr (7, [.int th, .int (nI nd), .int (nI ar), .ref fF, .ref fG, .ref fT, .ref fN, .ref fW, .int be, .ref fO, .ref fB, .int bz, .ref fS, .ref fD, .int sz])), (fF, .inl (cI, 41, .inl (nF F))), (fG, .inl (cI, 41, .inl (nF G))), (fT, .inl (cZ, 41, .inl (bF P))), (fN, .inl (cI, 14, .inl N9_5))]) rfl
            refine xe_i (y := (bI (!dc (Rc (ad (lkT ar 0 P (nI i) (-1) (nI 0) F G) F G) (F i) (G i))))) hu_5 ?_
            refine x_if_eq (tgt := 43) hx hb d_MO_hasBridge_38 (by decide) (fun c_6 => ?_) (fun c_6 => ?_)
            · skip
              refine lv_iinc (v := (nI (i + 1))) (lv' := [(2, .int (nI (i + 1))), (0, .ref o), (1, .int st)]) hx hb d_MO_hasBridge_43 hl (k := 2) rfl (nI_1 _) (by decide) rfl (fun ls hl => ?_)
              refine lv_goto (tgt := 2) hx hb d_MO_hasBridge_46 (by decide) ?_
              exact ih_2 N9_5 (i + 1) (by omega) (by first | assumption | omega) (lt_s hn (fun z9 => z9.2.2 (by have y9 := c_6; rw [Bool.not_eq_false'] at y9; exact dc_t.mp y9))) _ _ hP hD hS ls (lv_sub hl [1, 2, 0] rfl)
            · skip
              refine lv_iconst (v := (nI 1)) hx hb d_MO_hasBridge_41 (by decide) ?_
              refine xe_i (y := bI true) rfl ?_
              exact W.zret (v := (bI true)) hx hb hr (bI_nar _) (fun t9 ht9 _ => ⟨⟨_, (N9_5), rfl, (by rw [(dc_t (P := hbR ar P F G st)).mpr ⟨i, by assumption, c_3, c_4, by have y9 := c_6; rw [Bool.not_eq_true'] at y9; exact dc_f.mp y9⟩]), by show va_P (dC, dI) cls _ t9.heap; rw [ht9]; exact hP⟩, hS.F ht9⟩) hS.2.2 d_MO_hasBridge_42
  exact L2_1 ((ar - 0) + 1) N0 0 (Nat.lt_succ_self _) (by first | assumption | omega) (fun n hn => absurd hn (Nat.not_lt_zero _)) _ _ hP hD hS ls (lv_sub hl [1, 2, 0] rfl)

theorem d_MO_comesToAll_0 : decode prog_9_method_40_code 0 = .ok (.iconst 1, 1) := by decide +kernel
theorem d_MO_comesToAll_1 : decode prog_9_method_40_code 1 = .ok (.iload_n 1, 1) := by decide +kernel
theorem d_MO_comesToAll_2 : decode prog_9_method_40_code 2 = .ok (.ishl, 1) := by decide +kernel
theorem d_MO_comesToAll_3 : decode prog_9_method_40_code 3 = .ok (.istore 4, 2) := by decide +kernel
theorem d_MO_comesToAll_5 : decode prog_9_method_40_code 5 = .ok (.iconst 1, 1) := by decide +kernel
theorem d_MO_comesToAll_6 : decode prog_9_method_40_code 6 = .ok (.istore 5, 2) := by decide +kernel
theorem d_MO_comesToAll_8 : decode prog_9_method_40_code 8 = .ok (.iload 5, 2) := by decide +kernel
theorem d_MO_comesToAll_10 : decode prog_9_method_40_code 10 = .ok (.ifCond .eq 174, 3) := by decide +kernel
theorem d_MO_comesToAll_13 : decode prog_9_method_40_code 13 = .ok (.iload 4, 2) := by decide +kernel
theorem d_MO_comesToAll_15 : decode prog_9_method_40_code 15 = .ok (.istore 6, 2) := by decide +kernel
theorem d_MO_comesToAll_17 : decode prog_9_method_40_code 17 = .ok (.iconst 0, 1) := by decide +kernel
theorem d_MO_comesToAll_18 : decode prog_9_method_40_code 18 = .ok (.istore 7, 2) := by decide +kernel
theorem d_MO_comesToAll_20 : decode prog_9_method_40_code 20 = .ok (.iload 7, 2) := by decide +kernel
theorem d_MO_comesToAll_22 : decode prog_9_method_40_code 22 = .ok (.aload_n 0, 1) := by decide +kernel
theorem d_MO_comesToAll_23 : decode prog_9_method_40_code 23 = .ok (.getfield 45, 3) := by decide +kernel
theorem d_MO_comesToAll_26 : decode prog_9_method_40_code 26 = .ok (.if_icmp .ge 137, 3) := by decide +kernel
theorem d_MO_comesToAll_29 : decode prog_9_method_40_code 29 = .ok (.iload_n 3, 1) := by decide +kernel
theorem d_MO_comesToAll_30 : decode prog_9_method_40_code 30 = .ok (.ifCond .eq 13, 3) := by decide +kernel
theorem d_MO_comesToAll_33 : decode prog_9_method_40_code 33 = .ok (.aload_n 0, 1) := by decide +kernel
theorem d_MO_comesToAll_34 : decode prog_9_method_40_code 34 = .ok (.getfield 13, 3) := by decide +kernel
theorem d_MO_comesToAll_37 : decode prog_9_method_40_code 37 = .ok (.iload 7, 2) := by decide +kernel
theorem d_MO_comesToAll_39 : decode prog_9_method_40_code 39 = .ok (.iaload, 1) := by decide +kernel
theorem d_MO_comesToAll_40 : decode prog_9_method_40_code 40 = .ok (.goto 10, 3) := by decide +kernel
theorem d_MO_comesToAll_43 : decode prog_9_method_40_code 43 = .ok (.aload_n 0, 1) := by decide +kernel
theorem d_MO_comesToAll_44 : decode prog_9_method_40_code 44 = .ok (.getfield 7, 3) := by decide +kernel
theorem d_MO_comesToAll_47 : decode prog_9_method_40_code 47 = .ok (.iload 7, 2) := by decide +kernel
theorem d_MO_comesToAll_49 : decode prog_9_method_40_code 49 = .ok (.iaload, 1) := by decide +kernel
theorem d_MO_comesToAll_50 : decode prog_9_method_40_code 50 = .ok (.istore 8, 2) := by decide +kernel
theorem d_MO_comesToAll_52 : decode prog_9_method_40_code 52 = .ok (.iload_n 3, 1) := by decide +kernel
theorem d_MO_comesToAll_53 : decode prog_9_method_40_code 53 = .ok (.ifCond .eq 13, 3) := by decide +kernel
theorem d_MO_comesToAll_56 : decode prog_9_method_40_code 56 = .ok (.aload_n 0, 1) := by decide +kernel
theorem d_MO_comesToAll_57 : decode prog_9_method_40_code 57 = .ok (.getfield 7, 3) := by decide +kernel
theorem d_MO_comesToAll_60 : decode prog_9_method_40_code 60 = .ok (.iload 7, 2) := by decide +kernel
theorem d_MO_comesToAll_62 : decode prog_9_method_40_code 62 = .ok (.iaload, 1) := by decide +kernel
theorem d_MO_comesToAll_63 : decode prog_9_method_40_code 63 = .ok (.goto 10, 3) := by decide +kernel
theorem d_MO_comesToAll_66 : decode prog_9_method_40_code 66 = .ok (.aload_n 0, 1) := by decide +kernel
theorem d_MO_comesToAll_67 : decode prog_9_method_40_code 67 = .ok (.getfield 13, 3) := by decide +kernel
theorem d_MO_comesToAll_70 : decode prog_9_method_40_code 70 = .ok (.iload 7, 2) := by decide +kernel
theorem d_MO_comesToAll_72 : decode prog_9_method_40_code 72 = .ok (.iaload, 1) := by decide +kernel
theorem d_MO_comesToAll_73 : decode prog_9_method_40_code 73 = .ok (.istore 9, 2) := by decide +kernel
theorem d_MO_comesToAll_75 : decode prog_9_method_40_code 75 = .ok (.aload_n 0, 1) := by decide +kernel
theorem d_MO_comesToAll_76 : decode prog_9_method_40_code 76 = .ok (.getfield 16, 3) := by decide +kernel
theorem d_MO_comesToAll_79 : decode prog_9_method_40_code 79 = .ok (.iload 7, 2) := by decide +kernel
theorem d_MO_comesToAll_81 : decode prog_9_method_40_code 81 = .ok (.baload, 1) := by decide +kernel
theorem d_MO_comesToAll_82 : decode prog_9_method_40_code 82 = .ok (.ifCond .eq 34, 3) := by decide +kernel
theorem d_MO_comesToAll_85 : decode prog_9_method_40_code 85 = .ok (.aload_n 0, 1) := by decide +kernel
theorem d_MO_comesToAll_86 : decode prog_9_method_40_code 86 = .ok (.getfield 26, 3) := by decide +kernel
theorem d_MO_comesToAll_89 : decode prog_9_method_40_code 89 = .ok (.iload 7, 2) := by decide +kernel
theorem d_MO_comesToAll_91 : decode prog_9_method_40_code 91 = .ok (.iaload, 1) := by decide +kernel
theorem d_MO_comesToAll_92 : decode prog_9_method_40_code 92 = .ok (.iconst 2, 1) := by decide +kernel
theorem d_MO_comesToAll_93 : decode prog_9_method_40_code 93 = .ok (.if_icmp .eq 23, 3) := by decide +kernel
theorem d_MO_comesToAll_96 : decode prog_9_method_40_code 96 = .ok (.iload 4, 2) := by decide +kernel
theorem d_MO_comesToAll_98 : decode prog_9_method_40_code 98 = .ok (.iload 8, 2) := by decide +kernel
theorem d_MO_comesToAll_100 : decode prog_9_method_40_code 100 = .ok (.ishr, 1) := by decide +kernel
theorem d_MO_comesToAll_101 : decode prog_9_method_40_code 101 = .ok (.iconst 1, 1) := by decide +kernel
theorem d_MO_comesToAll_102 : decode prog_9_method_40_code 102 = .ok (.iand, 1) := by decide +kernel
theorem d_MO_comesToAll_103 : decode prog_9_method_40_code 103 = .ok (.iconst 1, 1) := by decide +kernel
theorem d_MO_comesToAll_104 : decode prog_9_method_40_code 104 = .ok (.if_icmp .ne 12, 3) := by decide +kernel
theorem d_MO_comesToAll_107 : decode prog_9_method_40_code 107 = .ok (.iload 6, 2) := by decide +kernel
theorem d_MO_comesToAll_109 : decode prog_9_method_40_code 109 = .ok (.iconst 1, 1) := by decide +kernel
theorem d_MO_comesToAll_110 : decode prog_9_method_40_code 110 = .ok (.iload 9, 2) := by decide +kernel
theorem d_MO_comesToAll_112 : decode prog_9_method_40_code 112 = .ok (.ishl, 1) := by decide +kernel
theorem d_MO_comesToAll_113 : decode prog_9_method_40_code 113 = .ok (.ior, 1) := by decide +kernel
theorem d_MO_comesToAll_114 : decode prog_9_method_40_code 114 = .ok (.istore 6, 2) := by decide +kernel
theorem d_MO_comesToAll_116 : decode prog_9_method_40_code 116 = .ok (.aload_n 0, 1) := by decide +kernel
theorem d_MO_comesToAll_117 : decode prog_9_method_40_code 117 = .ok (.getfield 16, 3) := by decide +kernel
theorem d_MO_comesToAll_120 : decode prog_9_method_40_code 120 = .ok (.iload 7, 2) := by decide +kernel
theorem d_MO_comesToAll_122 : decode prog_9_method_40_code 122 = .ok (.baload, 1) := by decide +kernel
theorem d_MO_comesToAll_123 : decode prog_9_method_40_code 123 = .ok (.ifCond .eq 34, 3) := by decide +kernel
theorem d_MO_comesToAll_126 : decode prog_9_method_40_code 126 = .ok (.aload_n 0, 1) := by decide +kernel
theorem d_MO_comesToAll_127 : decode prog_9_method_40_code 127 = .ok (.getfield 26, 3) := by decide +kernel
theorem d_MO_comesToAll_130 : decode prog_9_method_40_code 130 = .ok (.iload 7, 2) := by decide +kernel
theorem d_MO_comesToAll_132 : decode prog_9_method_40_code 132 = .ok (.iaload, 1) := by decide +kernel
theorem d_MO_comesToAll_133 : decode prog_9_method_40_code 133 = .ok (.iconst 1, 1) := by decide +kernel
theorem d_MO_comesToAll_134 : decode prog_9_method_40_code 134 = .ok (.if_icmp .eq 23, 3) := by decide +kernel
theorem d_MO_comesToAll_137 : decode prog_9_method_40_code 137 = .ok (.iload 4, 2) := by decide +kernel
theorem d_MO_comesToAll_139 : decode prog_9_method_40_code 139 = .ok (.iload 9, 2) := by decide +kernel
theorem d_MO_comesToAll_141 : decode prog_9_method_40_code 141 = .ok (.ishr, 1) := by decide +kernel
theorem d_MO_comesToAll_142 : decode prog_9_method_40_code 142 = .ok (.iconst 1, 1) := by decide +kernel
theorem d_MO_comesToAll_143 : decode prog_9_method_40_code 143 = .ok (.iand, 1) := by decide +kernel
theorem d_MO_comesToAll_144 : decode prog_9_method_40_code 144 = .ok (.iconst 1, 1) := by decide +kernel
theorem d_MO_comesToAll_145 : decode prog_9_method_40_code 145 = .ok (.if_icmp .ne 12, 3) := by decide +kernel
theorem d_MO_comesToAll_148 : decode prog_9_method_40_code 148 = .ok (.iload 6, 2) := by decide +kernel
theorem d_MO_comesToAll_150 : decode prog_9_method_40_code 150 = .ok (.iconst 1, 1) := by decide +kernel
theorem d_MO_comesToAll_151 : decode prog_9_method_40_code 151 = .ok (.iload 8, 2) := by decide +kernel
theorem d_MO_comesToAll_153 : decode prog_9_method_40_code 153 = .ok (.ishl, 1) := by decide +kernel
theorem d_MO_comesToAll_154 : decode prog_9_method_40_code 154 = .ok (.ior, 1) := by decide +kernel
theorem d_MO_comesToAll_155 : decode prog_9_method_40_code 155 = .ok (.istore 6, 2) := by decide +kernel
theorem d_MO_comesToAll_157 : decode prog_9_method_40_code 157 = .ok (.iinc 7 1, 3) := by decide +kernel
theorem d_MO_comesToAll_160 : decode prog_9_method_40_code 160 = .ok (.goto (-140), 3) := by decide +kernel
theorem d_MO_comesToAll_163 : decode prog_9_method_40_code 163 = .ok (.iload 6, 2) := by decide +kernel
theorem d_MO_comesToAll_165 : decode prog_9_method_40_code 165 = .ok (.iload 4, 2) := by decide +kernel
theorem d_MO_comesToAll_167 : decode prog_9_method_40_code 167 = .ok (.if_icmp .eq 7, 3) := by decide +kernel
theorem d_MO_comesToAll_170 : decode prog_9_method_40_code 170 = .ok (.iconst 1, 1) := by decide +kernel
theorem d_MO_comesToAll_171 : decode prog_9_method_40_code 171 = .ok (.goto 4, 3) := by decide +kernel
theorem d_MO_comesToAll_174 : decode prog_9_method_40_code 174 = .ok (.iconst 0, 1) := by decide +kernel
theorem d_MO_comesToAll_175 : decode prog_9_method_40_code 175 = .ok (.istore 5, 2) := by decide +kernel
theorem d_MO_comesToAll_177 : decode prog_9_method_40_code 177 = .ok (.iload 6, 2) := by decide +kernel
theorem d_MO_comesToAll_179 : decode prog_9_method_40_code 179 = .ok (.istore 4, 2) := by decide +kernel
theorem d_MO_comesToAll_181 : decode prog_9_method_40_code 181 = .ok (.goto (-173), 3) := by decide +kernel
theorem d_MO_comesToAll_184 : decode prog_9_method_40_code 184 = .ok (.iload_n 2, 1) := by decide +kernel
theorem d_MO_comesToAll_185 : decode prog_9_method_40_code 185 = .ok (.iload 4, 2) := by decide +kernel
theorem d_MO_comesToAll_187 : decode prog_9_method_40_code 187 = .ok (.iconst (-1), 1) := by decide +kernel
theorem d_MO_comesToAll_188 : decode prog_9_method_40_code 188 = .ok (.ixor, 1) := by decide +kernel
theorem d_MO_comesToAll_189 : decode prog_9_method_40_code 189 = .ok (.iand, 1) := by decide +kernel
theorem d_MO_comesToAll_190 : decode prog_9_method_40_code 190 = .ok (.ifCond .ne 7, 3) := by decide +kernel
theorem d_MO_comesToAll_193 : decode prog_9_method_40_code 193 = .ok (.iconst 1, 1) := by decide +kernel
theorem d_MO_comesToAll_194 : decode prog_9_method_40_code 194 = .ok (.goto 4, 3) := by decide +kernel
theorem d_MO_comesToAll_197 : decode prog_9_method_40_code 197 = .ok (.iconst 0, 1) := by decide +kernel
theorem d_MO_comesToAll_198 : decode prog_9_method_40_code 198 = .ok (.ireturn, 1) := by decide +kernel
set_option maxHeartbeats 4000000 in
set_option maxRecDepth 100000 in
theorem c_MO_comesToAll_f (l : Launch) (dC : Nat → ClassId) (dI : Nat → Nat → Nat) (cI cJ cZ : ClassId) (o fF fG fT fN fW fO fB fS fD : Nat) (th be bz sz : Int32) (nd ar : Nat) (F G : Nat → Nat) (P : Nat → Bool) (hF : ∀ k, F k < 14) (hG : ∀ k, G k < 14) (hnd : nd ≤ 14) (har : ar ≤ 40) (Td : Nat → Nat) (hTd : ∀ k, Td k < 3) (x : Nat) (hx14 : x < 14) (st : Int32) : Met l ⟨"CutPointsModel", "comesToAll", "(IIZ)Z"⟩ (Cond.code ⟨"CutPointsModel", "comesToAll", "(IIZ)Z"⟩ prog_9_method_40_code 10 (some .boolean) :: TT) (rmk 0 0) (PR dC dI cI cJ cZ [.ref o, .int (nI x), .int st, .int (bI false)] [(o, .inr (7, [.int th, .int (nI nd), .int (nI ar), .ref fF, .ref fG, .ref fT, .ref fN, .ref fW, .int be, .ref fO, .ref fB, .int bz, .ref fS, .ref fD, .int sz])), (fF, .inl (cI, 41, .inl (nF F))), (fG, .inl (cI, 41, .inl (nF G))), (fT, .inl (cZ, 41, .inl (bF P))), (fO, .inl (cI, 41, .inl (nF Td)))]) (vp_Si (fun r => r = bI (dc (ctR (dE ar P Td F G) x st)))) 0 0 (fun _ => False) := by
  refine Met.ofW (cc := prog_9_method_40_code) (maxL := 10) (ret := (some .boolean)) (by decide) rfl ?_
  intro p e s m args below meth c s₁ BB9 hml hv
  obtain ⟨rfl, hP, hK⟩ := hv
  have hx := BB9.exec
  have hb := BB9.bytes
  have hr := BB9.returns
  have hts : ∀ w ∈ TT, w.before _ s = true := fun w h => atoms_spec (ws := (Cond.code ⟨"CutPointsModel", "comesToAll", "(IIZ)Z"⟩ prog_9_method_40_code 10 (some .boolean) :: TT)) BB9.pre w (List.mem_cons_of_mem _ h)
  have hown : s.vm.findClass "CutPointsModel" = some m.cls := findClass_of_methodNamed BB9.named
  have hlocks := BB9.notSynchronized
  have hl := lv_entry ([.ref o, .int (nI x), .int st, .int (bI false)]) (n := 10) (Nat.le_of_ble_eq_true rfl)
  rw [lg_entry_eq]
  generalize (lg_sl ([.ref o, .int (nI x), .int st, .int (bI false)]) ++ List.replicate (10 - (lg_sl ([.ref o, .int (nI x), .int st, .int (bI false)])).length) Slot.unset).toArray = ls at hl ⊢
  have hl : lv_has ls 10 [(0, .ref o), (1, .int (nI x)), (2, .int st), (3, .int (bI false))] := hl
  refine lv_iconst (v := (nI 1)) hx hb d_MO_comesToAll_0 (by decide) ?_
  refine lv_iload_n hx hb d_MO_comesToAll_1 rfl (lv_at hl 1 rfl) ?_
  refine lv_ishl hx hb d_MO_comesToAll_2 ?_
  refine xe_i (y := (sb x)) rfl ?_
  refine lv_istore (lv' := [(4, .int (sb x)), (0, .ref o), (1, .int (nI x)), (2, .int st), (3, .int (bI false))]) hx hb d_MO_comesToAll_3 hl (by decide) rfl (fun ls hl => ?_)
  refine lv_iconst (v := (nI 1)) hx hb d_MO_comesToAll_5 (by decide) ?_
  refine lv_istore (lv' := [(5, .int (nI 1)), (4, .int (sb x)), (0, .ref o), (1, .int (nI x)), (2, .int st), (3, .int (bI false))]) hx hb d_MO_comesToAll_6 hl (by decide) rfl (fun ls hl => ?_)
  have L8_1 : ∀ (n : Nat) (sn : Int32) (gb : Bool) (hn : 2 * (32 - cn (bt sn) 32) + gb.toNat < n) (ho : ctO (dE ar P Td F G) x sn gb) (ls : Array Slot) (hl : lv_has ls 10 [(0, .ref o), (1, .int (nI x)), (2, .int st), (3, .int (bI false)), (4, .int sn), (5, .int (bI gb))]), W p l e (headSpec (Cond.code ⟨"CutPointsModel", "comesToAll", "(IIZ)Z"⟩ prog_9_method_40_code 10 (some .boolean) :: TT) (rmk 0 0)).room s m ([.ref o, .int (nI x), .int st, .int (bI false)] : List Value).toArray below meth c s.heap [] 0 0 (MQ below (vp_Si (fun r => r = bI (dc (ctR (dE ar P Td F G) x st)))) ([.ref o, .int (nI x), .int st, .int (bI false)] : List Value).toArray s 0 0 (fun _ => False)) (F0 m 8 ls []) := by
    intro n_8
    induction n_8 with
    | zero =>
      intro sn gb hn_8
      exact absurd hn_8 (Nat.not_lt_zero _)
    | succ n_8 ih_8 =>
      intro sn gb hn_8 ho ls hl
      refine lv_iload hx hb d_MO_comesToAll_8 (lv_at hl 5 rfl) ?_
      refine x_if_eq (tgt := 184) hx hb d_MO_comesToAll_10 (by decide) (fun c_2 => ?_) (fun c_2 => ?_)
      · skip
        refine lv_iload_n hx hb d_MO_comesToAll_184 rfl (lv_at hl 2 rfl) ?_
        refine lv_iload hx hb d_MO_comesToAll_185 (lv_at hl 4 rfl) ?_
        refine lv_iconst (v := (-1)) hx hb d_MO_comesToAll_187 (by decide) ?_
        refine lv_ixor hx hb d_MO_comesToAll_188 ?_
        refine lv_iand hx hb d_MO_comesToAll_189 ?_
        refine lv_if_ne (tgt := 197) hx hb d_MO_comesToAll_190 (by decide) (fun c_3 => ?_) (fun c_3 => ?_)
        · skip
          refine lv_iconst (v := (nI 0)) hx hb d_MO_comesToAll_197 (by decide) ?_
          refine xe_i (y := bI false) rfl ?_
          exact W.zret (v := (bI false)) hx hb hr (bI_nar _) (fun t9 ht9 _ => ⟨_, rfl, (by rw [dc_f.mpr (fun z9 => c_3 ((ctO_e ho c_2).mpr z9))]), ht9⟩) t_nil d_MO_comesToAll_198
        · skip
          refine lv_iconst (v := (nI 1)) hx hb d_MO_comesToAll_193 (by decide) ?_
          refine lv_goto (tgt := 198) hx hb d_MO_comesToAll_194 (by decide) ?_
          refine xe_i (y := bI true) rfl ?_
          exact W.zret (v := (bI true)) hx hb hr (bI_nar _) (fun t9 ht9 _ => ⟨_, rfl, (by rw [dc_t.mpr ((ctO_e ho c_2).mp c_3)]), ht9⟩) t_nil d_MO_comesToAll_198
      · skip
        refine lv_iload hx hb d_MO_comesToAll_13 (lv_at hl 4 rfl) ?_
        refine lv_istore (lv' := [(6, .int sn), (0, .ref o), (1, .int (nI x)), (2, .int st), (3, .int (bI false)), (4, .int sn), (5, .int (bI gb))]) hx hb d_MO_comesToAll_15 hl (by decide) rfl (fun ls hl => ?_)
        refine lv_iconst (v := (nI 0)) hx hb d_MO_comesToAll_17 (by decide) ?_
        refine lv_istore (lv' := [(7, .int (nI 0)), (6, .int sn), (0, .ref o), (1, .int (nI x)), (2, .int st), (3, .int (bI false)), (4, .int sn), (5, .int (bI gb))]) hx hb d_MO_comesToAll_18 hl (by decide) rfl (fun ls hl => ?_)
        have L20_4 : ∀ (n : Nat) (nx : Int32) (i : Nat) (hn : ar - i < n) (hi : i ≤ ar) (hj : ctJ P Td F G sn nx i) (ls : Array Slot) (hl : lv_has ls 10 [(0, .ref o), (1, .int (nI x)), (2, .int st), (3, .int (bI false)), (4, .int sn), (5, .int (bI gb)), (6, .int nx), (7, .int (nI i))]), W p l e (headSpec (Cond.code ⟨"CutPointsModel", "comesToAll", "(IIZ)Z"⟩ prog_9_method_40_code 10 (some .boolean) :: TT) (rmk 0 0)).room s m ([.ref o, .int (nI x), .int st, .int (bI false)] : List Value).toArray below meth c s.heap [] 0 0 (MQ below (vp_Si (fun r => r = bI (dc (ctR (dE ar P Td F G) x st)))) ([.ref o, .int (nI x), .int st, .int (bI false)] : List Value).toArray s 0 0 (fun _ => False)) (F0 m 20 ls []) := by
          intro n_20
          induction n_20 with
          | zero =>
            intro nx i hn_20
            exact absurd hn_20 (Nat.not_lt_zero _)
          | succ n_20 ih_20 =>
            intro nx i hn_20 hi hj ls hl
            refine lv_iload hx hb d_MO_comesToAll_20 (lv_at hl 7 rfl) ?_
            refine lv_aload_n hx hb d_MO_comesToAll_22 rfl (lv_at hl 0 rfl) ?_
            refine va_get (D := (dC, dI)) (ci := 7) (v := .int (nI ar)) (C := R_MO) (T := F_MO) (N := 15) hx hb hts in_MO hown hK.1 hP 0 rfl rfl 2 (by decide) (hts _ wfl_MO_45) (fun _ h9 => h9) rfl d_MO_comesToAll_23 ?_
            refine x_cmp_ge (a := i) (b := ar) (tgt := 163) hx hb (by omega) (by omega) d_MO_comesToAll_26 (by decide) (fun c_5 => ?_) (fun c_5 => ?_)
            · skip
              refine lv_iload hx hb d_MO_comesToAll_163 (lv_at hl 6 rfl) ?_
              refine lv_iload hx hb d_MO_comesToAll_165 (lv_at hl 4 rfl) ?_
              refine lv_icmp_eq (tgt := 174) hx hb d_MO_comesToAll_167 (by decide) (fun c_6 => ?_) (fun c_6 => ?_)
              · skip
                refine lv_iconst (v := (nI 0)) hx hb d_MO_comesToAll_174 (by decide) ?_
                refine lv_istore (lv' := [(5, .int (nI 0)), (0, .ref o), (1, .int (nI x)), (2, .int st), (3, .int (bI false)), (4, .int sn), (6, .int nx), (7, .int (nI i))]) hx hb d_MO_comesToAll_175 hl (by decide) rfl (fun ls hl => ?_)
                refine lv_iload hx hb d_MO_comesToAll_177 (lv_at hl 6 rfl) ?_
                refine lv_istore (lv' := [(4, .int nx), (5, .int (nI 0)), (0, .ref o), (1, .int (nI x)), (2, .int st), (3, .int (bI false)), (6, .int nx), (7, .int (nI i))]) hx hb d_MO_comesToAll_179 hl (by decide) rfl (fun ls hl => ?_)
                refine lv_goto (tgt := 8) hx hb d_MO_comesToAll_181 (by decide) ?_
                exact ih_8 nx false (rc_d1 hn_8 c_2 c_6) (ctO_n ho hj (by omega) (fun _ => c_6)) ls (lv_sub hl [2, 3, 4, 5, 0, 1] rfl)
              · skip
                refine lv_iconst (v := (nI 1)) hx hb d_MO_comesToAll_170 (by decide) ?_
                refine lv_goto (tgt := 175) hx hb d_MO_comesToAll_171 (by decide) ?_
                refine lv_istore (lv' := [(5, .int (nI 1)), (0, .ref o), (1, .int (nI x)), (2, .int st), (3, .int (bI false)), (4, .int sn), (6, .int nx), (7, .int (nI i))]) hx hb d_MO_comesToAll_175 hl (by decide) rfl (fun ls hl => ?_)
                refine lv_iload hx hb d_MO_comesToAll_177 (lv_at hl 6 rfl) ?_
                refine lv_istore (lv' := [(4, .int nx), (5, .int (nI 1)), (0, .ref o), (1, .int (nI x)), (2, .int st), (3, .int (bI false)), (6, .int nx), (7, .int (nI i))]) hx hb d_MO_comesToAll_179 hl (by decide) rfl (fun ls hl => ?_)
                refine lv_goto (tgt := 8) hx hb d_MO_comesToAll_181 (by decide) ?_
                exact ih_8 nx true (ct_d2 hn_8 c_2 hj c_6) (ctO_n ho hj (by omega) (fun q9 => by cases q9)) ls (lv_sub hl [2, 3, 4, 5, 0, 1] rfl)
            · skip
              refine lv_iload_n hx hb d_MO_comesToAll_29 rfl (lv_at hl 3 rfl) ?_
              refine lv_if_eq (tgt := 43) hx hb d_MO_comesToAll_30 (by decide) (fun _ => ?_) (fun c9 => absurd (by decide : ((bI false) : Int32) = 0) c9)
              refine lv_aload_n hx hb d_MO_comesToAll_43 rfl (lv_at hl 0 rfl) ?_
              refine va_get (D := (dC, dI)) (ci := 7) (v := .ref fF) (C := R_MO) (T := F_MO) (N := 15) hx hb hts in_MO hown hK.1 hP 0 rfl rfl 3 (by decide) (hts _ wfl_MO_7) (fun _ h9 => h9) rfl d_MO_comesToAll_44 ?_
              refine lv_iload hx hb d_MO_comesToAll_47 (lv_at hl 7 rfl) ?_
              refine x_iald (n := 41) (f := (nF F)) (j := i) hx hb hK.1 hP 1 0 rfl rfl (by omega) (by omega) d_MO_comesToAll_49 ?_
              refine xe_i (y := (nI (F i))) rfl ?_
              refine lv_istore (lv' := [(8, .int (nI (F i))), (0, .ref o), (1, .int (nI x)), (2, .int st), (3, .int (bI false)), (4, .int sn), (5, .int (bI gb)), (6, .int nx), (7, .int (nI i))]) hx hb d_MO_comesToAll_50 hl (by decide) rfl (fun ls hl => ?_)
              refine lv_iload_n hx hb d_MO_comesToAll_52 rfl (lv_at hl 4 rfl) ?_
              refine lv_if_eq (tgt := 66) hx hb d_MO_comesToAll_53 (by decide) (fun _ => ?_) (fun c9 => absurd (by decide : ((bI false) : Int32) = 0) c9)
              refine lv_aload_n hx hb d_MO_comesToAll_66 rfl (lv_at hl 1 rfl) ?_
              refine va_get (D := (dC, dI)) (ci := 7) (v := .ref fG) (C := R_MO) (T := F_MO) (N := 15) hx hb hts in_MO hown hK.1 hP 0 rfl rfl 4 (by decide) (hts _ wfl_MO_13) (fun _ h9 => h9) rfl d_MO_comesToAll_67 ?_
              refine lv_iload hx hb d_MO_comesToAll_70 (lv_at hl 8 rfl) ?_
              refine x_iald (n := 41) (f := (nF G)) (j := i) hx hb hK.1 hP 2 0 rfl rfl (by omega) (by omega) d_MO_comesToAll_72 ?_
              refine xe_i (y := (nI (G i))) rfl ?_
              refine lv_istore (lv' := [(9, .int (nI (G i))), (8, .int (nI (F i))), (0, .ref o), (1, .int (nI x)), (2, .int st), (3, .int (bI false)), (4, .int sn), (5, .int (bI gb)), (6, .int nx), (7, .int (nI i))]) hx hb d_MO_comesToAll_73 hl (by decide) rfl (fun ls hl => ?_)
              refine lv_aload_n hx hb d_MO_comesToAll_75 rfl (lv_at hl 2 rfl) ?_
              refine va_get (D := (dC, dI)) (ci := 7) (v := .ref fT) (C := R_MO) (T := F_MO) (N := 15) hx hb hts in_MO hown hK.1 hP 0 rfl rfl 5 (by decide) (hts _ wfl_MO_16) (fun _ h9 => h9) rfl d_MO_comesToAll_76 ?_
              refine lv_iload hx hb d_MO_comesToAll_79 (lv_at hl 9 rfl) ?_
              refine x_zald (n := 41) (f := (bF P)) (j := i) hx hb hK.1 hP 3 2 rfl rfl (by omega) (by omega) d_MO_comesToAll_81 ?_
              refine xe_i (y := (bI (P i))) rfl ?_
              refine x_if_eq (tgt := 116) hx hb d_MO_comesToAll_82 (by decide) (fun c_9 => ?_) (fun c_9 => ?_)
              · skip
                have L116_10 : ∀ (n1 : Int32) (hj1 : adI (P i = true ∧ Td i ≠ 2 ∧ bt sn (F i) = true) (G i) nx n1) (ls : Array Slot) (hl : lv_has ls 10 [(0, .ref o), (1, .int (nI x)), (2, .int st), (3, .int (bI false)), (4, .int sn), (5, .int (bI gb)), (6, .int n1), (7, .int (nI i)), (8, .int (nI (F i))), (9, .int (nI (G i)))]), W p l e (headSpec (Cond.code ⟨"CutPointsModel", "comesToAll", "(IIZ)Z"⟩ prog_9_method_40_code 10 (some .boolean) :: TT) (rmk 0 0)).room s m ([.ref o, .int (nI x), .int st, .int (bI false)] : List Value).toArray below meth c s.heap [] 0 0 (MQ below (vp_Si (fun r => r = bI (dc (ctR (dE ar P Td F G) x st)))) ([.ref o, .int (nI x), .int st, .int (bI false)] : List Value).toArray s 0 0 (fun _ => False)) (F0 m 116 ls []) := by
                  intro n1 hj1 ls hl
                  refine lv_aload_n hx hb d_MO_comesToAll_116 rfl (lv_at hl 0 rfl) ?_
                  refine va_get (D := (dC, dI)) (ci := 7) (v := .ref fT) (C := R_MO) (T := F_MO) (N := 15) hx hb hts in_MO hown hK.1 hP 0 rfl rfl 5 (by decide) (hts _ wfl_MO_16) (fun _ h9 => h9) rfl d_MO_comesToAll_117 ?_
                  refine lv_iload hx hb d_MO_comesToAll_120 (lv_at hl 7 rfl) ?_
                  refine x_zald (n := 41) (f := (bF P)) (j := i) hx hb hK.1 hP 3 2 rfl rfl (by omega) (by omega) d_MO_comesToAll_122 ?_
                  refine xe_i (y := (bI (P i))) rfl ?_
                  refine x_if_eq (tgt := 157) hx hb d_MO_comesToAll_123 (by decide) (fun c_11 => ?_) (fun c_11 => ?_)
                  · skip
                    refine lv_iinc (v := (nI (i + 1))) (lv' := [(7, .int (nI (i + 1))), (0, .ref o), (1, .int (nI x)), (2, .int st), (3, .int (bI false)), (4, .int sn), (5, .int (bI gb)), (6, .int n1), (8, .int (nI (F i))), (9, .int (nI (G i)))]) hx hb d_MO_comesToAll_157 hl (k := 7) rfl (nI_1 _) (by decide) rfl (fun ls hl => ?_)
                    refine lv_goto (tgt := 20) hx hb d_MO_comesToAll_160 (by decide) ?_
                    exact ih_20 n1 (i + 1) (by omega) (by first | assumption | omega) (ctJ_n hj hj1 (adI_f (fun z9 => by have y9 := z9.1; rw [c_11] at y9; cases y9))) ls (lv_sub hl [1, 2, 3, 4, 5, 6, 7, 0] rfl)
                  · skip
                    refine lv_aload_n hx hb d_MO_comesToAll_126 rfl (lv_at hl 0 rfl) ?_
                    refine va_get (D := (dC, dI)) (ci := 7) (v := .ref fO) (C := R_MO) (T := F_MO) (N := 15) hx hb hts in_MO hown hK.1 hP 0 rfl rfl 9 (by decide) (hts _ wfl_MO_26) (fun _ h9 => h9) rfl d_MO_comesToAll_127 ?_
                    refine lv_iload hx hb d_MO_comesToAll_130 (lv_at hl 7 rfl) ?_
                    refine x_iald (n := 41) (f := (nF Td)) (j := i) hx hb hK.1 hP 4 0 rfl rfl (by omega) (by omega) d_MO_comesToAll_132 ?_
                    refine xe_i (y := (nI (Td i))) rfl ?_
                    refine lv_iconst (v := (nI 1)) hx hb d_MO_comesToAll_133 (by decide) ?_
                    refine x_cmp_eq (a := (Td i)) (b := 1) (tgt := 157) hx hb (Nat.lt_trans (hTd _) (by decide)) (by omega) d_MO_comesToAll_134 (by decide) (fun c_12 => ?_) (fun c_12 => ?_)
                    · skip
                      refine lv_iinc (v := (nI (i + 1))) (lv' := [(7, .int (nI (i + 1))), (0, .ref o), (1, .int (nI x)), (2, .int st), (3, .int (bI false)), (4, .int sn), (5, .int (bI gb)), (6, .int n1), (8, .int (nI (F i))), (9, .int (nI (G i)))]) hx hb d_MO_comesToAll_157 hl (k := 7) rfl (nI_1 _) (by decide) rfl (fun ls hl => ?_)
                      refine lv_goto (tgt := 20) hx hb d_MO_comesToAll_160 (by decide) ?_
                      exact ih_20 n1 (i + 1) (by omega) (by first | assumption | omega) (ctJ_n hj hj1 (adI_f (fun z9 => z9.2.1 c_12))) ls (lv_sub hl [1, 2, 3, 4, 5, 6, 7, 0] rfl)
                    · skip
                      refine lv_iload hx hb d_MO_comesToAll_137 (lv_at hl 4 rfl) ?_
                      refine lv_iload hx hb d_MO_comesToAll_139 (lv_at hl 9 rfl) ?_
                      refine lv_ishr hx hb d_MO_comesToAll_141 ?_
                      refine lv_iconst (v := (nI 1)) hx hb d_MO_comesToAll_142 (by decide) ?_
                      refine lv_iand hx hb d_MO_comesToAll_143 ?_
                      refine xe_i (y := (bI (bt sn (G i)))) (sh1 (Nat.lt_trans (hG _) (by decide))) ?_
                      refine lv_iconst (v := (nI 1)) hx hb d_MO_comesToAll_144 (by decide) ?_
                      refine x_cmp1_ne (tgt := 157) hx hb d_MO_comesToAll_145 (by decide) (fun c_13 => ?_) (fun c_13 => ?_)
                      · skip
                        refine lv_iinc (v := (nI (i + 1))) (lv' := [(7, .int (nI (i + 1))), (0, .ref o), (1, .int (nI x)), (2, .int st), (3, .int (bI false)), (4, .int sn), (5, .int (bI gb)), (6, .int n1), (8, .int (nI (F i))), (9, .int (nI (G i)))]) hx hb d_MO_comesToAll_157 hl (k := 7) rfl (nI_1 _) (by decide) rfl (fun ls hl => ?_)
                        refine lv_goto (tgt := 20) hx hb d_MO_comesToAll_160 (by decide) ?_
                        exact ih_20 n1 (i + 1) (by omega) (by first | assumption | omega) (ctJ_n hj hj1 (adI_f (fun z9 => by have y9 := z9.2.2; rw [c_13] at y9; cases y9))) ls (lv_sub hl [1, 2, 3, 4, 5, 6, 7, 0] rfl)
                      · skip
                        refine lv_iload hx hb d_MO_comesToAll_148 (lv_at hl 6 rfl) ?_
                        refine lv_iconst (v := (nI 1)) hx hb d_MO_comesToAll_150 (by decide) ?_
                        refine lv_iload hx hb d_MO_comesToAll_151 (lv_at hl 8 rfl) ?_
                        refine lv_ishl hx hb d_MO_comesToAll_153 ?_
                        refine xe_i (y := (sb (F i))) rfl ?_
                        refine lv_ior hx hb d_MO_comesToAll_154 ?_
                        refine lv_istore (lv' := [(6, .int (n1 ||| (sb (F i)))), (0, .ref o), (1, .int (nI x)), (2, .int st), (3, .int (bI false)), (4, .int sn), (5, .int (bI gb)), (7, .int (nI i)), (8, .int (nI (F i))), (9, .int (nI (G i)))]) hx hb d_MO_comesToAll_155 hl (by decide) rfl (fun ls hl => ?_)
                        refine lv_iinc (v := (nI (i + 1))) (lv' := [(7, .int (nI (i + 1))), (6, .int (n1 ||| (sb (F i)))), (0, .ref o), (1, .int (nI x)), (2, .int st), (3, .int (bI false)), (4, .int sn), (5, .int (bI gb)), (8, .int (nI (F i))), (9, .int (nI (G i)))]) hx hb d_MO_comesToAll_157 hl (k := 7) rfl (nI_1 _) (by decide) rfl (fun ls hl => ?_)
                        refine lv_goto (tgt := 20) hx hb d_MO_comesToAll_160 (by decide) ?_
                        exact ih_20 (n1 ||| (sb (F i))) (i + 1) (by omega) (by first | assumption | omega) (ctJ_n hj hj1 (adI_t ⟨c_11, c_12, c_13⟩ (hF _))) ls (lv_sub hl [2, 3, 4, 5, 6, 7, 1, 0] rfl)
                exact L116_10 nx (adI_f (fun z9 => by have y9 := z9.1; rw [c_9] at y9; cases y9)) ls (lv_sub hl [2, 3, 4, 5, 6, 7, 8, 9, 1, 0] rfl)
              · skip
                refine lv_aload_n hx hb d_MO_comesToAll_85 rfl (lv_at hl 2 rfl) ?_
                refine va_get (D := (dC, dI)) (ci := 7) (v := .ref fO) (C := R_MO) (T := F_MO) (N := 15) hx hb hts in_MO hown hK.1 hP 0 rfl rfl 9 (by decide) (hts _ wfl_MO_26) (fun _ h9 => h9) rfl d_MO_comesToAll_86 ?_
                refine lv_iload hx hb d_MO_comesToAll_89 (lv_at hl 9 rfl) ?_
                refine x_iald (n := 41) (f := (nF Td)) (j := i) hx hb hK.1 hP 4 0 rfl rfl (by omega) (by omega) d_MO_comesToAll_91 ?_
                refine xe_i (y := (nI (Td i))) rfl ?_
                refine lv_iconst (v := (nI 2)) hx hb d_MO_comesToAll_92 (by decide) ?_
                refine x_cmp_eq (a := (Td i)) (b := 2) (tgt := 116) hx hb (Nat.lt_trans (hTd _) (by decide)) (by omega) d_MO_comesToAll_93 (by decide) (fun c_14 => ?_) (fun c_14 => ?_)
                · skip
                  have L116_15 : ∀ (n1 : Int32) (hj1 : adI (P i = true ∧ Td i ≠ 2 ∧ bt sn (F i) = true) (G i) nx n1) (ls : Array Slot) (hl : lv_has ls 10 [(0, .ref o), (1, .int (nI x)), (2, .int st), (3, .int (bI false)), (4, .int sn), (5, .int (bI gb)), (6, .int n1), (7, .int (nI i)), (8, .int (nI (F i))), (9, .int (nI (G i)))]), W p l e (headSpec (Cond.code ⟨"CutPointsModel", "comesToAll", "(IIZ)Z"⟩ prog_9_method_40_code 10 (some .boolean) :: TT) (rmk 0 0)).room s m ([.ref o, .int (nI x), .int st, .int (bI false)] : List Value).toArray below meth c s.heap [] 0 0 (MQ below (vp_Si (fun r => r = bI (dc (ctR (dE ar P Td F G) x st)))) ([.ref o, .int (nI x), .int st, .int (bI false)] : List Value).toArray s 0 0 (fun _ => False)) (F0 m 116 ls []) := by
                    intro n1 hj1 ls hl
                    refine lv_aload_n hx hb d_MO_comesToAll_116 rfl (lv_at hl 0 rfl) ?_
                    refine va_get (D := (dC, dI)) (ci := 7) (v := .ref fT) (C := R_MO) (T := F_MO) (N := 15) hx hb hts in_MO hown hK.1 hP 0 rfl rfl 5 (by decide) (hts _ wfl_MO_16) (fun _ h9 => h9) rfl d_MO_comesToAll_117 ?_
                    refine lv_iload hx hb d_MO_comesToAll_120 (lv_at hl 7 rfl) ?_
                    refine x_zald (n := 41) (f := (bF P)) (j := i) hx hb hK.1 hP 3 2 rfl rfl (by omega) (by omega) d_MO_comesToAll_122 ?_
                    refine xe_i (y := (bI (P i))) rfl ?_
                    refine x_if_eq (tgt := 157) hx hb d_MO_comesToAll_123 (by decide) (fun c_16 => ?_) (fun c_16 => ?_)
                    · skip
                      refine lv_iinc (v := (nI (i + 1))) (lv' := [(7, .int (nI (i + 1))), (0, .ref o), (1, .int (nI x)), (2, .int st), (3, .int (bI false)), (4, .int sn), (5, .int (bI gb)), (6, .int n1), (8, .int (nI (F i))), (9, .int (nI (G i)))]) hx hb d_MO_comesToAll_157 hl (k := 7) rfl (nI_1 _) (by decide) rfl (fun ls hl => ?_)
                      refine lv_goto (tgt := 20) hx hb d_MO_comesToAll_160 (by decide) ?_
                      exact ih_20 n1 (i + 1) (by omega) (by first | assumption | omega) (ctJ_n hj hj1 (adI_f (fun z9 => by have y9 := z9.1; rw [c_16] at y9; cases y9))) ls (lv_sub hl [1, 2, 3, 4, 5, 6, 7, 0] rfl)
                    · skip
                      refine lv_aload_n hx hb d_MO_comesToAll_126 rfl (lv_at hl 0 rfl) ?_
                      refine va_get (D := (dC, dI)) (ci := 7) (v := .ref fO) (C := R_MO) (T := F_MO) (N := 15) hx hb hts in_MO hown hK.1 hP 0 rfl rfl 9 (by decide) (hts _ wfl_MO_26) (fun _ h9 => h9) rfl d_MO_comesToAll_127 ?_
                      refine lv_iload hx hb d_MO_comesToAll_130 (lv_at hl 7 rfl) ?_
                      refine x_iald (n := 41) (f := (nF Td)) (j := i) hx hb hK.1 hP 4 0 rfl rfl (by omega) (by omega) d_MO_comesToAll_132 ?_
                      refine xe_i (y := (nI (Td i))) rfl ?_
                      refine lv_iconst (v := (nI 1)) hx hb d_MO_comesToAll_133 (by decide) ?_
                      refine x_cmp_eq (a := (Td i)) (b := 1) (tgt := 157) hx hb (Nat.lt_trans (hTd _) (by decide)) (by omega) d_MO_comesToAll_134 (by decide) (fun c_17 => ?_) (fun c_17 => ?_)
                      · skip
                        refine lv_iinc (v := (nI (i + 1))) (lv' := [(7, .int (nI (i + 1))), (0, .ref o), (1, .int (nI x)), (2, .int st), (3, .int (bI false)), (4, .int sn), (5, .int (bI gb)), (6, .int n1), (8, .int (nI (F i))), (9, .int (nI (G i)))]) hx hb d_MO_comesToAll_157 hl (k := 7) rfl (nI_1 _) (by decide) rfl (fun ls hl => ?_)
                        refine lv_goto (tgt := 20) hx hb d_MO_comesToAll_160 (by decide) ?_
                        exact ih_20 n1 (i + 1) (by omega) (by first | assumption | omega) (ctJ_n hj hj1 (adI_f (fun z9 => z9.2.1 c_17))) ls (lv_sub hl [1, 2, 3, 4, 5, 6, 7, 0] rfl)
                      · skip
                        refine lv_iload hx hb d_MO_comesToAll_137 (lv_at hl 4 rfl) ?_
                        refine lv_iload hx hb d_MO_comesToAll_139 (lv_at hl 9 rfl) ?_
                        refine lv_ishr hx hb d_MO_comesToAll_141 ?_
                        refine lv_iconst (v := (nI 1)) hx hb d_MO_comesToAll_142 (by decide) ?_
                        refine lv_iand hx hb d_MO_comesToAll_143 ?_
                        refine xe_i (y := (bI (bt sn (G i)))) (sh1 (Nat.lt_trans (hG _) (by decide))) ?_
                        refine lv_iconst (v := (nI 1)) hx hb d_MO_comesToAll_144 (by decide) ?_
                        refine x_cmp1_ne (tgt := 157) hx hb d_MO_comesToAll_145 (by decide) (fun c_18 => ?_) (fun c_18 => ?_)
                        · skip
                          refine lv_iinc (v := (nI (i + 1))) (lv' := [(7, .int (nI (i + 1))), (0, .ref o), (1, .int (nI x)), (2, .int st), (3, .int (bI false)), (4, .int sn), (5, .int (bI gb)), (6, .int n1), (8, .int (nI (F i))), (9, .int (nI (G i)))]) hx hb d_MO_comesToAll_157 hl (k := 7) rfl (nI_1 _) (by decide) rfl (fun ls hl => ?_)
                          refine lv_goto (tgt := 20) hx hb d_MO_comesToAll_160 (by decide) ?_
                          exact ih_20 n1 (i + 1) (by omega) (by first | assumption | omega) (ctJ_n hj hj1 (adI_f (fun z9 => by have y9 := z9.2.2; rw [c_18] at y9; cases y9))) ls (lv_sub hl [1, 2, 3, 4, 5, 6, 7, 0] rfl)
                        · skip
                          refine lv_iload hx hb d_MO_comesToAll_148 (lv_at hl 6 rfl) ?_
                          refine lv_iconst (v := (nI 1)) hx hb d_MO_comesToAll_150 (by decide) ?_
                          refine lv_iload hx hb d_MO_comesToAll_151 (lv_at hl 8 rfl) ?_
                          refine lv_ishl hx hb d_MO_comesToAll_153 ?_
                          refine xe_i (y := (sb (F i))) rfl ?_
                          refine lv_ior hx hb d_MO_comesToAll_154 ?_
                          refine lv_istore (lv' := [(6, .int (n1 ||| (sb (F i)))), (0, .ref o), (1, .int (nI x)), (2, .int st), (3, .int (bI false)), (4, .int sn), (5, .int (bI gb)), (7, .int (nI i)), (8, .int (nI (F i))), (9, .int (nI (G i)))]) hx hb d_MO_comesToAll_155 hl (by decide) rfl (fun ls hl => ?_)
                          refine lv_iinc (v := (nI (i + 1))) (lv' := [(7, .int (nI (i + 1))), (6, .int (n1 ||| (sb (F i)))), (0, .ref o), (1, .int (nI x)), (2, .int st), (3, .int (bI false)), (4, .int sn), (5, .int (bI gb)), (8, .int (nI (F i))), (9, .int (nI (G i)))]) hx hb d_MO_comesToAll_157 hl (k := 7) rfl (nI_1 _) (by decide) rfl (fun ls hl => ?_)
                          refine lv_goto (tgt := 20) hx hb d_MO_comesToAll_160 (by decide) ?_
                          exact ih_20 (n1 ||| (sb (F i))) (i + 1) (by omega) (by first | assumption | omega) (ctJ_n hj hj1 (adI_t ⟨c_16, c_17, c_18⟩ (hF _))) ls (lv_sub hl [2, 3, 4, 5, 6, 7, 1, 0] rfl)
                  exact L116_15 nx (adI_f (fun z9 => z9.2.1 c_14)) ls (lv_sub hl [2, 3, 4, 5, 6, 7, 8, 9, 1, 0] rfl)
                · skip
                  refine lv_iload hx hb d_MO_comesToAll_96 (lv_at hl 6 rfl) ?_
                  refine lv_iload hx hb d_MO_comesToAll_98 (lv_at hl 1 rfl) ?_
                  refine lv_ishr hx hb d_MO_comesToAll_100 ?_
                  refine lv_iconst (v := (nI 1)) hx hb d_MO_comesToAll_101 (by decide) ?_
                  refine lv_iand hx hb d_MO_comesToAll_102 ?_
                  refine xe_i (y := (bI (bt sn (F i)))) (sh1 (Nat.lt_trans (hF _) (by decide))) ?_
                  refine lv_iconst (v := (nI 1)) hx hb d_MO_comesToAll_103 (by decide) ?_
                  refine x_cmp1_ne (tgt := 116) hx hb d_MO_comesToAll_104 (by decide) (fun c_19 => ?_) (fun c_19 => ?_)
                  · skip
                    have L116_20 : ∀ (n1 : Int32) (hj1 : adI (P i = true ∧ Td i ≠ 2 ∧ bt sn (F i) = true) (G i) nx n1) (ls : Array Slot) (hl : lv_has ls 10 [(0, .ref o), (1, .int (nI x)), (2, .int st), (3, .int (bI false)), (4, .int sn), (5, .int (bI gb)), (6, .int n1), (7, .int (nI i)), (8, .int (nI (F i))), (9, .int (nI (G i)))]), W p l e (headSpec (Cond.code ⟨"CutPointsModel", "comesToAll", "(IIZ)Z"⟩ prog_9_method_40_code 10 (some .boolean) :: TT) (rmk 0 0)).room s m ([.ref o, .int (nI x), .int st, .int (bI false)] : List Value).toArray below meth c s.heap [] 0 0 (MQ below (vp_Si (fun r => r = bI (dc (ctR (dE ar P Td F G) x st)))) ([.ref o, .int (nI x), .int st, .int (bI false)] : List Value).toArray s 0 0 (fun _ => False)) (F0 m 116 ls []) := by
                      intro n1 hj1 ls hl
                      refine lv_aload_n hx hb d_MO_comesToAll_116 rfl (lv_at hl 0 rfl) ?_
                      refine va_get (D := (dC, dI)) (ci := 7) (v := .ref fT) (C := R_MO) (T := F_MO) (N := 15) hx hb hts in_MO hown hK.1 hP 0 rfl rfl 5 (by decide) (hts _ wfl_MO_16) (fun _ h9 => h9) rfl d_MO_comesToAll_117 ?_
                      refine lv_iload hx hb d_MO_comesToAll_120 (lv_at hl 7 rfl) ?_
                      refine x_zald (n := 41) (f := (bF P)) (j := i) hx hb hK.1 hP 3 2 rfl rfl (by omega) (by omega) d_MO_comesToAll_122 ?_
                      refine xe_i (y := (bI (P i))) rfl ?_
                      refine x_if_eq (tgt := 157) hx hb d_MO_comesToAll_123 (by decide) (fun c_21 => ?_) (fun c_21 => ?_)
                      · skip
                        refine lv_iinc (v := (nI (i + 1))) (lv' := [(7, .int (nI (i + 1))), (0, .ref o), (1, .int (nI x)), (2, .int st), (3, .int (bI false)), (4, .int sn), (5, .int (bI gb)), (6, .int n1), (8, .int (nI (F i))), (9, .int (nI (G i)))]) hx hb d_MO_comesToAll_157 hl (k := 7) rfl (nI_1 _) (by decide) rfl (fun ls hl => ?_)
                        refine lv_goto (tgt := 20) hx hb d_MO_comesToAll_160 (by decide) ?_
                        exact ih_20 n1 (i + 1) (by omega) (by first | assumption | omega) (ctJ_n hj hj1 (adI_f (fun z9 => by have y9 := z9.1; rw [c_21] at y9; cases y9))) ls (lv_sub hl [1, 2, 3, 4, 5, 6, 7, 0] rfl)
                      · skip
                        refine lv_aload_n hx hb d_MO_comesToAll_126 rfl (lv_at hl 0 rfl) ?_
                        refine va_get (D := (dC, dI)) (ci := 7) (v := .ref fO) (C := R_MO) (T := F_MO) (N := 15) hx hb hts in_MO hown hK.1 hP 0 rfl rfl 9 (by decide) (hts _ wfl_MO_26) (fun _ h9 => h9) rfl d_MO_comesToAll_127 ?_
                        refine lv_iload hx hb d_MO_comesToAll_130 (lv_at hl 7 rfl) ?_
                        refine x_iald (n := 41) (f := (nF Td)) (j := i) hx hb hK.1 hP 4 0 rfl rfl (by omega) (by omega) d_MO_comesToAll_132 ?_
                        refine xe_i (y := (nI (Td i))) rfl ?_
                        refine lv_iconst (v := (nI 1)) hx hb d_MO_comesToAll_133 (by decide) ?_
                        refine x_cmp_eq (a := (Td i)) (b := 1) (tgt := 157) hx hb (Nat.lt_trans (hTd _) (by decide)) (by omega) d_MO_comesToAll_134 (by decide) (fun c_22 => ?_) (fun c_22 => ?_)
                        · skip
                          refine lv_iinc (v := (nI (i + 1))) (lv' := [(7, .int (nI (i + 1))), (0, .ref o), (1, .int (nI x)), (2, .int st), (3, .int (bI false)), (4, .int sn), (5, .int (bI gb)), (6, .int n1), (8, .int (nI (F i))), (9, .int (nI (G i)))]) hx hb d_MO_comesToAll_157 hl (k := 7) rfl (nI_1 _) (by decide) rfl (fun ls hl => ?_)
                          refine lv_goto (tgt := 20) hx hb d_MO_comesToAll_160 (by decide) ?_
                          exact ih_20 n1 (i + 1) (by omega) (by first | assumption | omega) (ctJ_n hj hj1 (adI_f (fun z9 => z9.2.1 c_22))) ls (lv_sub hl [1, 2, 3, 4, 5, 6, 7, 0] rfl)
                        · skip
                          refine lv_iload hx hb d_MO_comesToAll_137 (lv_at hl 4 rfl) ?_
                          refine lv_iload hx hb d_MO_comesToAll_139 (lv_at hl 9 rfl) ?_
                          refine lv_ishr hx hb d_MO_comesToAll_141 ?_
                          refine lv_iconst (v := (nI 1)) hx hb d_MO_comesToAll_142 (by decide) ?_
                          refine lv_iand hx hb d_MO_comesToAll_143 ?_
                          refine xe_i (y := (bI (bt sn (G i)))) (sh1 (Nat.lt_trans (hG _) (by decide))) ?_
                          refine lv_iconst (v := (nI 1)) hx hb d_MO_comesToAll_144 (by decide) ?_
                          refine x_cmp1_ne (tgt := 157) hx hb d_MO_comesToAll_145 (by decide) (fun c_23 => ?_) (fun c_23 => ?_)
                          · skip
                            refine lv_iinc (v := (nI (i + 1))) (lv' := [(7, .int (nI (i + 1))), (0, .ref o), (1, .int (nI x)), (2, .int st), (3, .int (bI false)), (4, .int sn), (5, .int (bI gb)), (6, .int n1), (8, .int (nI (F i))), (9, .int (nI (G i)))]) hx hb d_MO_comesToAll_157 hl (k := 7) rfl (nI_1 _) (by decide) rfl (fun ls hl => ?_)
                            refine lv_goto (tgt := 20) hx hb d_MO_comesToAll_160 (by decide) ?_
                            exact ih_20 n1 (i + 1) (by omega) (by first | assumption | omega) (ctJ_n hj hj1 (adI_f (fun z9 => by have y9 := z9.2.2; rw [c_23] at y9; cases y9))) ls (lv_sub hl [1, 2, 3, 4, 5, 6, 7, 0] rfl)
                          · skip
                            refine lv_iload hx hb d_MO_comesToAll_148 (lv_at hl 6 rfl) ?_
                            refine lv_iconst (v := (nI 1)) hx hb d_MO_comesToAll_150 (by decide) ?_
                            refine lv_iload hx hb d_MO_comesToAll_151 (lv_at hl 8 rfl) ?_
                            refine lv_ishl hx hb d_MO_comesToAll_153 ?_
                            refine xe_i (y := (sb (F i))) rfl ?_
                            refine lv_ior hx hb d_MO_comesToAll_154 ?_
                            refine lv_istore (lv' := [(6, .int (n1 ||| (sb (F i)))), (0, .ref o), (1, .int (nI x)), (2, .int st), (3, .int (bI false)), (4, .int sn), (5, .int (bI gb)), (7, .int (nI i)), (8, .int (nI (F i))), (9, .int (nI (G i)))]) hx hb d_MO_comesToAll_155 hl (by decide) rfl (fun ls hl => ?_)
                            refine lv_iinc (v := (nI (i + 1))) (lv' := [(7, .int (nI (i + 1))), (6, .int (n1 ||| (sb (F i)))), (0, .ref o), (1, .int (nI x)), (2, .int st), (3, .int (bI false)), (4, .int sn), (5, .int (bI gb)), (8, .int (nI (F i))), (9, .int (nI (G i)))]) hx hb d_MO_comesToAll_157 hl (k := 7) rfl (nI_1 _) (by decide) rfl (fun ls hl => ?_)
                            refine lv_goto (tgt := 20) hx hb d_MO_comesToAll_160 (by decide) ?_
                            exact ih_20 (n1 ||| (sb (F i))) (i + 1) (by omega) (by first | assumption | omega) (ctJ_n hj hj1 (adI_t ⟨c_21, c_22, c_23⟩ (hF _))) ls (lv_sub hl [2, 3, 4, 5, 6, 7, 1, 0] rfl)
                    exact L116_20 nx (adI_f (fun z9 => by have y9 := z9.2.2; rw [c_19] at y9; cases y9)) ls (lv_sub hl [2, 3, 4, 5, 6, 7, 8, 9, 1, 0] rfl)
                  · skip
                    refine lv_iload hx hb d_MO_comesToAll_107 (lv_at hl 8 rfl) ?_
                    refine lv_iconst (v := (nI 1)) hx hb d_MO_comesToAll_109 (by decide) ?_
                    refine lv_iload hx hb d_MO_comesToAll_110 (lv_at hl 0 rfl) ?_
                    refine lv_ishl hx hb d_MO_comesToAll_112 ?_
                    refine xe_i (y := (sb (G i))) rfl ?_
                    refine lv_ior hx hb d_MO_comesToAll_113 ?_
                    refine lv_istore (lv' := [(6, .int (nx ||| (sb (G i)))), (9, .int (nI (G i))), (8, .int (nI (F i))), (0, .ref o), (1, .int (nI x)), (2, .int st), (3, .int (bI false)), (4, .int sn), (5, .int (bI gb)), (7, .int (nI i))]) hx hb d_MO_comesToAll_114 hl (by decide) rfl (fun ls hl => ?_)
                    have L116_24 : ∀ (n1 : Int32) (hj1 : adI (P i = true ∧ Td i ≠ 2 ∧ bt sn (F i) = true) (G i) nx n1) (ls : Array Slot) (hl : lv_has ls 10 [(0, .ref o), (1, .int (nI x)), (2, .int st), (3, .int (bI false)), (4, .int sn), (5, .int (bI gb)), (6, .int n1), (7, .int (nI i)), (8, .int (nI (F i))), (9, .int (nI (G i)))]), W p l e (headSpec (Cond.code ⟨"CutPointsModel", "comesToAll", "(IIZ)Z"⟩ prog_9_method_40_code 10 (some .boolean) :: TT) (rmk 0 0)).room s m ([.ref o, .int (nI x), .int st, .int (bI false)] : List Value).toArray below meth c s.heap [] 0 0 (MQ below (vp_Si (fun r => r = bI (dc (ctR (dE ar P Td F G) x st)))) ([.ref o, .int (nI x), .int st, .int (bI false)] : List Value).toArray s 0 0 (fun _ => False)) (F0 m 116 ls []) := by
                      intro n1 hj1 ls hl
                      refine lv_aload_n hx hb d_MO_comesToAll_116 rfl (lv_at hl 0 rfl) ?_
                      refine va_get (D := (dC, dI)) (ci := 7) (v := .ref fT) (C := R_MO) (T := F_MO) (N := 15) hx hb hts in_MO hown hK.1 hP 0 rfl rfl 5 (by decide) (hts _ wfl_MO_16) (fun _ h9 => h9) rfl d_MO_comesToAll_117 ?_
                      refine lv_iload hx hb d_MO_comesToAll_120 (lv_at hl 7 rfl) ?_
                      refine x_zald (n := 41) (f := (bF P)) (j := i) hx hb hK.1 hP 3 2 rfl rfl (by omega) (by omega) d_MO_comesToAll_122 ?_
                      refine xe_i (y := (bI (P i))) rfl ?_
                      refine x_if_eq (tgt := 157) hx hb d_MO_comesToAll_123 (by decide) (fun c_25 => ?_) (fun c_25 => ?_)
                      · skip
                        refine lv_iinc (v := (nI (i + 1))) (lv' := [(7, .int (nI (i + 1))), (0, .ref o), (1, .int (nI x)), (2, .int st), (3, .int (bI false)), (4, .int sn), (5, .int (bI gb)), (6, .int n1), (8, .int (nI (F i))), (9, .int (nI (G i)))]) hx hb d_MO_comesToAll_157 hl (k := 7) rfl (nI_1 _) (by decide) rfl (fun ls hl => ?_)
                        refine lv_goto (tgt := 20) hx hb d_MO_comesToAll_160 (by decide) ?_
                        exact ih_20 n1 (i + 1) (by omega) (by first | assumption | omega) (ctJ_n hj hj1 (adI_f (fun z9 => by have y9 := z9.1; rw [c_25] at y9; cases y9))) ls (lv_sub hl [1, 2, 3, 4, 5, 6, 7, 0] rfl)
                      · skip
                        refine lv_aload_n hx hb d_MO_comesToAll_126 rfl (lv_at hl 0 rfl) ?_
                        refine va_get (D := (dC, dI)) (ci := 7) (v := .ref fO) (C := R_MO) (T := F_MO) (N := 15) hx hb hts in_MO hown hK.1 hP 0 rfl rfl 9 (by decide) (hts _ wfl_MO_26) (fun _ h9 => h9) rfl d_MO_comesToAll_127 ?_
                        refine lv_iload hx hb d_MO_comesToAll_130 (lv_at hl 7 rfl) ?_
                        refine x_iald (n := 41) (f := (nF Td)) (j := i) hx hb hK.1 hP 4 0 rfl rfl (by omega) (by omega) d_MO_comesToAll_132 ?_
                        refine xe_i (y := (nI (Td i))) rfl ?_
                        refine lv_iconst (v := (nI 1)) hx hb d_MO_comesToAll_133 (by decide) ?_
                        refine x_cmp_eq (a := (Td i)) (b := 1) (tgt := 157) hx hb (Nat.lt_trans (hTd _) (by decide)) (by omega) d_MO_comesToAll_134 (by decide) (fun c_26 => ?_) (fun c_26 => ?_)
                        · skip
                          refine lv_iinc (v := (nI (i + 1))) (lv' := [(7, .int (nI (i + 1))), (0, .ref o), (1, .int (nI x)), (2, .int st), (3, .int (bI false)), (4, .int sn), (5, .int (bI gb)), (6, .int n1), (8, .int (nI (F i))), (9, .int (nI (G i)))]) hx hb d_MO_comesToAll_157 hl (k := 7) rfl (nI_1 _) (by decide) rfl (fun ls hl => ?_)
                          refine lv_goto (tgt := 20) hx hb d_MO_comesToAll_160 (by decide) ?_
                          exact ih_20 n1 (i + 1) (by omega) (by first | assumption | omega) (ctJ_n hj hj1 (adI_f (fun z9 => z9.2.1 c_26))) ls (lv_sub hl [1, 2, 3, 4, 5, 6, 7, 0] rfl)
                        · skip
                          refine lv_iload hx hb d_MO_comesToAll_137 (lv_at hl 4 rfl) ?_
                          refine lv_iload hx hb d_MO_comesToAll_139 (lv_at hl 9 rfl) ?_
                          refine lv_ishr hx hb d_MO_comesToAll_141 ?_
                          refine lv_iconst (v := (nI 1)) hx hb d_MO_comesToAll_142 (by decide) ?_
                          refine lv_iand hx hb d_MO_comesToAll_143 ?_
                          refine xe_i (y := (bI (bt sn (G i)))) (sh1 (Nat.lt_trans (hG _) (by decide))) ?_
                          refine lv_iconst (v := (nI 1)) hx hb d_MO_comesToAll_144 (by decide) ?_
                          refine x_cmp1_ne (tgt := 157) hx hb d_MO_comesToAll_145 (by decide) (fun c_27 => ?_) (fun c_27 => ?_)
                          · skip
                            refine lv_iinc (v := (nI (i + 1))) (lv' := [(7, .int (nI (i + 1))), (0, .ref o), (1, .int (nI x)), (2, .int st), (3, .int (bI false)), (4, .int sn), (5, .int (bI gb)), (6, .int n1), (8, .int (nI (F i))), (9, .int (nI (G i)))]) hx hb d_MO_comesToAll_157 hl (k := 7) rfl (nI_1 _) (by decide) rfl (fun ls hl => ?_)
                            refine lv_goto (tgt := 20) hx hb d_MO_comesToAll_160 (by decide) ?_
                            exact ih_20 n1 (i + 1) (by omega) (by first | assumption | omega) (ctJ_n hj hj1 (adI_f (fun z9 => by have y9 := z9.2.2; rw [c_27] at y9; cases y9))) ls (lv_sub hl [1, 2, 3, 4, 5, 6, 7, 0] rfl)
                          · skip
                            refine lv_iload hx hb d_MO_comesToAll_148 (lv_at hl 6 rfl) ?_
                            refine lv_iconst (v := (nI 1)) hx hb d_MO_comesToAll_150 (by decide) ?_
                            refine lv_iload hx hb d_MO_comesToAll_151 (lv_at hl 8 rfl) ?_
                            refine lv_ishl hx hb d_MO_comesToAll_153 ?_
                            refine xe_i (y := (sb (F i))) rfl ?_
                            refine lv_ior hx hb d_MO_comesToAll_154 ?_
                            refine lv_istore (lv' := [(6, .int (n1 ||| (sb (F i)))), (0, .ref o), (1, .int (nI x)), (2, .int st), (3, .int (bI false)), (4, .int sn), (5, .int (bI gb)), (7, .int (nI i)), (8, .int (nI (F i))), (9, .int (nI (G i)))]) hx hb d_MO_comesToAll_155 hl (by decide) rfl (fun ls hl => ?_)
                            refine lv_iinc (v := (nI (i + 1))) (lv' := [(7, .int (nI (i + 1))), (6, .int (n1 ||| (sb (F i)))), (0, .ref o), (1, .int (nI x)), (2, .int st), (3, .int (bI false)), (4, .int sn), (5, .int (bI gb)), (8, .int (nI (F i))), (9, .int (nI (G i)))]) hx hb d_MO_comesToAll_157 hl (k := 7) rfl (nI_1 _) (by decide) rfl (fun ls hl => ?_)
                            refine lv_goto (tgt := 20) hx hb d_MO_comesToAll_160 (by decide) ?_
                            exact ih_20 (n1 ||| (sb (F i))) (i + 1) (by omega) (by first | assumption | omega) (ctJ_n hj hj1 (adI_t ⟨c_25, c_26, c_27⟩ (hF _))) ls (lv_sub hl [2, 3, 4, 5, 6, 7, 1, 0] rfl)
                    exact L116_24 (nx ||| (sb (G i))) (adI_t ⟨c_9, c_14, c_19⟩ (hG _)) ls (lv_sub hl [3, 4, 5, 6, 7, 8, 0, 9, 2, 1] rfl)
        exact L20_4 ((ar - 0) + 1) sn 0 (Nat.lt_succ_self _) (by first | assumption | omega) (ctJ_0 P Td F G sn) ls (lv_sub hl [2, 3, 4, 5, 6, 7, 1, 0] rfl)
  exact L8_1 ((2 * (32 - cn (bt (sb x)) 32) + true.toNat) + 1) (sb x) true (Nat.lt_succ_self _) (ctO_0 hx14) ls (lv_sub hl [2, 3, 4, 5, 1, 0] rfl)

set_option maxHeartbeats 4000000 in
set_option maxRecDepth 100000 in
theorem c_MO_comesToAll_b (l : Launch) (dC : Nat → ClassId) (dI : Nat → Nat → Nat) (cI cJ cZ : ClassId) (o fF fG fT fN fW fO fB fS fD : Nat) (th be bz sz : Int32) (nd ar : Nat) (F G : Nat → Nat) (P : Nat → Bool) (hF : ∀ k, F k < 14) (hG : ∀ k, G k < 14) (hnd : nd ≤ 14) (har : ar ≤ 40) (Td : Nat → Nat) (hTd : ∀ k, Td k < 3) (x : Nat) (hx14 : x < 14) (st : Int32) : Met l ⟨"CutPointsModel", "comesToAll", "(IIZ)Z"⟩ (Cond.code ⟨"CutPointsModel", "comesToAll", "(IIZ)Z"⟩ prog_9_method_40_code 10 (some .boolean) :: TT) (rmk 0 0) (PR dC dI cI cJ cZ [.ref o, .int (nI x), .int st, .int (bI true)] [(o, .inr (7, [.int th, .int (nI nd), .int (nI ar), .ref fF, .ref fG, .ref fT, .ref fN, .ref fW, .int be, .ref fO, .ref fB, .int bz, .ref fS, .ref fD, .int sz])), (fF, .inl (cI, 41, .inl (nF F))), (fG, .inl (cI, 41, .inl (nF G))), (fT, .inl (cZ, 41, .inl (bF P))), (fO, .inl (cI, 41, .inl (nF Td)))]) (vp_Si (fun r => r = bI (dc (ctR (dE ar P Td G F) x st)))) 0 0 (fun _ => False) := by
  refine Met.ofW (cc := prog_9_method_40_code) (maxL := 10) (ret := (some .boolean)) (by decide) rfl ?_
  intro p e s m args below meth c s₁ BB9 hml hv
  obtain ⟨rfl, hP, hK⟩ := hv
  have hx := BB9.exec
  have hb := BB9.bytes
  have hr := BB9.returns
  have hts : ∀ w ∈ TT, w.before _ s = true := fun w h => atoms_spec (ws := (Cond.code ⟨"CutPointsModel", "comesToAll", "(IIZ)Z"⟩ prog_9_method_40_code 10 (some .boolean) :: TT)) BB9.pre w (List.mem_cons_of_mem _ h)
  have hown : s.vm.findClass "CutPointsModel" = some m.cls := findClass_of_methodNamed BB9.named
  have hlocks := BB9.notSynchronized
  have hl := lv_entry ([.ref o, .int (nI x), .int st, .int (bI true)]) (n := 10) (Nat.le_of_ble_eq_true rfl)
  rw [lg_entry_eq]
  generalize (lg_sl ([.ref o, .int (nI x), .int st, .int (bI true)]) ++ List.replicate (10 - (lg_sl ([.ref o, .int (nI x), .int st, .int (bI true)])).length) Slot.unset).toArray = ls at hl ⊢
  have hl : lv_has ls 10 [(0, .ref o), (1, .int (nI x)), (2, .int st), (3, .int (bI true))] := hl
  refine lv_iconst (v := (nI 1)) hx hb d_MO_comesToAll_0 (by decide) ?_
  refine lv_iload_n hx hb d_MO_comesToAll_1 rfl (lv_at hl 1 rfl) ?_
  refine lv_ishl hx hb d_MO_comesToAll_2 ?_
  refine xe_i (y := (sb x)) rfl ?_
  refine lv_istore (lv' := [(4, .int (sb x)), (0, .ref o), (1, .int (nI x)), (2, .int st), (3, .int (bI true))]) hx hb d_MO_comesToAll_3 hl (by decide) rfl (fun ls hl => ?_)
  refine lv_iconst (v := (nI 1)) hx hb d_MO_comesToAll_5 (by decide) ?_
  refine lv_istore (lv' := [(5, .int (nI 1)), (4, .int (sb x)), (0, .ref o), (1, .int (nI x)), (2, .int st), (3, .int (bI true))]) hx hb d_MO_comesToAll_6 hl (by decide) rfl (fun ls hl => ?_)
  have L8_1 : ∀ (n : Nat) (sn : Int32) (gb : Bool) (hn : 2 * (32 - cn (bt sn) 32) + gb.toNat < n) (ho : ctO (dE ar P Td G F) x sn gb) (ls : Array Slot) (hl : lv_has ls 10 [(0, .ref o), (1, .int (nI x)), (2, .int st), (3, .int (bI true)), (4, .int sn), (5, .int (bI gb))]), W p l e (headSpec (Cond.code ⟨"CutPointsModel", "comesToAll", "(IIZ)Z"⟩ prog_9_method_40_code 10 (some .boolean) :: TT) (rmk 0 0)).room s m ([.ref o, .int (nI x), .int st, .int (bI true)] : List Value).toArray below meth c s.heap [] 0 0 (MQ below (vp_Si (fun r => r = bI (dc (ctR (dE ar P Td G F) x st)))) ([.ref o, .int (nI x), .int st, .int (bI true)] : List Value).toArray s 0 0 (fun _ => False)) (F0 m 8 ls []) := by
    intro n_8
    induction n_8 with
    | zero =>
      intro sn gb hn_8
      exact absurd hn_8 (Nat.not_lt_zero _)
    | succ n_8 ih_8 =>
      intro sn gb hn_8 ho ls hl
      refine lv_iload hx hb d_MO_comesToAll_8 (lv_at hl 5 rfl) ?_
      refine x_if_eq (tgt := 184) hx hb d_MO_comesToAll_10 (by decide) (fun c_2 => ?_) (fun c_2 => ?_)
      · skip
        refine lv_iload_n hx hb d_MO_comesToAll_184 rfl (lv_at hl 2 rfl) ?_
        refine lv_iload hx hb d_MO_comesToAll_185 (lv_at hl 4 rfl) ?_
        refine lv_iconst (v := (-1)) hx hb d_MO_comesToAll_187 (by decide) ?_
        refine lv_ixor hx hb d_MO_comesToAll_188 ?_
        refine lv_iand hx hb d_MO_comesToAll_189 ?_
        refine lv_if_ne (tgt := 197) hx hb d_MO_comesToAll_190 (by decide) (fun c_3 => ?_) (fun c_3 => ?_)
        · skip
          refine lv_iconst (v := (nI 0)) hx hb d_MO_comesToAll_197 (by decide) ?_
          refine xe_i (y := bI false) rfl ?_
          exact W.zret (v := (bI false)) hx hb hr (bI_nar _) (fun t9 ht9 _ => ⟨_, rfl, (by rw [dc_f.mpr (fun z9 => c_3 ((ctO_e ho c_2).mpr z9))]), ht9⟩) t_nil d_MO_comesToAll_198
        · skip
          refine lv_iconst (v := (nI 1)) hx hb d_MO_comesToAll_193 (by decide) ?_
          refine lv_goto (tgt := 198) hx hb d_MO_comesToAll_194 (by decide) ?_
          refine xe_i (y := bI true) rfl ?_
          exact W.zret (v := (bI true)) hx hb hr (bI_nar _) (fun t9 ht9 _ => ⟨_, rfl, (by rw [dc_t.mpr ((ctO_e ho c_2).mp c_3)]), ht9⟩) t_nil d_MO_comesToAll_198
      · skip
        refine lv_iload hx hb d_MO_comesToAll_13 (lv_at hl 4 rfl) ?_
        refine lv_istore (lv' := [(6, .int sn), (0, .ref o), (1, .int (nI x)), (2, .int st), (3, .int (bI true)), (4, .int sn), (5, .int (bI gb))]) hx hb d_MO_comesToAll_15 hl (by decide) rfl (fun ls hl => ?_)
        refine lv_iconst (v := (nI 0)) hx hb d_MO_comesToAll_17 (by decide) ?_
        refine lv_istore (lv' := [(7, .int (nI 0)), (6, .int sn), (0, .ref o), (1, .int (nI x)), (2, .int st), (3, .int (bI true)), (4, .int sn), (5, .int (bI gb))]) hx hb d_MO_comesToAll_18 hl (by decide) rfl (fun ls hl => ?_)
        have L20_4 : ∀ (n : Nat) (nx : Int32) (i : Nat) (hn : ar - i < n) (hi : i ≤ ar) (hj : ctJ P Td G F sn nx i) (ls : Array Slot) (hl : lv_has ls 10 [(0, .ref o), (1, .int (nI x)), (2, .int st), (3, .int (bI true)), (4, .int sn), (5, .int (bI gb)), (6, .int nx), (7, .int (nI i))]), W p l e (headSpec (Cond.code ⟨"CutPointsModel", "comesToAll", "(IIZ)Z"⟩ prog_9_method_40_code 10 (some .boolean) :: TT) (rmk 0 0)).room s m ([.ref o, .int (nI x), .int st, .int (bI true)] : List Value).toArray below meth c s.heap [] 0 0 (MQ below (vp_Si (fun r => r = bI (dc (ctR (dE ar P Td G F) x st)))) ([.ref o, .int (nI x), .int st, .int (bI true)] : List Value).toArray s 0 0 (fun _ => False)) (F0 m 20 ls []) := by
          intro n_20
          induction n_20 with
          | zero =>
            intro nx i hn_20
            exact absurd hn_20 (Nat.not_lt_zero _)
          | succ n_20 ih_20 =>
            intro nx i hn_20 hi hj ls hl
            refine lv_iload hx hb d_MO_comesToAll_20 (lv_at hl 7 rfl) ?_
            refine lv_aload_n hx hb d_MO_comesToAll_22 rfl (lv_at hl 0 rfl) ?_
            refine va_get (D := (dC, dI)) (ci := 7) (v := .int (nI ar)) (C := R_MO) (T := F_MO) (N := 15) hx hb hts in_MO hown hK.1 hP 0 rfl rfl 2 (by decide) (hts _ wfl_MO_45) (fun _ h9 => h9) rfl d_MO_comesToAll_23 ?_
            refine x_cmp_ge (a := i) (b := ar) (tgt := 163) hx hb (by omega) (by omega) d_MO_comesToAll_26 (by decide) (fun c_5 => ?_) (fun c_5 => ?_)
            · skip
              refine lv_iload hx hb d_MO_comesToAll_163 (lv_at hl 6 rfl) ?_
              refine lv_iload hx hb d_MO_comesToAll_165 (lv_at hl 4 rfl) ?_
              refine lv_icmp_eq (tgt := 174) hx hb d_MO_comesToAll_167 (by decide) (fun c_6 => ?_) (fun c_6 => ?_)
              · skip
                refine lv_iconst (v := (nI 0)) hx hb d_MO_comesToAll_174 (by decide) ?_
                refine lv_istore (lv' := [(5, .int (nI 0)), (0, .ref o), (1, .int (nI x)), (2, .int st), (3, .int (bI true)), (4, .int sn), (6, .int nx), (7, .int (nI i))]) hx hb d_MO_comesToAll_175 hl (by decide) rfl (fun ls hl => ?_)
                refine lv_iload hx hb d_MO_comesToAll_177 (lv_at hl 6 rfl) ?_
                refine lv_istore (lv' := [(4, .int nx), (5, .int (nI 0)), (0, .ref o), (1, .int (nI x)), (2, .int st), (3, .int (bI true)), (6, .int nx), (7, .int (nI i))]) hx hb d_MO_comesToAll_179 hl (by decide) rfl (fun ls hl => ?_)
                refine lv_goto (tgt := 8) hx hb d_MO_comesToAll_181 (by decide) ?_
                exact ih_8 nx false (rc_d1 hn_8 c_2 c_6) (ctO_n ho hj (by omega) (fun _ => c_6)) ls (lv_sub hl [2, 3, 4, 5, 0, 1] rfl)
              · skip
                refine lv_iconst (v := (nI 1)) hx hb d_MO_comesToAll_170 (by decide) ?_
                refine lv_goto (tgt := 175) hx hb d_MO_comesToAll_171 (by decide) ?_
                refine lv_istore (lv' := [(5, .int (nI 1)), (0, .ref o), (1, .int (nI x)), (2, .int st), (3, .int (bI true)), (4, .int sn), (6, .int nx), (7, .int (nI i))]) hx hb d_MO_comesToAll_175 hl (by decide) rfl (fun ls hl => ?_)
                refine lv_iload hx hb d_MO_comesToAll_177 (lv_at hl 6 rfl) ?_
                refine lv_istore (lv' := [(4, .int nx), (5, .int (nI 1)), (0, .ref o), (1, .int (nI x)), (2, .int st), (3, .int (bI true)), (6, .int nx), (7, .int (nI i))]) hx hb d_MO_comesToAll_179 hl (by decide) rfl (fun ls hl => ?_)
                refine lv_goto (tgt := 8) hx hb d_MO_comesToAll_181 (by decide) ?_
                exact ih_8 nx true (ct_d2 hn_8 c_2 hj c_6) (ctO_n ho hj (by omega) (fun q9 => by cases q9)) ls (lv_sub hl [2, 3, 4, 5, 0, 1] rfl)
            · skip
              refine lv_iload_n hx hb d_MO_comesToAll_29 rfl (lv_at hl 3 rfl) ?_
              refine lv_if_eq (tgt := 43) hx hb d_MO_comesToAll_30 (by decide) (fun c9 => absurd c9 (by decide : ¬ ((bI true) : Int32) = 0)) (fun _ => ?_)
              refine lv_aload_n hx hb d_MO_comesToAll_33 rfl (lv_at hl 0 rfl) ?_
              refine va_get (D := (dC, dI)) (ci := 7) (v := .ref fG) (C := R_MO) (T := F_MO) (N := 15) hx hb hts in_MO hown hK.1 hP 0 rfl rfl 4 (by decide) (hts _ wfl_MO_13) (fun _ h9 => h9) rfl d_MO_comesToAll_34 ?_
              refine lv_iload hx hb d_MO_comesToAll_37 (lv_at hl 7 rfl) ?_
              refine x_iald (n := 41) (f := (nF G)) (j := i) hx hb hK.1 hP 2 0 rfl rfl (by omega) (by omega) d_MO_comesToAll_39 ?_
              refine xe_i (y := (nI (G i))) rfl ?_
              refine lv_goto (tgt := 50) hx hb d_MO_comesToAll_40 (by decide) ?_
              refine lv_istore (lv' := [(8, .int (nI (G i))), (0, .ref o), (1, .int (nI x)), (2, .int st), (3, .int (bI true)), (4, .int sn), (5, .int (bI gb)), (6, .int nx), (7, .int (nI i))]) hx hb d_MO_comesToAll_50 hl (by decide) rfl (fun ls hl => ?_)
              refine lv_iload_n hx hb d_MO_comesToAll_52 rfl (lv_at hl 4 rfl) ?_
              refine lv_if_eq (tgt := 66) hx hb d_MO_comesToAll_53 (by decide) (fun c9 => absurd c9 (by decide : ¬ ((bI true) : Int32) = 0)) (fun _ => ?_)
              refine lv_aload_n hx hb d_MO_comesToAll_56 rfl (lv_at hl 1 rfl) ?_
              refine va_get (D := (dC, dI)) (ci := 7) (v := .ref fF) (C := R_MO) (T := F_MO) (N := 15) hx hb hts in_MO hown hK.1 hP 0 rfl rfl 3 (by decide) (hts _ wfl_MO_7) (fun _ h9 => h9) rfl d_MO_comesToAll_57 ?_
              refine lv_iload hx hb d_MO_comesToAll_60 (lv_at hl 8 rfl) ?_
              refine x_iald (n := 41) (f := (nF F)) (j := i) hx hb hK.1 hP 1 0 rfl rfl (by omega) (by omega) d_MO_comesToAll_62 ?_
              refine xe_i (y := (nI (F i))) rfl ?_
              refine lv_goto (tgt := 73) hx hb d_MO_comesToAll_63 (by decide) ?_
              refine lv_istore (lv' := [(9, .int (nI (F i))), (8, .int (nI (G i))), (0, .ref o), (1, .int (nI x)), (2, .int st), (3, .int (bI true)), (4, .int sn), (5, .int (bI gb)), (6, .int nx), (7, .int (nI i))]) hx hb d_MO_comesToAll_73 hl (by decide) rfl (fun ls hl => ?_)
              refine lv_aload_n hx hb d_MO_comesToAll_75 rfl (lv_at hl 2 rfl) ?_
              refine va_get (D := (dC, dI)) (ci := 7) (v := .ref fT) (C := R_MO) (T := F_MO) (N := 15) hx hb hts in_MO hown hK.1 hP 0 rfl rfl 5 (by decide) (hts _ wfl_MO_16) (fun _ h9 => h9) rfl d_MO_comesToAll_76 ?_
              refine lv_iload hx hb d_MO_comesToAll_79 (lv_at hl 9 rfl) ?_
              refine x_zald (n := 41) (f := (bF P)) (j := i) hx hb hK.1 hP 3 2 rfl rfl (by omega) (by omega) d_MO_comesToAll_81 ?_
              refine xe_i (y := (bI (P i))) rfl ?_
              refine x_if_eq (tgt := 116) hx hb d_MO_comesToAll_82 (by decide) (fun c_9 => ?_) (fun c_9 => ?_)
              · skip
                have L116_10 : ∀ (n1 : Int32) (hj1 : adI (P i = true ∧ Td i ≠ 2 ∧ bt sn (G i) = true) (F i) nx n1) (ls : Array Slot) (hl : lv_has ls 10 [(0, .ref o), (1, .int (nI x)), (2, .int st), (3, .int (bI true)), (4, .int sn), (5, .int (bI gb)), (6, .int n1), (7, .int (nI i)), (8, .int (nI (G i))), (9, .int (nI (F i)))]), W p l e (headSpec (Cond.code ⟨"CutPointsModel", "comesToAll", "(IIZ)Z"⟩ prog_9_method_40_code 10 (some .boolean) :: TT) (rmk 0 0)).room s m ([.ref o, .int (nI x), .int st, .int (bI true)] : List Value).toArray below meth c s.heap [] 0 0 (MQ below (vp_Si (fun r => r = bI (dc (ctR (dE ar P Td G F) x st)))) ([.ref o, .int (nI x), .int st, .int (bI true)] : List Value).toArray s 0 0 (fun _ => False)) (F0 m 116 ls []) := by
                  intro n1 hj1 ls hl
                  refine lv_aload_n hx hb d_MO_comesToAll_116 rfl (lv_at hl 0 rfl) ?_
                  refine va_get (D := (dC, dI)) (ci := 7) (v := .ref fT) (C := R_MO) (T := F_MO) (N := 15) hx hb hts in_MO hown hK.1 hP 0 rfl rfl 5 (by decide) (hts _ wfl_MO_16) (fun _ h9 => h9) rfl d_MO_comesToAll_117 ?_
                  refine lv_iload hx hb d_MO_comesToAll_120 (lv_at hl 7 rfl) ?_
                  refine x_zald (n := 41) (f := (bF P)) (j := i) hx hb hK.1 hP 3 2 rfl rfl (by omega) (by omega) d_MO_comesToAll_122 ?_
                  refine xe_i (y := (bI (P i))) rfl ?_
                  refine x_if_eq (tgt := 157) hx hb d_MO_comesToAll_123 (by decide) (fun c_11 => ?_) (fun c_11 => ?_)
                  · skip
                    refine lv_iinc (v := (nI (i + 1))) (lv' := [(7, .int (nI (i + 1))), (0, .ref o), (1, .int (nI x)), (2, .int st), (3, .int (bI true)), (4, .int sn), (5, .int (bI gb)), (6, .int n1), (8, .int (nI (G i))), (9, .int (nI (F i)))]) hx hb d_MO_comesToAll_157 hl (k := 7) rfl (nI_1 _) (by decide) rfl (fun ls hl => ?_)
                    refine lv_goto (tgt := 20) hx hb d_MO_comesToAll_160 (by decide) ?_
                    exact ih_20 n1 (i + 1) (by omega) (by first | assumption | omega) (ctJ_n hj hj1 (adI_f (fun z9 => by have y9 := z9.1; rw [c_11] at y9; cases y9))) ls (lv_sub hl [1, 2, 3, 4, 5, 6, 7, 0] rfl)
                  · skip
                    refine lv_aload_n hx hb d_MO_comesToAll_126 rfl (lv_at hl 0 rfl) ?_
                    refine va_get (D := (dC, dI)) (ci := 7) (v := .ref fO) (C := R_MO) (T := F_MO) (N := 15) hx hb hts in_MO hown hK.1 hP 0 rfl rfl 9 (by decide) (hts _ wfl_MO_26) (fun _ h9 => h9) rfl d_MO_comesToAll_127 ?_
                    refine lv_iload hx hb d_MO_comesToAll_130 (lv_at hl 7 rfl) ?_
                    refine x_iald (n := 41) (f := (nF Td)) (j := i) hx hb hK.1 hP 4 0 rfl rfl (by omega) (by omega) d_MO_comesToAll_132 ?_
                    refine xe_i (y := (nI (Td i))) rfl ?_
                    refine lv_iconst (v := (nI 1)) hx hb d_MO_comesToAll_133 (by decide) ?_
                    refine x_cmp_eq (a := (Td i)) (b := 1) (tgt := 157) hx hb (Nat.lt_trans (hTd _) (by decide)) (by omega) d_MO_comesToAll_134 (by decide) (fun c_12 => ?_) (fun c_12 => ?_)
                    · skip
                      refine lv_iinc (v := (nI (i + 1))) (lv' := [(7, .int (nI (i + 1))), (0, .ref o), (1, .int (nI x)), (2, .int st), (3, .int (bI true)), (4, .int sn), (5, .int (bI gb)), (6, .int n1), (8, .int (nI (G i))), (9, .int (nI (F i)))]) hx hb d_MO_comesToAll_157 hl (k := 7) rfl (nI_1 _) (by decide) rfl (fun ls hl => ?_)
                      refine lv_goto (tgt := 20) hx hb d_MO_comesToAll_160 (by decide) ?_
                      exact ih_20 n1 (i + 1) (by omega) (by first | assumption | omega) (ctJ_n hj hj1 (adI_f (fun z9 => z9.2.1 c_12))) ls (lv_sub hl [1, 2, 3, 4, 5, 6, 7, 0] rfl)
                    · skip
                      refine lv_iload hx hb d_MO_comesToAll_137 (lv_at hl 4 rfl) ?_
                      refine lv_iload hx hb d_MO_comesToAll_139 (lv_at hl 9 rfl) ?_
                      refine lv_ishr hx hb d_MO_comesToAll_141 ?_
                      refine lv_iconst (v := (nI 1)) hx hb d_MO_comesToAll_142 (by decide) ?_
                      refine lv_iand hx hb d_MO_comesToAll_143 ?_
                      refine xe_i (y := (bI (bt sn (F i)))) (sh1 (Nat.lt_trans (hF _) (by decide))) ?_
                      refine lv_iconst (v := (nI 1)) hx hb d_MO_comesToAll_144 (by decide) ?_
                      refine x_cmp1_ne (tgt := 157) hx hb d_MO_comesToAll_145 (by decide) (fun c_13 => ?_) (fun c_13 => ?_)
                      · skip
                        refine lv_iinc (v := (nI (i + 1))) (lv' := [(7, .int (nI (i + 1))), (0, .ref o), (1, .int (nI x)), (2, .int st), (3, .int (bI true)), (4, .int sn), (5, .int (bI gb)), (6, .int n1), (8, .int (nI (G i))), (9, .int (nI (F i)))]) hx hb d_MO_comesToAll_157 hl (k := 7) rfl (nI_1 _) (by decide) rfl (fun ls hl => ?_)
                        refine lv_goto (tgt := 20) hx hb d_MO_comesToAll_160 (by decide) ?_
                        exact ih_20 n1 (i + 1) (by omega) (by first | assumption | omega) (ctJ_n hj hj1 (adI_f (fun z9 => by have y9 := z9.2.2; rw [c_13] at y9; cases y9))) ls (lv_sub hl [1, 2, 3, 4, 5, 6, 7, 0] rfl)
                      · skip
                        refine lv_iload hx hb d_MO_comesToAll_148 (lv_at hl 6 rfl) ?_
                        refine lv_iconst (v := (nI 1)) hx hb d_MO_comesToAll_150 (by decide) ?_
                        refine lv_iload hx hb d_MO_comesToAll_151 (lv_at hl 8 rfl) ?_
                        refine lv_ishl hx hb d_MO_comesToAll_153 ?_
                        refine xe_i (y := (sb (G i))) rfl ?_
                        refine lv_ior hx hb d_MO_comesToAll_154 ?_
                        refine lv_istore (lv' := [(6, .int (n1 ||| (sb (G i)))), (0, .ref o), (1, .int (nI x)), (2, .int st), (3, .int (bI true)), (4, .int sn), (5, .int (bI gb)), (7, .int (nI i)), (8, .int (nI (G i))), (9, .int (nI (F i)))]) hx hb d_MO_comesToAll_155 hl (by decide) rfl (fun ls hl => ?_)
                        refine lv_iinc (v := (nI (i + 1))) (lv' := [(7, .int (nI (i + 1))), (6, .int (n1 ||| (sb (G i)))), (0, .ref o), (1, .int (nI x)), (2, .int st), (3, .int (bI true)), (4, .int sn), (5, .int (bI gb)), (8, .int (nI (G i))), (9, .int (nI (F i)))]) hx hb d_MO_comesToAll_157 hl (k := 7) rfl (nI_1 _) (by decide) rfl (fun ls hl => ?_)
                        refine lv_goto (tgt := 20) hx hb d_MO_comesToAll_160 (by decide) ?_
                        exact ih_20 (n1 ||| (sb (G i))) (i + 1) (by omega) (by first | assumption | omega) (ctJ_n hj hj1 (adI_t ⟨c_11, c_12, c_13⟩ (hG _))) ls (lv_sub hl [2, 3, 4, 5, 6, 7, 1, 0] rfl)
                exact L116_10 nx (adI_f (fun z9 => by have y9 := z9.1; rw [c_9] at y9; cases y9)) ls (lv_sub hl [2, 3, 4, 5, 6, 7, 8, 9, 1, 0] rfl)
              · skip
                refine lv_aload_n hx hb d_MO_comesToAll_85 rfl (lv_at hl 2 rfl) ?_
                refine va_get (D := (dC, dI)) (ci := 7) (v := .ref fO) (C := R_MO) (T := F_MO) (N := 15) hx hb hts in_MO hown hK.1 hP 0 rfl rfl 9 (by decide) (hts _ wfl_MO_26) (fun _ h9 => h9) rfl d_MO_comesToAll_86 ?_
                refine lv_iload hx hb d_MO_comesToAll_89 (lv_at hl 9 rfl) ?_
                refine x_iald (n := 41) (f := (nF Td)) (j := i) hx hb hK.1 hP 4 0 rfl rfl (by omega) (by omega) d_MO_comesToAll_91 ?_
                refine xe_i (y := (nI (Td i))) rfl ?_
                refine lv_iconst (v := (nI 2)) hx hb d_MO_comesToAll_92 (by decide) ?_
                refine x_cmp_eq (a := (Td i)) (b := 2) (tgt := 116) hx hb (Nat.lt_trans (hTd _) (by decide)) (by omega) d_MO_comesToAll_93 (by decide) (fun c_14 => ?_) (fun c_14 => ?_)
                · skip
                  have L116_15 : ∀ (n1 : Int32) (hj1 : adI (P i = true ∧ Td i ≠ 2 ∧ bt sn (G i) = true) (F i) nx n1) (ls : Array Slot) (hl : lv_has ls 10 [(0, .ref o), (1, .int (nI x)), (2, .int st), (3, .int (bI true)), (4, .int sn), (5, .int (bI gb)), (6, .int n1), (7, .int (nI i)), (8, .int (nI (G i))), (9, .int (nI (F i)))]), W p l e (headSpec (Cond.code ⟨"CutPointsModel", "comesToAll", "(IIZ)Z"⟩ prog_9_method_40_code 10 (some .boolean) :: TT) (rmk 0 0)).room s m ([.ref o, .int (nI x), .int st, .int (bI true)] : List Value).toArray below meth c s.heap [] 0 0 (MQ below (vp_Si (fun r => r = bI (dc (ctR (dE ar P Td G F) x st)))) ([.ref o, .int (nI x), .int st, .int (bI true)] : List Value).toArray s 0 0 (fun _ => False)) (F0 m 116 ls []) := by
                    intro n1 hj1 ls hl
                    refine lv_aload_n hx hb d_MO_comesToAll_116 rfl (lv_at hl 0 rfl) ?_
                    refine va_get (D := (dC, dI)) (ci := 7) (v := .ref fT) (C := R_MO) (T := F_MO) (N := 15) hx hb hts in_MO hown hK.1 hP 0 rfl rfl 5 (by decide) (hts _ wfl_MO_16) (fun _ h9 => h9) rfl d_MO_comesToAll_117 ?_
                    refine lv_iload hx hb d_MO_comesToAll_120 (lv_at hl 7 rfl) ?_
                    refine x_zald (n := 41) (f := (bF P)) (j := i) hx hb hK.1 hP 3 2 rfl rfl (by omega) (by omega) d_MO_comesToAll_122 ?_
                    refine xe_i (y := (bI (P i))) rfl ?_
                    refine x_if_eq (tgt := 157) hx hb d_MO_comesToAll_123 (by decide) (fun c_16 => ?_) (fun c_16 => ?_)
                    · skip
                      refine lv_iinc (v := (nI (i + 1))) (lv' := [(7, .int (nI (i + 1))), (0, .ref o), (1, .int (nI x)), (2, .int st), (3, .int (bI true)), (4, .int sn), (5, .int (bI gb)), (6, .int n1), (8, .int (nI (G i))), (9, .int (nI (F i)))]) hx hb d_MO_comesToAll_157 hl (k := 7) rfl (nI_1 _) (by decide) rfl (fun ls hl => ?_)
                      refine lv_goto (tgt := 20) hx hb d_MO_comesToAll_160 (by decide) ?_
                      exact ih_20 n1 (i + 1) (by omega) (by first | assumption | omega) (ctJ_n hj hj1 (adI_f (fun z9 => by have y9 := z9.1; rw [c_16] at y9; cases y9))) ls (lv_sub hl [1, 2, 3, 4, 5, 6, 7, 0] rfl)
                    · skip
                      refine lv_aload_n hx hb d_MO_comesToAll_126 rfl (lv_at hl 0 rfl) ?_
                      refine va_get (D := (dC, dI)) (ci := 7) (v := .ref fO) (C := R_MO) (T := F_MO) (N := 15) hx hb hts in_MO hown hK.1 hP 0 rfl rfl 9 (by decide) (hts _ wfl_MO_26) (fun _ h9 => h9) rfl d_MO_comesToAll_127 ?_
                      refine lv_iload hx hb d_MO_comesToAll_130 (lv_at hl 7 rfl) ?_
                      refine x_iald (n := 41) (f := (nF Td)) (j := i) hx hb hK.1 hP 4 0 rfl rfl (by omega) (by omega) d_MO_comesToAll_132 ?_
                      refine xe_i (y := (nI (Td i))) rfl ?_
                      refine lv_iconst (v := (nI 1)) hx hb d_MO_comesToAll_133 (by decide) ?_
                      refine x_cmp_eq (a := (Td i)) (b := 1) (tgt := 157) hx hb (Nat.lt_trans (hTd _) (by decide)) (by omega) d_MO_comesToAll_134 (by decide) (fun c_17 => ?_) (fun c_17 => ?_)
                      · skip
                        refine lv_iinc (v := (nI (i + 1))) (lv' := [(7, .int (nI (i + 1))), (0, .ref o), (1, .int (nI x)), (2, .int st), (3, .int (bI true)), (4, .int sn), (5, .int (bI gb)), (6, .int n1), (8, .int (nI (G i))), (9, .int (nI (F i)))]) hx hb d_MO_comesToAll_157 hl (k := 7) rfl (nI_1 _) (by decide) rfl (fun ls hl => ?_)
                        refine lv_goto (tgt := 20) hx hb d_MO_comesToAll_160 (by decide) ?_
                        exact ih_20 n1 (i + 1) (by omega) (by first | assumption | omega) (ctJ_n hj hj1 (adI_f (fun z9 => z9.2.1 c_17))) ls (lv_sub hl [1, 2, 3, 4, 5, 6, 7, 0] rfl)
                      · skip
                        refine lv_iload hx hb d_MO_comesToAll_137 (lv_at hl 4 rfl) ?_
                        refine lv_iload hx hb d_MO_comesToAll_139 (lv_at hl 9 rfl) ?_
                        refine lv_ishr hx hb d_MO_comesToAll_141 ?_
                        refine lv_iconst (v := (nI 1)) hx hb d_MO_comesToAll_142 (by decide) ?_
                        refine lv_iand hx hb d_MO_comesToAll_143 ?_
                        refine xe_i (y := (bI (bt sn (F i)))) (sh1 (Nat.lt_trans (hF _) (by decide))) ?_
                        refine lv_iconst (v := (nI 1)) hx hb d_MO_comesToAll_144 (by decide) ?_
                        refine x_cmp1_ne (tgt := 157) hx hb d_MO_comesToAll_145 (by decide) (fun c_18 => ?_) (fun c_18 => ?_)
                        · skip
                          refine lv_iinc (v := (nI (i + 1))) (lv' := [(7, .int (nI (i + 1))), (0, .ref o), (1, .int (nI x)), (2, .int st), (3, .int (bI true)), (4, .int sn), (5, .int (bI gb)), (6, .int n1), (8, .int (nI (G i))), (9, .int (nI (F i)))]) hx hb d_MO_comesToAll_157 hl (k := 7) rfl (nI_1 _) (by decide) rfl (fun ls hl => ?_)
                          refine lv_goto (tgt := 20) hx hb d_MO_comesToAll_160 (by decide) ?_
                          exact ih_20 n1 (i + 1) (by omega) (by first | assumption | omega) (ctJ_n hj hj1 (adI_f (fun z9 => by have y9 := z9.2.2; rw [c_18] at y9; cases y9))) ls (lv_sub hl [1, 2, 3, 4, 5, 6, 7, 0] rfl)
                        · skip
                          refine lv_iload hx hb d_MO_comesToAll_148 (lv_at hl 6 rfl) ?_
                          refine lv_iconst (v := (nI 1)) hx hb d_MO_comesToAll_150 (by decide) ?_
                          refine lv_iload hx hb d_MO_comesToAll_151 (lv_at hl 8 rfl) ?_
                          refine lv_ishl hx hb d_MO_comesToAll_153 ?_
                          refine xe_i (y := (sb (G i))) rfl ?_
                          refine lv_ior hx hb d_MO_comesToAll_154 ?_
                          refine lv_istore (lv' := [(6, .int (n1 ||| (sb (G i)))), (0, .ref o), (1, .int (nI x)), (2, .int st), (3, .int (bI true)), (4, .int sn), (5, .int (bI gb)), (7, .int (nI i)), (8, .int (nI (G i))), (9, .int (nI (F i)))]) hx hb d_MO_comesToAll_155 hl (by decide) rfl (fun ls hl => ?_)
                          refine lv_iinc (v := (nI (i + 1))) (lv' := [(7, .int (nI (i + 1))), (6, .int (n1 ||| (sb (G i)))), (0, .ref o), (1, .int (nI x)), (2, .int st), (3, .int (bI true)), (4, .int sn), (5, .int (bI gb)), (8, .int (nI (G i))), (9, .int (nI (F i)))]) hx hb d_MO_comesToAll_157 hl (k := 7) rfl (nI_1 _) (by decide) rfl (fun ls hl => ?_)
                          refine lv_goto (tgt := 20) hx hb d_MO_comesToAll_160 (by decide) ?_
                          exact ih_20 (n1 ||| (sb (G i))) (i + 1) (by omega) (by first | assumption | omega) (ctJ_n hj hj1 (adI_t ⟨c_16, c_17, c_18⟩ (hG _))) ls (lv_sub hl [2, 3, 4, 5, 6, 7, 1, 0] rfl)
                  exact L116_15 nx (adI_f (fun z9 => z9.2.1 c_14)) ls (lv_sub hl [2, 3, 4, 5, 6, 7, 8, 9, 1, 0] rfl)
                · skip
                  refine lv_iload hx hb d_MO_comesToAll_96 (lv_at hl 6 rfl) ?_
                  refine lv_iload hx hb d_MO_comesToAll_98 (lv_at hl 1 rfl) ?_
                  refine lv_ishr hx hb d_MO_comesToAll_100 ?_
                  refine lv_iconst (v := (nI 1)) hx hb d_MO_comesToAll_101 (by decide) ?_
                  refine lv_iand hx hb d_MO_comesToAll_102 ?_
                  refine xe_i (y := (bI (bt sn (G i)))) (sh1 (Nat.lt_trans (hG _) (by decide))) ?_
                  refine lv_iconst (v := (nI 1)) hx hb d_MO_comesToAll_103 (by decide) ?_
                  refine x_cmp1_ne (tgt := 116) hx hb d_MO_comesToAll_104 (by decide) (fun c_19 => ?_) (fun c_19 => ?_)
                  · skip
                    have L116_20 : ∀ (n1 : Int32) (hj1 : adI (P i = true ∧ Td i ≠ 2 ∧ bt sn (G i) = true) (F i) nx n1) (ls : Array Slot) (hl : lv_has ls 10 [(0, .ref o), (1, .int (nI x)), (2, .int st), (3, .int (bI true)), (4, .int sn), (5, .int (bI gb)), (6, .int n1), (7, .int (nI i)), (8, .int (nI (G i))), (9, .int (nI (F i)))]), W p l e (headSpec (Cond.code ⟨"CutPointsModel", "comesToAll", "(IIZ)Z"⟩ prog_9_method_40_code 10 (some .boolean) :: TT) (rmk 0 0)).room s m ([.ref o, .int (nI x), .int st, .int (bI true)] : List Value).toArray below meth c s.heap [] 0 0 (MQ below (vp_Si (fun r => r = bI (dc (ctR (dE ar P Td G F) x st)))) ([.ref o, .int (nI x), .int st, .int (bI true)] : List Value).toArray s 0 0 (fun _ => False)) (F0 m 116 ls []) := by
                      intro n1 hj1 ls hl
                      refine lv_aload_n hx hb d_MO_comesToAll_116 rfl (lv_at hl 0 rfl) ?_
                      refine va_get (D := (dC, dI)) (ci := 7) (v := .ref fT) (C := R_MO) (T := F_MO) (N := 15) hx hb hts in_MO hown hK.1 hP 0 rfl rfl 5 (by decide) (hts _ wfl_MO_16) (fun _ h9 => h9) rfl d_MO_comesToAll_117 ?_
                      refine lv_iload hx hb d_MO_comesToAll_120 (lv_at hl 7 rfl) ?_
                      refine x_zald (n := 41) (f := (bF P)) (j := i) hx hb hK.1 hP 3 2 rfl rfl (by omega) (by omega) d_MO_comesToAll_122 ?_
                      refine xe_i (y := (bI (P i))) rfl ?_
                      refine x_if_eq (tgt := 157) hx hb d_MO_comesToAll_123 (by decide) (fun c_21 => ?_) (fun c_21 => ?_)
                      · skip
                        refine lv_iinc (v := (nI (i + 1))) (lv' := [(7, .int (nI (i + 1))), (0, .ref o), (1, .int (nI x)), (2, .int st), (3, .int (bI true)), (4, .int sn), (5, .int (bI gb)), (6, .int n1), (8, .int (nI (G i))), (9, .int (nI (F i)))]) hx hb d_MO_comesToAll_157 hl (k := 7) rfl (nI_1 _) (by decide) rfl (fun ls hl => ?_)
                        refine lv_goto (tgt := 20) hx hb d_MO_comesToAll_160 (by decide) ?_
                        exact ih_20 n1 (i + 1) (by omega) (by first | assumption | omega) (ctJ_n hj hj1 (adI_f (fun z9 => by have y9 := z9.1; rw [c_21] at y9; cases y9))) ls (lv_sub hl [1, 2, 3, 4, 5, 6, 7, 0] rfl)
                      · skip
                        refine lv_aload_n hx hb d_MO_comesToAll_126 rfl (lv_at hl 0 rfl) ?_
                        refine va_get (D := (dC, dI)) (ci := 7) (v := .ref fO) (C := R_MO) (T := F_MO) (N := 15) hx hb hts in_MO hown hK.1 hP 0 rfl rfl 9 (by decide) (hts _ wfl_MO_26) (fun _ h9 => h9) rfl d_MO_comesToAll_127 ?_
                        refine lv_iload hx hb d_MO_comesToAll_130 (lv_at hl 7 rfl) ?_
                        refine x_iald (n := 41) (f := (nF Td)) (j := i) hx hb hK.1 hP 4 0 rfl rfl (by omega) (by omega) d_MO_comesToAll_132 ?_
                        refine xe_i (y := (nI (Td i))) rfl ?_
                        refine lv_iconst (v := (nI 1)) hx hb d_MO_comesToAll_133 (by decide) ?_
                        refine x_cmp_eq (a := (Td i)) (b := 1) (tgt := 157) hx hb (Nat.lt_trans (hTd _) (by decide)) (by omega) d_MO_comesToAll_134 (by decide) (fun c_22 => ?_) (fun c_22 => ?_)
                        · skip
                          refine lv_iinc (v := (nI (i + 1))) (lv' := [(7, .int (nI (i + 1))), (0, .ref o), (1, .int (nI x)), (2, .int st), (3, .int (bI true)), (4, .int sn), (5, .int (bI gb)), (6, .int n1), (8, .int (nI (G i))), (9, .int (nI (F i)))]) hx hb d_MO_comesToAll_157 hl (k := 7) rfl (nI_1 _) (by decide) rfl (fun ls hl => ?_)
                          refine lv_goto (tgt := 20) hx hb d_MO_comesToAll_160 (by decide) ?_
                          exact ih_20 n1 (i + 1) (by omega) (by first | assumption | omega) (ctJ_n hj hj1 (adI_f (fun z9 => z9.2.1 c_22))) ls (lv_sub hl [1, 2, 3, 4, 5, 6, 7, 0] rfl)
                        · skip
                          refine lv_iload hx hb d_MO_comesToAll_137 (lv_at hl 4 rfl) ?_
                          refine lv_iload hx hb d_MO_comesToAll_139 (lv_at hl 9 rfl) ?_
                          refine lv_ishr hx hb d_MO_comesToAll_141 ?_
                          refine lv_iconst (v := (nI 1)) hx hb d_MO_comesToAll_142 (by decide) ?_
                          refine lv_iand hx hb d_MO_comesToAll_143 ?_
                          refine xe_i (y := (bI (bt sn (F i)))) (sh1 (Nat.lt_trans (hF _) (by decide))) ?_
                          refine lv_iconst (v := (nI 1)) hx hb d_MO_comesToAll_144 (by decide) ?_
                          refine x_cmp1_ne (tgt := 157) hx hb d_MO_comesToAll_145 (by decide) (fun c_23 => ?_) (fun c_23 => ?_)
                          · skip
                            refine lv_iinc (v := (nI (i + 1))) (lv' := [(7, .int (nI (i + 1))), (0, .ref o), (1, .int (nI x)), (2, .int st), (3, .int (bI true)), (4, .int sn), (5, .int (bI gb)), (6, .int n1), (8, .int (nI (G i))), (9, .int (nI (F i)))]) hx hb d_MO_comesToAll_157 hl (k := 7) rfl (nI_1 _) (by decide) rfl (fun ls hl => ?_)
                            refine lv_goto (tgt := 20) hx hb d_MO_comesToAll_160 (by decide) ?_
                            exact ih_20 n1 (i + 1) (by omega) (by first | assumption | omega) (ctJ_n hj hj1 (adI_f (fun z9 => by have y9 := z9.2.2; rw [c_23] at y9; cases y9))) ls (lv_sub hl [1, 2, 3, 4, 5, 6, 7, 0] rfl)
                          · skip
                            refine lv_iload hx hb d_MO_comesToAll_148 (lv_at hl 6 rfl) ?_
                            refine lv_iconst (v := (nI 1)) hx hb d_MO_comesToAll_150 (by decide) ?_
                            refine lv_iload hx hb d_MO_comesToAll_151 (lv_at hl 8 rfl) ?_
                            refine lv_ishl hx hb d_MO_comesToAll_153 ?_
                            refine xe_i (y := (sb (G i))) rfl ?_
                            refine lv_ior hx hb d_MO_comesToAll_154 ?_
                            refine lv_istore (lv' := [(6, .int (n1 ||| (sb (G i)))), (0, .ref o), (1, .int (nI x)), (2, .int st), (3, .int (bI true)), (4, .int sn), (5, .int (bI gb)), (7, .int (nI i)), (8, .int (nI (G i))), (9, .int (nI (F i)))]) hx hb d_MO_comesToAll_155 hl (by decide) rfl (fun ls hl => ?_)
                            refine lv_iinc (v := (nI (i + 1))) (lv' := [(7, .int (nI (i + 1))), (6, .int (n1 ||| (sb (G i)))), (0, .ref o), (1, .int (nI x)), (2, .int st), (3, .int (bI true)), (4, .int sn), (5, .int (bI gb)), (8, .int (nI (G i))), (9, .int (nI (F i)))]) hx hb d_MO_comesToAll_157 hl (k := 7) rfl (nI_1 _) (by decide) rfl (fun ls hl => ?_)
                            refine lv_goto (tgt := 20) hx hb d_MO_comesToAll_160 (by decide) ?_
                            exact ih_20 (n1 ||| (sb (G i))) (i + 1) (by omega) (by first | assumption | omega) (ctJ_n hj hj1 (adI_t ⟨c_21, c_22, c_23⟩ (hG _))) ls (lv_sub hl [2, 3, 4, 5, 6, 7, 1, 0] rfl)
                    exact L116_20 nx (adI_f (fun z9 => by have y9 := z9.2.2; rw [c_19] at y9; cases y9)) ls (lv_sub hl [2, 3, 4, 5, 6, 7, 8, 9, 1, 0] rfl)
                  · skip
                    refine lv_iload hx hb d_MO_comesToAll_107 (lv_at hl 8 rfl) ?_
                    refine lv_iconst (v := (nI 1)) hx hb d_MO_comesToAll_109 (by decide) ?_
                    refine lv_iload hx hb d_MO_comesToAll_110 (lv_at hl 0 rfl) ?_
                    refine lv_ishl hx hb d_MO_comesToAll_112 ?_
                    refine xe_i (y := (sb (F i))) rfl ?_
                    refine lv_ior hx hb d_MO_comesToAll_113 ?_
                    refine lv_istore (lv' := [(6, .int (nx ||| (sb (F i)))), (9, .int (nI (F i))), (8, .int (nI (G i))), (0, .ref o), (1, .int (nI x)), (2, .int st), (3, .int (bI true)), (4, .int sn), (5, .int (bI gb)), (7, .int (nI i))]) hx hb d_MO_comesToAll_114 hl (by decide) rfl (fun ls hl => ?_)
                    have L116_24 : ∀ (n1 : Int32) (hj1 : adI (P i = true ∧ Td i ≠ 2 ∧ bt sn (G i) = true) (F i) nx n1) (ls : Array Slot) (hl : lv_has ls 10 [(0, .ref o), (1, .int (nI x)), (2, .int st), (3, .int (bI true)), (4, .int sn), (5, .int (bI gb)), (6, .int n1), (7, .int (nI i)), (8, .int (nI (G i))), (9, .int (nI (F i)))]), W p l e (headSpec (Cond.code ⟨"CutPointsModel", "comesToAll", "(IIZ)Z"⟩ prog_9_method_40_code 10 (some .boolean) :: TT) (rmk 0 0)).room s m ([.ref o, .int (nI x), .int st, .int (bI true)] : List Value).toArray below meth c s.heap [] 0 0 (MQ below (vp_Si (fun r => r = bI (dc (ctR (dE ar P Td G F) x st)))) ([.ref o, .int (nI x), .int st, .int (bI true)] : List Value).toArray s 0 0 (fun _ => False)) (F0 m 116 ls []) := by
                      intro n1 hj1 ls hl
                      refine lv_aload_n hx hb d_MO_comesToAll_116 rfl (lv_at hl 0 rfl) ?_
                      refine va_get (D := (dC, dI)) (ci := 7) (v := .ref fT) (C := R_MO) (T := F_MO) (N := 15) hx hb hts in_MO hown hK.1 hP 0 rfl rfl 5 (by decide) (hts _ wfl_MO_16) (fun _ h9 => h9) rfl d_MO_comesToAll_117 ?_
                      refine lv_iload hx hb d_MO_comesToAll_120 (lv_at hl 7 rfl) ?_
                      refine x_zald (n := 41) (f := (bF P)) (j := i) hx hb hK.1 hP 3 2 rfl rfl (by omega) (by omega) d_MO_comesToAll_122 ?_
                      refine xe_i (y := (bI (P i))) rfl ?_
                      refine x_if_eq (tgt := 157) hx hb d_MO_comesToAll_123 (by decide) (fun c_25 => ?_) (fun c_25 => ?_)
                      · skip
                        refine lv_iinc (v := (nI (i + 1))) (lv' := [(7, .int (nI (i + 1))), (0, .ref o), (1, .int (nI x)), (2, .int st), (3, .int (bI true)), (4, .int sn), (5, .int (bI gb)), (6, .int n1), (8, .int (nI (G i))), (9, .int (nI (F i)))]) hx hb d_MO_comesToAll_157 hl (k := 7) rfl (nI_1 _) (by decide) rfl (fun ls hl => ?_)
                        refine lv_goto (tgt := 20) hx hb d_MO_comesToAll_160 (by decide) ?_
                        exact ih_20 n1 (i + 1) (by omega) (by first | assumption | omega) (ctJ_n hj hj1 (adI_f (fun z9 => by have y9 := z9.1; rw [c_25] at y9; cases y9))) ls (lv_sub hl [1, 2, 3, 4, 5, 6, 7, 0] rfl)
                      · skip
                        refine lv_aload_n hx hb d_MO_comesToAll_126 rfl (lv_at hl 0 rfl) ?_
                        refine va_get (D := (dC, dI)) (ci := 7) (v := .ref fO) (C := R_MO) (T := F_MO) (N := 15) hx hb hts in_MO hown hK.1 hP 0 rfl rfl 9 (by decide) (hts _ wfl_MO_26) (fun _ h9 => h9) rfl d_MO_comesToAll_127 ?_
                        refine lv_iload hx hb d_MO_comesToAll_130 (lv_at hl 7 rfl) ?_
                        refine x_iald (n := 41) (f := (nF Td)) (j := i) hx hb hK.1 hP 4 0 rfl rfl (by omega) (by omega) d_MO_comesToAll_132 ?_
                        refine xe_i (y := (nI (Td i))) rfl ?_
                        refine lv_iconst (v := (nI 1)) hx hb d_MO_comesToAll_133 (by decide) ?_
                        refine x_cmp_eq (a := (Td i)) (b := 1) (tgt := 157) hx hb (Nat.lt_trans (hTd _) (by decide)) (by omega) d_MO_comesToAll_134 (by decide) (fun c_26 => ?_) (fun c_26 => ?_)
                        · skip
                          refine lv_iinc (v := (nI (i + 1))) (lv' := [(7, .int (nI (i + 1))), (0, .ref o), (1, .int (nI x)), (2, .int st), (3, .int (bI true)), (4, .int sn), (5, .int (bI gb)), (6, .int n1), (8, .int (nI (G i))), (9, .int (nI (F i)))]) hx hb d_MO_comesToAll_157 hl (k := 7) rfl (nI_1 _) (by decide) rfl (fun ls hl => ?_)
                          refine lv_goto (tgt := 20) hx hb d_MO_comesToAll_160 (by decide) ?_
                          exact ih_20 n1 (i + 1) (by omega) (by first | assumption | omega) (ctJ_n hj hj1 (adI_f (fun z9 => z9.2.1 c_26))) ls (lv_sub hl [1, 2, 3, 4, 5, 6, 7, 0] rfl)
                        · skip
                          refine lv_iload hx hb d_MO_comesToAll_137 (lv_at hl 4 rfl) ?_
                          refine lv_iload hx hb d_MO_comesToAll_139 (lv_at hl 9 rfl) ?_
                          refine lv_ishr hx hb d_MO_comesToAll_141 ?_
                          refine lv_iconst (v := (nI 1)) hx hb d_MO_comesToAll_142 (by decide) ?_
                          refine lv_iand hx hb d_MO_comesToAll_143 ?_
                          refine xe_i (y := (bI (bt sn (F i)))) (sh1 (Nat.lt_trans (hF _) (by decide))) ?_
                          refine lv_iconst (v := (nI 1)) hx hb d_MO_comesToAll_144 (by decide) ?_
                          refine x_cmp1_ne (tgt := 157) hx hb d_MO_comesToAll_145 (by decide) (fun c_27 => ?_) (fun c_27 => ?_)
                          · skip
                            refine lv_iinc (v := (nI (i + 1))) (lv' := [(7, .int (nI (i + 1))), (0, .ref o), (1, .int (nI x)), (2, .int st), (3, .int (bI true)), (4, .int sn), (5, .int (bI gb)), (6, .int n1), (8, .int (nI (G i))), (9, .int (nI (F i)))]) hx hb d_MO_comesToAll_157 hl (k := 7) rfl (nI_1 _) (by decide) rfl (fun ls hl => ?_)
                            refine lv_goto (tgt := 20) hx hb d_MO_comesToAll_160 (by decide) ?_
                            exact ih_20 n1 (i + 1) (by omega) (by first | assumption | omega) (ctJ_n hj hj1 (adI_f (fun z9 => by have y9 := z9.2.2; rw [c_27] at y9; cases y9))) ls (lv_sub hl [1, 2, 3, 4, 5, 6, 7, 0] rfl)
                          · skip
                            refine lv_iload hx hb d_MO_comesToAll_148 (lv_at hl 6 rfl) ?_
                            refine lv_iconst (v := (nI 1)) hx hb d_MO_comesToAll_150 (by decide) ?_
                            refine lv_iload hx hb d_MO_comesToAll_151 (lv_at hl 8 rfl) ?_
                            refine lv_ishl hx hb d_MO_comesToAll_153 ?_
                            refine xe_i (y := (sb (G i))) rfl ?_
                            refine lv_ior hx hb d_MO_comesToAll_154 ?_
                            refine lv_istore (lv' := [(6, .int (n1 ||| (sb (G i)))), (0, .ref o), (1, .int (nI x)), (2, .int st), (3, .int (bI true)), (4, .int sn), (5, .int (bI gb)), (7, .int (nI i)), (8, .int (nI (G i))), (9, .int (nI (F i)))]) hx hb d_MO_comesToAll_155 hl (by decide) rfl (fun ls hl => ?_)
                            refine lv_iinc (v := (nI (i + 1))) (lv' := [(7, .int (nI (i + 1))), (6, .int (n1 ||| (sb (G i)))), (0, .ref o), (1, .int (nI x)), (2, .int st), (3, .int (bI true)), (4, .int sn), (5, .int (bI gb)), (8, .int (nI (G i))), (9, .int (nI (F i)))]) hx hb d_MO_comesToAll_157 hl (k := 7) rfl (nI_1 _) (by decide) rfl (fun ls hl => ?_)
                            refine lv_goto (tgt := 20) hx hb d_MO_comesToAll_160 (by decide) ?_
                            exact ih_20 (n1 ||| (sb (G i))) (i + 1) (by omega) (by first | assumption | omega) (ctJ_n hj hj1 (adI_t ⟨c_25, c_26, c_27⟩ (hG _))) ls (lv_sub hl [2, 3, 4, 5, 6, 7, 1, 0] rfl)
                    exact L116_24 (nx ||| (sb (F i))) (adI_t ⟨c_9, c_14, c_19⟩ (hF _)) ls (lv_sub hl [3, 4, 5, 6, 7, 8, 0, 9, 2, 1] rfl)
        exact L20_4 ((ar - 0) + 1) sn 0 (Nat.lt_succ_self _) (by first | assumption | omega) (ctJ_0 P Td G F sn) ls (lv_sub hl [2, 3, 4, 5, 6, 7, 1, 0] rfl)
  exact L8_1 ((2 * (32 - cn (bt (sb x)) 32) + true.toNat) + 1) (sb x) true (Nat.lt_succ_self _) (ctO_0 hx14) ls (lv_sub hl [2, 3, 4, 5, 1, 0] rfl)

theorem d_MO_placeOf_0 : decode prog_9_method_47_code 0 = .ok (.iconst 0, 1) := by decide +kernel
theorem d_MO_placeOf_1 : decode prog_9_method_47_code 1 = .ok (.istore_n 2, 1) := by decide +kernel
theorem d_MO_placeOf_2 : decode prog_9_method_47_code 2 = .ok (.aload_n 0, 1) := by decide +kernel
theorem d_MO_placeOf_3 : decode prog_9_method_47_code 3 = .ok (.getfield 29, 3) := by decide +kernel
theorem d_MO_placeOf_6 : decode prog_9_method_47_code 6 = .ok (.iload_n 2, 1) := by decide +kernel
theorem d_MO_placeOf_7 : decode prog_9_method_47_code 7 = .ok (.iaload, 1) := by decide +kernel
theorem d_MO_placeOf_8 : decode prog_9_method_47_code 8 = .ok (.iload_n 1, 1) := by decide +kernel
theorem d_MO_placeOf_9 : decode prog_9_method_47_code 9 = .ok (.if_icmp .eq 9, 3) := by decide +kernel
theorem d_MO_placeOf_12 : decode prog_9_method_47_code 12 = .ok (.iinc 2 1, 3) := by decide +kernel
theorem d_MO_placeOf_15 : decode prog_9_method_47_code 15 = .ok (.goto (-13), 3) := by decide +kernel
theorem d_MO_placeOf_18 : decode prog_9_method_47_code 18 = .ok (.iload_n 2, 1) := by decide +kernel
theorem d_MO_placeOf_19 : decode prog_9_method_47_code 19 = .ok (.ireturn, 1) := by decide +kernel
set_option maxHeartbeats 4000000 in
set_option maxRecDepth 100000 in
theorem c_MO_placeOf (l : Launch) (dC : Nat → ClassId) (dI : Nat → Nat → Nat) (cI cJ cZ : ClassId) (o fF fG fT fN fW fO fB fS fD : Nat) (th be bz sz : Int32) (nd ar : Nat) (Ob : Nat → Nat) (q x : Nat) (hq41 : q < 41) (hqx : Ob q = x) (hOb : ∀ k, k ≤ q → Ob k < 41) : Met l ⟨"CutPointsModel", "placeOf", "(I)I"⟩ (Cond.code ⟨"CutPointsModel", "placeOf", "(I)I"⟩ prog_9_method_47_code 3 (some .int) :: TT) (rmk 0 0) (PR dC dI cI cJ cZ [.ref o, .int (nI x)] [(o, .inr (7, [.int th, .int (nI nd), .int (nI ar), .ref fF, .ref fG, .ref fT, .ref fN, .ref fW, .int be, .ref fO, .ref fB, .int bz, .ref fS, .ref fD, .int sz])), (fB, .inl (cI, 41, .inl (nF Ob)))]) (vp_Si (fun r => ∃ k, r = nI k ∧ k ≤ q ∧ Ob k = x ∧ ∀ j, j < k → Ob j ≠ x)) 0 0 (fun _ => False) := by
  refine Met.ofW (cc := prog_9_method_47_code) (maxL := 3) (ret := (some .int)) (by decide) rfl ?_
  intro p e s m args below meth c s₁ BB9 hml hv
  obtain ⟨rfl, hP, hK⟩ := hv
  have hx := BB9.exec
  have hb := BB9.bytes
  have hr := BB9.returns
  have hts : ∀ w ∈ TT, w.before _ s = true := fun w h => atoms_spec (ws := (Cond.code ⟨"CutPointsModel", "placeOf", "(I)I"⟩ prog_9_method_47_code 3 (some .int) :: TT)) BB9.pre w (List.mem_cons_of_mem _ h)
  have hown : s.vm.findClass "CutPointsModel" = some m.cls := findClass_of_methodNamed BB9.named
  have hlocks := BB9.notSynchronized
  have hl := lv_entry ([.ref o, .int (nI x)]) (n := 3) (Nat.le_of_ble_eq_true rfl)
  rw [lg_entry_eq]
  generalize (lg_sl ([.ref o, .int (nI x)]) ++ List.replicate (3 - (lg_sl ([.ref o, .int (nI x)])).length) Slot.unset).toArray = ls at hl ⊢
  have hl : lv_has ls 3 [(0, .ref o), (1, .int (nI x))] := hl
  refine lv_iconst (v := (nI 0)) hx hb d_MO_placeOf_0 (by decide) ?_
  refine lv_istore_n (lv' := [(2, .int (nI 0)), (0, .ref o), (1, .int (nI x))]) hx hb d_MO_placeOf_1 rfl hl (by decide) rfl (fun ls hl => ?_)
  have L2_1 : ∀ (n : Nat) (i : Nat) (hn : q - i < n) (hi : i ≤ q) (hn : ∀ j, j < i → Ob j ≠ x) (ls : Array Slot) (hl : lv_has ls 3 [(0, .ref o), (1, .int (nI x)), (2, .int (nI i))]), W p l e (headSpec (Cond.code ⟨"CutPointsModel", "placeOf", "(I)I"⟩ prog_9_method_47_code 3 (some .int) :: TT) (rmk 0 0)).room s m ([.ref o, .int (nI x)] : List Value).toArray below meth c s.heap [] 0 0 (MQ below (vp_Si (fun r => ∃ k, r = nI k ∧ k ≤ q ∧ Ob k = x ∧ ∀ j, j < k → Ob j ≠ x)) ([.ref o, .int (nI x)] : List Value).toArray s 0 0 (fun _ => False)) (F0 m 2 ls []) := by
    intro n_2
    induction n_2 with
    | zero =>
      intro i hn_2
      exact absurd hn_2 (Nat.not_lt_zero _)
    | succ n_2 ih_2 =>
      intro i hn_2 hi hn ls hl
      refine lv_aload_n hx hb d_MO_placeOf_2 rfl (lv_at hl 0 rfl) ?_
      refine va_get (D := (dC, dI)) (ci := 7) (v := .ref fB) (C := R_MO) (T := F_MO) (N := 15) hx hb hts in_MO hown hK.1 hP 0 rfl rfl 10 (by decide) (hts _ wfl_MO_29) (fun _ h9 => h9) rfl d_MO_placeOf_3 ?_
      refine lv_iload_n hx hb d_MO_placeOf_6 rfl (lv_at hl 2 rfl) ?_
      refine x_iald (n := 41) (f := (nF Ob)) (j := i) hx hb hK.1 hP 1 0 rfl rfl (by omega) (by omega) d_MO_placeOf_7 ?_
      refine xe_i (y := (nI (Ob i))) rfl ?_
      refine lv_iload_n hx hb d_MO_placeOf_8 rfl (lv_at hl 1 rfl) ?_
      refine x_cmp_eq (a := (Ob i)) (b := x) (tgt := 18) hx hb (Nat.lt_trans (hOb _ hi) (by decide)) (by have := hOb q (Nat.le_refl _); omega) d_MO_placeOf_9 (by decide) (fun c_2 => ?_) (fun c_2 => ?_)
      · skip
        refine lv_iload_n hx hb d_MO_placeOf_18 rfl (lv_at hl 2 rfl) ?_
        exact W.iret (v := (nI i)) hx hb hr (fun t9 ht9 _ => ⟨_, rfl, ⟨_, rfl, hi, c_2, hn⟩, ht9⟩) t_nil d_MO_placeOf_19
      · skip
        refine lv_iinc (v := (nI (i + 1))) (lv' := [(2, .int (nI (i + 1))), (0, .ref o), (1, .int (nI x))]) hx hb d_MO_placeOf_12 hl (k := 2) rfl (nI_1 _) (by decide) rfl (fun ls hl => ?_)
        refine lv_goto (tgt := 2) hx hb d_MO_placeOf_15 (by decide) ?_
        exact ih_2 (i + 1) (by rcases Nat.lt_or_ge i q with z9 | z9; omega; exact absurd (by rw [show i = q from by omega]; exact hqx) c_2) (by rcases Nat.lt_or_ge i q with z9 | z9; exact z9; exact absurd (by rw [show i = q from by omega]; exact hqx) c_2) (lt_s hn c_2) ls (lv_sub hl [1, 2, 0] rfl)
  exact L2_1 ((q - 0) + 1) 0 (Nat.lt_succ_self _) (by first | assumption | omega) (fun n hn => absurd hn (Nat.not_lt_zero _)) ls (lv_sub hl [1, 2, 0] rfl)

theorem d_MO_areTogether_0 : decode prog_9_method_46_code 0 = .ok (.iconst 0, 1) := by decide +kernel
theorem d_MO_areTogether_1 : decode prog_9_method_46_code 1 = .ok (.istore_n 3, 1) := by decide +kernel
theorem d_MO_areTogether_2 : decode prog_9_method_46_code 2 = .ok (.iload_n 3, 1) := by decide +kernel
theorem d_MO_areTogether_3 : decode prog_9_method_46_code 3 = .ok (.aload_n 0, 1) := by decide +kernel
theorem d_MO_areTogether_4 : decode prog_9_method_46_code 4 = .ok (.getfield 135, 3) := by decide +kernel
theorem d_MO_areTogether_7 : decode prog_9_method_46_code 7 = .ok (.if_icmp .ge 43, 3) := by decide +kernel
theorem d_MO_areTogether_10 : decode prog_9_method_46_code 10 = .ok (.aload_n 0, 1) := by decide +kernel
theorem d_MO_areTogether_11 : decode prog_9_method_46_code 11 = .ok (.getfield 35, 3) := by decide +kernel
theorem d_MO_areTogether_14 : decode prog_9_method_46_code 14 = .ok (.iload_n 3, 1) := by decide +kernel
theorem d_MO_areTogether_15 : decode prog_9_method_46_code 15 = .ok (.baload, 1) := by decide +kernel
theorem d_MO_areTogether_16 : decode prog_9_method_46_code 16 = .ok (.ifCond .eq 28, 3) := by decide +kernel
theorem d_MO_areTogether_19 : decode prog_9_method_46_code 19 = .ok (.aload_n 0, 1) := by decide +kernel
theorem d_MO_areTogether_20 : decode prog_9_method_46_code 20 = .ok (.getfield 32, 3) := by decide +kernel
theorem d_MO_areTogether_23 : decode prog_9_method_46_code 23 = .ok (.iload_n 3, 1) := by decide +kernel
theorem d_MO_areTogether_24 : decode prog_9_method_46_code 24 = .ok (.iaload, 1) := by decide +kernel
theorem d_MO_areTogether_25 : decode prog_9_method_46_code 25 = .ok (.iload_n 1, 1) := by decide +kernel
theorem d_MO_areTogether_26 : decode prog_9_method_46_code 26 = .ok (.ishr, 1) := by decide +kernel
theorem d_MO_areTogether_27 : decode prog_9_method_46_code 27 = .ok (.iconst 1, 1) := by decide +kernel
theorem d_MO_areTogether_28 : decode prog_9_method_46_code 28 = .ok (.iand, 1) := by decide +kernel
theorem d_MO_areTogether_29 : decode prog_9_method_46_code 29 = .ok (.aload_n 0, 1) := by decide +kernel
theorem d_MO_areTogether_30 : decode prog_9_method_46_code 30 = .ok (.getfield 32, 3) := by decide +kernel
theorem d_MO_areTogether_33 : decode prog_9_method_46_code 33 = .ok (.iload_n 3, 1) := by decide +kernel
theorem d_MO_areTogether_34 : decode prog_9_method_46_code 34 = .ok (.iaload, 1) := by decide +kernel
theorem d_MO_areTogether_35 : decode prog_9_method_46_code 35 = .ok (.iload_n 2, 1) := by decide +kernel
theorem d_MO_areTogether_36 : decode prog_9_method_46_code 36 = .ok (.ishr, 1) := by decide +kernel
theorem d_MO_areTogether_37 : decode prog_9_method_46_code 37 = .ok (.iconst 1, 1) := by decide +kernel
theorem d_MO_areTogether_38 : decode prog_9_method_46_code 38 = .ok (.iand, 1) := by decide +kernel
theorem d_MO_areTogether_39 : decode prog_9_method_46_code 39 = .ok (.if_icmp .eq 5, 3) := by decide +kernel
theorem d_MO_areTogether_42 : decode prog_9_method_46_code 42 = .ok (.iconst 0, 1) := by decide +kernel
theorem d_MO_areTogether_43 : decode prog_9_method_46_code 43 = .ok (.ireturn, 1) := by decide +kernel
theorem d_MO_areTogether_44 : decode prog_9_method_46_code 44 = .ok (.iinc 3 1, 3) := by decide +kernel
theorem d_MO_areTogether_47 : decode prog_9_method_46_code 47 = .ok (.goto (-45), 3) := by decide +kernel
theorem d_MO_areTogether_50 : decode prog_9_method_46_code 50 = .ok (.iconst 1, 1) := by decide +kernel
theorem d_MO_areTogether_51 : decode prog_9_method_46_code 51 = .ok (.ireturn, 1) := by decide +kernel
set_option maxHeartbeats 4000000 in
set_option maxRecDepth 100000 in
theorem c_MO_areTogether (l : Launch) (dC : Nat → ClassId) (dI : Nat → Nat → Nat) (cI cJ cZ : ClassId) (o fF fG fT fN fW fO fB fS fD : Nat) (th be bz : Int32) (nd ar sz : Nat) (Sp : Nat → Nat) (D : Nat → Bool) (hsz : sz ≤ 8192) (a b : Nat) (ha : a < 14) (hb_ : b < 14) : Met l ⟨"CutPointsModel", "areTogether", "(II)Z"⟩ (Cond.code ⟨"CutPointsModel", "areTogether", "(II)Z"⟩ prog_9_method_46_code 4 (some .boolean) :: TT) (rmk 0 0) (PR dC dI cI cJ cZ [.ref o, .int (nI a), .int (nI b)] [(o, .inr (7, [.int th, .int (nI nd), .int (nI ar), .ref fF, .ref fG, .ref fT, .ref fN, .ref fW, .int be, .ref fO, .ref fB, .int bz, .ref fS, .ref fD, .int (nI sz)])), (fS, .inl (cI, 8192, .inl (nF Sp))), (fD, .inl (cZ, 8192, .inl (bF D)))]) (vp_Si (fun r => r = bI (dc (tgR Sp D sz a b)))) 0 0 (fun _ => False) := by
  refine Met.ofW (cc := prog_9_method_46_code) (maxL := 4) (ret := (some .boolean)) (by decide) rfl ?_
  intro p e s m args below meth c s₁ BB9 hml hv
  obtain ⟨rfl, hP, hK⟩ := hv
  have hx := BB9.exec
  have hb := BB9.bytes
  have hr := BB9.returns
  have hts : ∀ w ∈ TT, w.before _ s = true := fun w h => atoms_spec (ws := (Cond.code ⟨"CutPointsModel", "areTogether", "(II)Z"⟩ prog_9_method_46_code 4 (some .boolean) :: TT)) BB9.pre w (List.mem_cons_of_mem _ h)
  have hown : s.vm.findClass "CutPointsModel" = some m.cls := findClass_of_methodNamed BB9.named
  have hlocks := BB9.notSynchronized
  have hl := lv_entry ([.ref o, .int (nI a), .int (nI b)]) (n := 4) (Nat.le_of_ble_eq_true rfl)
  rw [lg_entry_eq]
  generalize (lg_sl ([.ref o, .int (nI a), .int (nI b)]) ++ List.replicate (4 - (lg_sl ([.ref o, .int (nI a), .int (nI b)])).length) Slot.unset).toArray = ls at hl ⊢
  have hl : lv_has ls 4 [(0, .ref o), (1, .int (nI a)), (2, .int (nI b))] := hl
  refine lv_iconst (v := (nI 0)) hx hb d_MO_areTogether_0 (by decide) ?_
  refine lv_istore_n (lv' := [(3, .int (nI 0)), (0, .ref o), (1, .int (nI a)), (2, .int (nI b))]) hx hb d_MO_areTogether_1 rfl hl (by decide) rfl (fun ls hl => ?_)
  have L2_1 : ∀ (n : Nat) (i : Nat) (hn : sz - i < n) (hi : i ≤ sz) (ht : ∀ k, k < i → D k = true → bt (nI (Sp k)) a = bt (nI (Sp k)) b) (ls : Array Slot) (hl : lv_has ls 4 [(0, .ref o), (1, .int (nI a)), (2, .int (nI b)), (3, .int (nI i))]), W p l e (headSpec (Cond.code ⟨"CutPointsModel", "areTogether", "(II)Z"⟩ prog_9_method_46_code 4 (some .boolean) :: TT) (rmk 0 0)).room s m ([.ref o, .int (nI a), .int (nI b)] : List Value).toArray below meth c s.heap [] 0 0 (MQ below (vp_Si (fun r => r = bI (dc (tgR Sp D sz a b)))) ([.ref o, .int (nI a), .int (nI b)] : List Value).toArray s 0 0 (fun _ => False)) (F0 m 2 ls []) := by
    intro n_2
    induction n_2 with
    | zero =>
      intro i hn_2
      exact absurd hn_2 (Nat.not_lt_zero _)
    | succ n_2 ih_2 =>
      intro i hn_2 hi ht ls hl
      refine lv_iload_n hx hb d_MO_areTogether_2 rfl (lv_at hl 3 rfl) ?_
      refine lv_aload_n hx hb d_MO_areTogether_3 rfl (lv_at hl 0 rfl) ?_
      refine va_get (D := (dC, dI)) (ci := 7) (v := .int (nI sz)) (C := R_MO) (T := F_MO) (N := 15) hx hb hts in_MO hown hK.1 hP 0 rfl rfl 14 (by decide) (hts _ wfl_MO_135) (fun _ h9 => h9) rfl d_MO_areTogether_4 ?_
      refine x_cmp_ge (a := i) (b := sz) (tgt := 50) hx hb (by omega) (by omega) d_MO_areTogether_7 (by decide) (fun c_2 => ?_) (fun c_2 => ?_)
      · skip
        refine lv_iconst (v := (nI 1)) hx hb d_MO_areTogether_50 (by decide) ?_
        refine xe_i (y := bI true) rfl ?_
        exact W.zret (v := (bI true)) hx hb hr (bI_nar _) (fun t9 ht9 _ => ⟨_, rfl, (by rw [(dc_t (P := (tgR Sp D sz a b))).mpr (fun k hk => ht k (by omega))]), ht9⟩) t_nil d_MO_areTogether_51
      · skip
        refine lv_aload_n hx hb d_MO_areTogether_10 rfl (lv_at hl 0 rfl) ?_
        refine va_get (D := (dC, dI)) (ci := 7) (v := .ref fD) (C := R_MO) (T := F_MO) (N := 15) hx hb hts in_MO hown hK.1 hP 0 rfl rfl 13 (by decide) (hts _ wfl_MO_35) (fun _ h9 => h9) rfl d_MO_areTogether_11 ?_
        refine lv_iload_n hx hb d_MO_areTogether_14 rfl (lv_at hl 3 rfl) ?_
        refine x_zald (n := 8192) (f := (bF D)) (j := i) hx hb hK.1 hP 2 2 rfl rfl (by omega) (by omega) d_MO_areTogether_15 ?_
        refine xe_i (y := (bI (D i))) rfl ?_
        refine x_if_eq (tgt := 44) hx hb d_MO_areTogether_16 (by decide) (fun c_3 => ?_) (fun c_3 => ?_)
        · skip
          refine lv_iinc (v := (nI (i + 1))) (lv' := [(3, .int (nI (i + 1))), (0, .ref o), (1, .int (nI a)), (2, .int (nI b))]) hx hb d_MO_areTogether_44 hl (k := 3) rfl (nI_1 _) (by decide) rfl (fun ls hl => ?_)
          refine lv_goto (tgt := 2) hx hb d_MO_areTogether_47 (by decide) ?_
          exact ih_2 (i + 1) (by omega) (by first | assumption | omega) (lt_s ht (fun z9 => by rw [c_3] at z9; cases z9)) ls (lv_sub hl [1, 2, 3, 0] rfl)
        · skip
          refine lv_aload_n hx hb d_MO_areTogether_19 rfl (lv_at hl 0 rfl) ?_
          refine va_get (D := (dC, dI)) (ci := 7) (v := .ref fS) (C := R_MO) (T := F_MO) (N := 15) hx hb hts in_MO hown hK.1 hP 0 rfl rfl 12 (by decide) (hts _ wfl_MO_32) (fun _ h9 => h9) rfl d_MO_areTogether_20 ?_
          refine lv_iload_n hx hb d_MO_areTogether_23 rfl (lv_at hl 3 rfl) ?_
          refine x_iald (n := 8192) (f := (nF Sp)) (j := i) hx hb hK.1 hP 1 0 rfl rfl (by omega) (by omega) d_MO_areTogether_24 ?_
          refine xe_i (y := (nI (Sp i))) rfl ?_
          refine lv_iload_n hx hb d_MO_areTogether_25 rfl (lv_at hl 1 rfl) ?_
          refine lv_ishr hx hb d_MO_areTogether_26 ?_
          refine lv_iconst (v := (nI 1)) hx hb d_MO_areTogether_27 (by decide) ?_
          refine lv_iand hx hb d_MO_areTogether_28 ?_
          refine xe_i (y := (bI (bt (nI (Sp i)) a))) (sh1 (by omega)) ?_
          refine lv_aload_n hx hb d_MO_areTogether_29 rfl (lv_at hl 0 rfl) ?_
          refine va_get (D := (dC, dI)) (ci := 7) (v := .ref fS) (C := R_MO) (T := F_MO) (N := 15) hx hb hts in_MO hown hK.1 hP 0 rfl rfl 12 (by decide) (hts _ wfl_MO_32) (fun _ h9 => h9) rfl d_MO_areTogether_30 ?_
          refine lv_iload_n hx hb d_MO_areTogether_33 rfl (lv_at hl 3 rfl) ?_
          refine x_iald (n := 8192) (f := (nF Sp)) (j := i) hx hb hK.1 hP 1 0 rfl rfl (by omega) (by omega) d_MO_areTogether_34 ?_
          refine xe_i (y := (nI (Sp i))) rfl ?_
          refine lv_iload_n hx hb d_MO_areTogether_35 rfl (lv_at hl 2 rfl) ?_
          refine lv_ishr hx hb d_MO_areTogether_36 ?_
          refine lv_iconst (v := (nI 1)) hx hb d_MO_areTogether_37 (by decide) ?_
          refine lv_iand hx hb d_MO_areTogether_38 ?_
          refine xe_i (y := (bI (bt (nI (Sp i)) b))) (sh1 (by omega)) ?_
          refine x_cmpb_eq (tgt := 44) hx hb d_MO_areTogether_39 (by decide) (fun c_4 => ?_) (fun c_4 => ?_)
          · skip
            refine lv_iinc (v := (nI (i + 1))) (lv' := [(3, .int (nI (i + 1))), (0, .ref o), (1, .int (nI a)), (2, .int (nI b))]) hx hb d_MO_areTogether_44 hl (k := 3) rfl (nI_1 _) (by decide) rfl (fun ls hl => ?_)
            refine lv_goto (tgt := 2) hx hb d_MO_areTogether_47 (by decide) ?_
            exact ih_2 (i + 1) (by omega) (by first | assumption | omega) (lt_s ht (fun _ => c_4)) ls (lv_sub hl [1, 2, 3, 0] rfl)
          · skip
            refine lv_iconst (v := (nI 0)) hx hb d_MO_areTogether_42 (by decide) ?_
            refine xe_i (y := bI false) rfl ?_
            exact W.zret (v := (bI false)) hx hb hr (bI_nar _) (fun t9 ht9 _ => ⟨_, rfl, (by rw [(dc_f (P := (tgR Sp D sz a b))).mpr (fun z9 => c_4 (z9 i (by assumption) c_3))]), ht9⟩) t_nil d_MO_areTogether_43
  exact L2_1 ((sz - 0) + 1) 0 (Nat.lt_succ_self _) (by first | assumption | omega) (fun n hn => absurd hn (Nat.not_lt_zero _)) ls (lv_sub hl [1, 2, 3, 0] rfl)

theorem d_MO_laySplits_0 : decode prog_9_method_45_code 0 = .ok (.iconst 1, 1) := by decide +kernel
theorem d_MO_laySplits_1 : decode prog_9_method_45_code 1 = .ok (.aload_n 0, 1) := by decide +kernel
theorem d_MO_laySplits_2 : decode prog_9_method_45_code 2 = .ok (.getfield 132, 3) := by decide +kernel
theorem d_MO_laySplits_5 : decode prog_9_method_45_code 5 = .ok (.ishl, 1) := by decide +kernel
theorem d_MO_laySplits_6 : decode prog_9_method_45_code 6 = .ok (.iconst 1, 1) := by decide +kernel
theorem d_MO_laySplits_7 : decode prog_9_method_45_code 7 = .ok (.isub, 1) := by decide +kernel
theorem d_MO_laySplits_8 : decode prog_9_method_45_code 8 = .ok (.istore_n 1, 1) := by decide +kernel
theorem d_MO_laySplits_9 : decode prog_9_method_45_code 9 = .ok (.aload_n 0, 1) := by decide +kernel
theorem d_MO_laySplits_10 : decode prog_9_method_45_code 10 = .ok (.iconst 0, 1) := by decide +kernel
theorem d_MO_laySplits_11 : decode prog_9_method_45_code 11 = .ok (.putfield 135, 3) := by decide +kernel
theorem d_MO_laySplits_14 : decode prog_9_method_45_code 14 = .ok (.iconst 1, 1) := by decide +kernel
theorem d_MO_laySplits_15 : decode prog_9_method_45_code 15 = .ok (.istore_n 2, 1) := by decide +kernel
theorem d_MO_laySplits_16 : decode prog_9_method_45_code 16 = .ok (.iload_n 2, 1) := by decide +kernel
theorem d_MO_laySplits_17 : decode prog_9_method_45_code 17 = .ok (.iload_n 1, 1) := by decide +kernel
theorem d_MO_laySplits_18 : decode prog_9_method_45_code 18 = .ok (.if_icmp .ge 69, 3) := by decide +kernel
theorem d_MO_laySplits_21 : decode prog_9_method_45_code 21 = .ok (.iload_n 1, 1) := by decide +kernel
theorem d_MO_laySplits_22 : decode prog_9_method_45_code 22 = .ok (.iload_n 2, 1) := by decide +kernel
theorem d_MO_laySplits_23 : decode prog_9_method_45_code 23 = .ok (.iconst (-1), 1) := by decide +kernel
theorem d_MO_laySplits_24 : decode prog_9_method_45_code 24 = .ok (.ixor, 1) := by decide +kernel
theorem d_MO_laySplits_25 : decode prog_9_method_45_code 25 = .ok (.iand, 1) := by decide +kernel
theorem d_MO_laySplits_26 : decode prog_9_method_45_code 26 = .ok (.istore_n 3, 1) := by decide +kernel
theorem d_MO_laySplits_27 : decode prog_9_method_45_code 27 = .ok (.iload_n 2, 1) := by decide +kernel
theorem d_MO_laySplits_28 : decode prog_9_method_45_code 28 = .ok (.invokestatic 92, 3) := by decide +kernel
theorem d_MO_laySplits_31 : decode prog_9_method_45_code 31 = .ok (.iconst 1, 1) := by decide +kernel
theorem d_MO_laySplits_32 : decode prog_9_method_45_code 32 = .ok (.if_icmp .le 49, 3) := by decide +kernel
theorem d_MO_laySplits_35 : decode prog_9_method_45_code 35 = .ok (.iload_n 3, 1) := by decide +kernel
theorem d_MO_laySplits_36 : decode prog_9_method_45_code 36 = .ok (.invokestatic 92, 3) := by decide +kernel
theorem d_MO_laySplits_39 : decode prog_9_method_45_code 39 = .ok (.iconst 1, 1) := by decide +kernel
theorem d_MO_laySplits_40 : decode prog_9_method_45_code 40 = .ok (.if_icmp .le 41, 3) := by decide +kernel
theorem d_MO_laySplits_43 : decode prog_9_method_45_code 43 = .ok (.aload_n 0, 1) := by decide +kernel
theorem d_MO_laySplits_44 : decode prog_9_method_45_code 44 = .ok (.iload_n 2, 1) := by decide +kernel
theorem d_MO_laySplits_45 : decode prog_9_method_45_code 45 = .ok (.invokevirtual 138, 3) := by decide +kernel
theorem d_MO_laySplits_48 : decode prog_9_method_45_code 48 = .ok (.aload_n 0, 1) := by decide +kernel
theorem d_MO_laySplits_49 : decode prog_9_method_45_code 49 = .ok (.iload_n 3, 1) := by decide +kernel
theorem d_MO_laySplits_50 : decode prog_9_method_45_code 50 = .ok (.invokevirtual 138, 3) := by decide +kernel
theorem d_MO_laySplits_53 : decode prog_9_method_45_code 53 = .ok (.iand, 1) := by decide +kernel
theorem d_MO_laySplits_54 : decode prog_9_method_45_code 54 = .ok (.invokestatic 92, 3) := by decide +kernel
theorem d_MO_laySplits_57 : decode prog_9_method_45_code 57 = .ok (.iconst 2, 1) := by decide +kernel
theorem d_MO_laySplits_58 : decode prog_9_method_45_code 58 = .ok (.if_icmp .ne 23, 3) := by decide +kernel
theorem d_MO_laySplits_61 : decode prog_9_method_45_code 61 = .ok (.aload_n 0, 1) := by decide +kernel
theorem d_MO_laySplits_62 : decode prog_9_method_45_code 62 = .ok (.getfield 32, 3) := by decide +kernel
theorem d_MO_laySplits_65 : decode prog_9_method_45_code 65 = .ok (.aload_n 0, 1) := by decide +kernel
theorem d_MO_laySplits_66 : decode prog_9_method_45_code 66 = .ok (.getfield 135, 3) := by decide +kernel
theorem d_MO_laySplits_69 : decode prog_9_method_45_code 69 = .ok (.iload_n 2, 1) := by decide +kernel
theorem d_MO_laySplits_70 : decode prog_9_method_45_code 70 = .ok (.iastore, 1) := by decide +kernel
theorem d_MO_laySplits_71 : decode prog_9_method_45_code 71 = .ok (.aload_n 0, 1) := by decide +kernel
theorem d_MO_laySplits_72 : decode prog_9_method_45_code 72 = .ok (.dup, 1) := by decide +kernel
theorem d_MO_laySplits_73 : decode prog_9_method_45_code 73 = .ok (.getfield 135, 3) := by decide +kernel
theorem d_MO_laySplits_76 : decode prog_9_method_45_code 76 = .ok (.iconst 1, 1) := by decide +kernel
theorem d_MO_laySplits_77 : decode prog_9_method_45_code 77 = .ok (.iadd, 1) := by decide +kernel
theorem d_MO_laySplits_78 : decode prog_9_method_45_code 78 = .ok (.putfield 135, 3) := by decide +kernel
theorem d_MO_laySplits_81 : decode prog_9_method_45_code 81 = .ok (.iinc 2 2, 3) := by decide +kernel
theorem d_MO_laySplits_84 : decode prog_9_method_45_code 84 = .ok (.goto (-68), 3) := by decide +kernel
theorem d_MO_laySplits_87 : decode prog_9_method_45_code 87 = .ok (.iconst 0, 1) := by decide +kernel
theorem d_MO_laySplits_88 : decode prog_9_method_45_code 88 = .ok (.istore_n 2, 1) := by decide +kernel
theorem d_MO_laySplits_89 : decode prog_9_method_45_code 89 = .ok (.iload_n 2, 1) := by decide +kernel
theorem d_MO_laySplits_90 : decode prog_9_method_45_code 90 = .ok (.aload_n 0, 1) := by decide +kernel
theorem d_MO_laySplits_91 : decode prog_9_method_45_code 91 = .ok (.getfield 135, 3) := by decide +kernel
theorem d_MO_laySplits_94 : decode prog_9_method_45_code 94 = .ok (.if_icmp .ge 122, 3) := by decide +kernel
theorem d_MO_laySplits_97 : decode prog_9_method_45_code 97 = .ok (.aload_n 0, 1) := by decide +kernel
theorem d_MO_laySplits_98 : decode prog_9_method_45_code 98 = .ok (.getfield 35, 3) := by decide +kernel
theorem d_MO_laySplits_101 : decode prog_9_method_45_code 101 = .ok (.iload_n 2, 1) := by decide +kernel
theorem d_MO_laySplits_102 : decode prog_9_method_45_code 102 = .ok (.iconst 1, 1) := by decide +kernel
theorem d_MO_laySplits_103 : decode prog_9_method_45_code 103 = .ok (.bastore, 1) := by decide +kernel
theorem d_MO_laySplits_104 : decode prog_9_method_45_code 104 = .ok (.iconst 0, 1) := by decide +kernel
theorem d_MO_laySplits_105 : decode prog_9_method_45_code 105 = .ok (.istore_n 3, 1) := by decide +kernel
theorem d_MO_laySplits_106 : decode prog_9_method_45_code 106 = .ok (.iload_n 3, 1) := by decide +kernel
theorem d_MO_laySplits_107 : decode prog_9_method_45_code 107 = .ok (.aload_n 0, 1) := by decide +kernel
theorem d_MO_laySplits_108 : decode prog_9_method_45_code 108 = .ok (.getfield 135, 3) := by decide +kernel
theorem d_MO_laySplits_111 : decode prog_9_method_45_code 111 = .ok (.if_icmp .ge 99, 3) := by decide +kernel
theorem d_MO_laySplits_114 : decode prog_9_method_45_code 114 = .ok (.aload_n 0, 1) := by decide +kernel
theorem d_MO_laySplits_115 : decode prog_9_method_45_code 115 = .ok (.getfield 35, 3) := by decide +kernel
theorem d_MO_laySplits_118 : decode prog_9_method_45_code 118 = .ok (.iload_n 2, 1) := by decide +kernel
theorem d_MO_laySplits_119 : decode prog_9_method_45_code 119 = .ok (.baload, 1) := by decide +kernel
theorem d_MO_laySplits_120 : decode prog_9_method_45_code 120 = .ok (.ifCond .eq 90, 3) := by decide +kernel
theorem d_MO_laySplits_123 : decode prog_9_method_45_code 123 = .ok (.aload_n 0, 1) := by decide +kernel
theorem d_MO_laySplits_124 : decode prog_9_method_45_code 124 = .ok (.getfield 32, 3) := by decide +kernel
theorem d_MO_laySplits_127 : decode prog_9_method_45_code 127 = .ok (.iload_n 2, 1) := by decide +kernel
theorem d_MO_laySplits_128 : decode prog_9_method_45_code 128 = .ok (.iaload, 1) := by decide +kernel
theorem d_MO_laySplits_129 : decode prog_9_method_45_code 129 = .ok (.istore 4, 2) := by decide +kernel
theorem d_MO_laySplits_131 : decode prog_9_method_45_code 131 = .ok (.aload_n 0, 1) := by decide +kernel
theorem d_MO_laySplits_132 : decode prog_9_method_45_code 132 = .ok (.getfield 32, 3) := by decide +kernel
theorem d_MO_laySplits_135 : decode prog_9_method_45_code 135 = .ok (.iload_n 3, 1) := by decide +kernel
theorem d_MO_laySplits_136 : decode prog_9_method_45_code 136 = .ok (.iaload, 1) := by decide +kernel
theorem d_MO_laySplits_137 : decode prog_9_method_45_code 137 = .ok (.istore 5, 2) := by decide +kernel
theorem d_MO_laySplits_139 : decode prog_9_method_45_code 139 = .ok (.iload 4, 2) := by decide +kernel
theorem d_MO_laySplits_141 : decode prog_9_method_45_code 141 = .ok (.iload 5, 2) := by decide +kernel
theorem d_MO_laySplits_143 : decode prog_9_method_45_code 143 = .ok (.iand, 1) := by decide +kernel
theorem d_MO_laySplits_144 : decode prog_9_method_45_code 144 = .ok (.ifCond .eq 41, 3) := by decide +kernel
theorem d_MO_laySplits_147 : decode prog_9_method_45_code 147 = .ok (.iload 4, 2) := by decide +kernel
theorem d_MO_laySplits_149 : decode prog_9_method_45_code 149 = .ok (.iload 5, 2) := by decide +kernel
theorem d_MO_laySplits_151 : decode prog_9_method_45_code 151 = .ok (.iconst (-1), 1) := by decide +kernel
theorem d_MO_laySplits_152 : decode prog_9_method_45_code 152 = .ok (.ixor, 1) := by decide +kernel
theorem d_MO_laySplits_153 : decode prog_9_method_45_code 153 = .ok (.iand, 1) := by decide +kernel
theorem d_MO_laySplits_154 : decode prog_9_method_45_code 154 = .ok (.ifCond .eq 31, 3) := by decide +kernel
theorem d_MO_laySplits_157 : decode prog_9_method_45_code 157 = .ok (.iload 5, 2) := by decide +kernel
theorem d_MO_laySplits_159 : decode prog_9_method_45_code 159 = .ok (.iload 4, 2) := by decide +kernel
theorem d_MO_laySplits_161 : decode prog_9_method_45_code 161 = .ok (.iconst (-1), 1) := by decide +kernel
theorem d_MO_laySplits_162 : decode prog_9_method_45_code 162 = .ok (.ixor, 1) := by decide +kernel
theorem d_MO_laySplits_163 : decode prog_9_method_45_code 163 = .ok (.iand, 1) := by decide +kernel
theorem d_MO_laySplits_164 : decode prog_9_method_45_code 164 = .ok (.ifCond .eq 21, 3) := by decide +kernel
theorem d_MO_laySplits_167 : decode prog_9_method_45_code 167 = .ok (.iload_n 1, 1) := by decide +kernel
theorem d_MO_laySplits_168 : decode prog_9_method_45_code 168 = .ok (.iload 4, 2) := by decide +kernel
theorem d_MO_laySplits_170 : decode prog_9_method_45_code 170 = .ok (.iconst (-1), 1) := by decide +kernel
theorem d_MO_laySplits_171 : decode prog_9_method_45_code 171 = .ok (.ixor, 1) := by decide +kernel
theorem d_MO_laySplits_172 : decode prog_9_method_45_code 172 = .ok (.iand, 1) := by decide +kernel
theorem d_MO_laySplits_173 : decode prog_9_method_45_code 173 = .ok (.iload 5, 2) := by decide +kernel
theorem d_MO_laySplits_175 : decode prog_9_method_45_code 175 = .ok (.iconst (-1), 1) := by decide +kernel
theorem d_MO_laySplits_176 : decode prog_9_method_45_code 176 = .ok (.ixor, 1) := by decide +kernel
theorem d_MO_laySplits_177 : decode prog_9_method_45_code 177 = .ok (.iand, 1) := by decide +kernel
theorem d_MO_laySplits_178 : decode prog_9_method_45_code 178 = .ok (.ifCond .eq 7, 3) := by decide +kernel
theorem d_MO_laySplits_181 : decode prog_9_method_45_code 181 = .ok (.iconst 1, 1) := by decide +kernel
theorem d_MO_laySplits_182 : decode prog_9_method_45_code 182 = .ok (.goto 4, 3) := by decide +kernel
theorem d_MO_laySplits_185 : decode prog_9_method_45_code 185 = .ok (.iconst 0, 1) := by decide +kernel
theorem d_MO_laySplits_186 : decode prog_9_method_45_code 186 = .ok (.istore 6, 2) := by decide +kernel
theorem d_MO_laySplits_188 : decode prog_9_method_45_code 188 = .ok (.aload_n 0, 1) := by decide +kernel
theorem d_MO_laySplits_189 : decode prog_9_method_45_code 189 = .ok (.getfield 35, 3) := by decide +kernel
theorem d_MO_laySplits_192 : decode prog_9_method_45_code 192 = .ok (.iload_n 2, 1) := by decide +kernel
theorem d_MO_laySplits_193 : decode prog_9_method_45_code 193 = .ok (.iload 6, 2) := by decide +kernel
theorem d_MO_laySplits_195 : decode prog_9_method_45_code 195 = .ok (.ifCond .ne 7, 3) := by decide +kernel
theorem d_MO_laySplits_198 : decode prog_9_method_45_code 198 = .ok (.iconst 1, 1) := by decide +kernel
theorem d_MO_laySplits_199 : decode prog_9_method_45_code 199 = .ok (.goto 4, 3) := by decide +kernel
theorem d_MO_laySplits_202 : decode prog_9_method_45_code 202 = .ok (.iconst 0, 1) := by decide +kernel
theorem d_MO_laySplits_203 : decode prog_9_method_45_code 203 = .ok (.bastore, 1) := by decide +kernel
theorem d_MO_laySplits_204 : decode prog_9_method_45_code 204 = .ok (.iinc 3 1, 3) := by decide +kernel
theorem d_MO_laySplits_207 : decode prog_9_method_45_code 207 = .ok (.goto (-101), 3) := by decide +kernel
theorem d_MO_laySplits_210 : decode prog_9_method_45_code 210 = .ok (.iinc 2 1, 3) := by decide +kernel
theorem d_MO_laySplits_213 : decode prog_9_method_45_code 213 = .ok (.goto (-124), 3) := by decide +kernel
theorem d_MO_laySplits_216 : decode prog_9_method_45_code 216 = .ok (.return_, 1) := by decide +kernel
set_option maxHeartbeats 4000000 in
set_option maxRecDepth 100000 in
theorem c_MO_laySplits (l : Launch) (dC : Nat → ClassId) (dI : Nat → Nat → Nat) (cI cJ cZ : ClassId) (o fF fG fT fN fW fO fB fS fD : Nat) (th be sz : Int32) (nd ar bz : Nat) (F G : Nat → Nat) (hF : ∀ k, F k < 14) (hG : ∀ k, G k < 14) (Ob Sp0 : Nat → Nat) (D0 : Nat → Bool) (hOb : ∀ k, k < bz → Ob k < 41) (hbz : bz ≤ 14) (hbz1 : 1 ≤ bz) : Met l ⟨"CutPointsModel", "laySplits", "()V"⟩ (Cond.code ⟨"CutPointsModel", "laySplits", "()V"⟩ prog_9_method_45_code 7 none :: TT) (rmk 1 23) (PM dC dI cI cJ cZ [.ref o] [(o, .inr (7, [.int th, .int (nI nd), .int (nI ar), .ref fF, .ref fG, .ref fT, .ref fN, .ref fW, .int be, .ref fO, .ref fB, .int (nI bz), .ref fS, .ref fD, .int sz])), (fF, .inl (cI, 41, .inl (nF F))), (fG, .inl (cI, 41, .inl (nF G))), (fB, .inl (cI, 41, .inl (nF Ob))), (fS, .inl (cI, 8192, .inl (nF Sp0))), (fD, .inl (cZ, 8192, .inl (bF D0)))]) (va_Qv (S := Nat × (Nat → Nat) × (Nat → Bool)) (fun u9 => lbI (spQ F G Ob bz) u9.2.1 u9.1 (2 ^ bz - 1) ∧ gdO bz u9.2.1 u9.2.2 u9.1 u9.1 ∧ 2 * u9.1 ≤ (2 ^ bz - 1)) (fun u9 t9 => va_P (dC, dI) cls ([(o, .inr (7, [.int th, .int (nI nd), .int (nI ar), .ref fF, .ref fG, .ref fT, .ref fN, .ref fW, .int be, .ref fO, .ref fB, .int (nI bz), .ref fS, .ref fD, .int (nI u9.1)])), (fF, .inl (cI, 41, .inl (nF F))), (fG, .inl (cI, 41, .inl (nF G))), (fB, .inl (cI, 41, .inl (nF Ob))), (fS, .inl (cI, 8192, .inl (nF u9.2.1))), (fD, .inl (cZ, 8192, .inl (bF u9.2.2)))]) t9.heap) (ow [(o, .inr (7, [.int th, .int (nI nd), .int (nI ar), .ref fF, .ref fG, .ref fT, .ref fN, .ref fW, .int be, .ref fO, .ref fB, .int (nI bz), .ref fS, .ref fD, .int sz])), (fF, .inl (cI, 41, .inl (nF F))), (fG, .inl (cI, 41, .inl (nF G))), (fB, .inl (cI, 41, .inl (nF Ob))), (fS, .inl (cI, 8192, .inl (nF Sp0))), (fD, .inl (cZ, 8192, .inl (bF D0)))])) 0 0 (ow [(o, .inr (7, [.int th, .int (nI nd), .int (nI ar), .ref fF, .ref fG, .ref fT, .ref fN, .ref fW, .int be, .ref fO, .ref fB, .int (nI bz), .ref fS, .ref fD, .int sz])), (fF, .inl (cI, 41, .inl (nF F))), (fG, .inl (cI, 41, .inl (nF G))), (fB, .inl (cI, 41, .inl (nF Ob))), (fS, .inl (cI, 8192, .inl (nF Sp0))), (fD, .inl (cZ, 8192, .inl (bF D0)))]) := by
  refine Met.ofW (cc := prog_9_method_45_code) (maxL := 7) (ret := none) (by decide) rfl ?_
  intro p e s m args below meth c s₁ BB9 hml hv
  obtain ⟨rfl, hP, hK, hD0⟩ := hv
  have hx := BB9.exec
  have hb := BB9.bytes
  have hr := BB9.returns
  have hts : ∀ w ∈ TT, w.before _ s = true := fun w h => atoms_spec (ws := (Cond.code ⟨"CutPointsModel", "laySplits", "()V"⟩ prog_9_method_45_code 7 none :: TT)) BB9.pre w (List.mem_cons_of_mem _ h)
  have hown : s.vm.findClass "CutPointsModel" = some m.cls := findClass_of_methodNamed BB9.named
  have hlocks := BB9.notSynchronized
  have hD := hD0.mine
  have hS : va_S (ow [(o, .inr (7, [.int th, .int (nI nd), .int (nI ar), .ref fF, .ref fG, .ref fT, .ref fN, .ref fW, .int be, .ref fO, .ref fB, .int (nI bz), .ref fS, .ref fD, .int sz])), (fF, .inl (cI, 41, .inl (nF F))), (fG, .inl (cI, 41, .inl (nF G))), (fB, .inl (cI, 41, .inl (nF Ob))), (fS, .inl (cI, 8192, .inl (nF Sp0))), (fD, .inl (cZ, 8192, .inl (bF D0)))]) s.heap s.heap [] := va_S.rf
  have hpw := pow_le bz (by omega)
  have hpo := pow_odd bz (by omega) hbz1
  have hp1 : 1 ≤ 2 ^ bz := Nat.one_le_two_pow
  have hl := lv_entry ([.ref o]) (n := 7) (Nat.le_of_ble_eq_true rfl)
  rw [lg_entry_eq]
  generalize (lg_sl ([.ref o]) ++ List.replicate (7 - (lg_sl ([.ref o])).length) Slot.unset).toArray = ls at hl ⊢
  have hl : lv_has ls 7 [(0, .ref o)] := hl
  refine lv_iconst (v := (nI 1)) hx hb d_MO_laySplits_0 (by decide) ?_
  refine lv_aload_n hx hb d_MO_laySplits_1 rfl (lv_at hl 0 rfl) ?_
  refine va_get (D := (dC, dI)) (ci := 7) (v := .int (nI bz)) (C := R_MO) (T := F_MO) (N := 15) hx hb hts in_MO hown hK.1 hP 0 rfl rfl 11 (by decide) (hts _ wfl_MO_132) (fun _ h9 => h9) rfl d_MO_laySplits_2 ?_
  refine lv_ishl hx hb d_MO_laySplits_5 ?_
  refine xe_i (y := (sb bz)) rfl ?_
  refine lv_iconst (v := (nI 1)) hx hb d_MO_laySplits_6 (by decide) ?_
  refine lv_isub hx hb d_MO_laySplits_7 ?_
  refine xe_i (y := (nI (2 ^ bz - 1))) (sb_pow1 bz (by omega)) ?_
  refine lv_istore_n (lv' := [(1, .int (nI (2 ^ bz - 1))), (0, .ref o)]) hx hb d_MO_laySplits_8 rfl hl (by decide) rfl (fun ls hl => ?_)
  refine lv_aload_n hx hb d_MO_laySplits_9 rfl (lv_at hl 1 rfl) ?_
  refine lv_iconst (v := (nI 0)) hx hb d_MO_laySplits_10 (by decide) ?_
  refine va_put (D := (dC, dI)) (ci := 7) (v := .int (nI 0)) (ty := .int) (C := R_MO) (T := F_MO) (N := 15) hx hb hts in_MO t_MO t_MO_ok n_MO hown hK.1 hP hD hS 0 rfl rfl 14 (by decide) (hts _ wfl_MO_135) (fun _ h9 => h9) rfl (by decide +kernel) rfl rfl (Nat.le_of_ble_eq_true rfl) d_MO_laySplits_11 (fun H locs hP hD hS => ?_)
  have hP : va_P (dC, dI) cls [(o, .inr (7, [.int th, .int (nI nd), .int (nI ar), .ref fF, .ref fG, .ref fT, .ref fN, .ref fW, .int be, .ref fO, .ref fB, .int (nI bz), .ref fS, .ref fD, .int (nI 0)])), (fF, .inl (cI, 41, .inl (nF F))), (fG, .inl (cI, 41, .inl (nF G))), (fB, .inl (cI, 41, .inl (nF Ob))), (fS, .inl (cI, 8192, .inl (nF Sp0))), (fD, .inl (cZ, 8192, .inl (bF D0)))] H := hP
  have hD : va_D (ow [(o, .inr (7, [.int th, .int (nI nd), .int (nI ar), .ref fF, .ref fG, .ref fT, .ref fN, .ref fW, .int be, .ref fO, .ref fB, .int (nI bz), .ref fS, .ref fD, .int sz])), (fF, .inl (cI, 41, .inl (nF F))), (fG, .inl (cI, 41, .inl (nF G))), (fB, .inl (cI, 41, .inl (nF Ob))), (fS, .inl (cI, 8192, .inl (nF Sp0))), (fD, .inl (cZ, 8192, .inl (bF D0)))]) [(o, .inr (7, [.int th, .int (nI nd), .int (nI ar), .ref fF, .ref fG, .ref fT, .ref fN, .ref fW, .int be, .ref fO, .ref fB, .int (nI bz), .ref fS, .ref fD, .int (nI 0)])), (fF, .inl (cI, 41, .inl (nF F))), (fG, .inl (cI, 41, .inl (nF G))), (fB, .inl (cI, 41, .inl (nF Ob))), (fS, .inl (cI, 8192, .inl (nF Sp0))), (fD, .inl (cZ, 8192, .inl (bF D0)))] := hD
  refine lv_iconst (v := (nI 1)) hx hb d_MO_laySplits_14 (by decide) ?_
  refine lv_istore_n (lv' := [(2, .int (nI 1)), (1, .int (nI (2 ^ bz - 1))), (0, .ref o)]) hx hb d_MO_laySplits_15 rfl hl (by decide) rfl (fun ls hl => ?_)
  have L16_1 : ∀ (n : Nat) (Sp1 : Nat → Nat) (q : Nat) (s0 : Nat) (hn : 16400 - s0 < n) (hs1 : s0 % 2 = 1) (hs2 : s0 ≤ (2 ^ bz - 1)) (hq : 2 * q + 1 ≤ s0) (hls : lbI (spQ F G Ob bz) Sp1 q s0) (H : Heap) (locs : List Loc) (hP : va_P (dC, dI) cls [(o, .inr (7, [.int th, .int (nI nd), .int (nI ar), .ref fF, .ref fG, .ref fT, .ref fN, .ref fW, .int be, .ref fO, .ref fB, .int (nI bz), .ref fS, .ref fD, .int (nI q)])), (fF, .inl (cI, 41, .inl (nF F))), (fG, .inl (cI, 41, .inl (nF G))), (fB, .inl (cI, 41, .inl (nF Ob))), (fS, .inl (cI, 8192, .inl (nF Sp1))), (fD, .inl (cZ, 8192, .inl (bF D0)))] H) (hD : va_D (ow [(o, .inr (7, [.int th, .int (nI nd), .int (nI ar), .ref fF, .ref fG, .ref fT, .ref fN, .ref fW, .int be, .ref fO, .ref fB, .int (nI bz), .ref fS, .ref fD, .int sz])), (fF, .inl (cI, 41, .inl (nF F))), (fG, .inl (cI, 41, .inl (nF G))), (fB, .inl (cI, 41, .inl (nF Ob))), (fS, .inl (cI, 8192, .inl (nF Sp0))), (fD, .inl (cZ, 8192, .inl (bF D0)))]) [(o, .inr (7, [.int th, .int (nI nd), .int (nI ar), .ref fF, .ref fG, .ref fT, .ref fN, .ref fW, .int be, .ref fO, .ref fB, .int (nI bz), .ref fS, .ref fD, .int (nI q)])), (fF, .inl (cI, 41, .inl (nF F))), (fG, .inl (cI, 41, .inl (nF G))), (fB, .inl (cI, 41, .inl (nF Ob))), (fS, .inl (cI, 8192, .inl (nF Sp1))), (fD, .inl (cZ, 8192, .inl (bF D0)))]) (hS : va_S (ow [(o, .inr (7, [.int th, .int (nI nd), .int (nI ar), .ref fF, .ref fG, .ref fT, .ref fN, .ref fW, .int be, .ref fO, .ref fB, .int (nI bz), .ref fS, .ref fD, .int sz])), (fF, .inl (cI, 41, .inl (nF F))), (fG, .inl (cI, 41, .inl (nF G))), (fB, .inl (cI, 41, .inl (nF Ob))), (fS, .inl (cI, 8192, .inl (nF Sp0))), (fD, .inl (cZ, 8192, .inl (bF D0)))]) s.heap H locs) (ls : Array Slot) (hl : lv_has ls 7 [(0, .ref o), (1, .int (nI (2 ^ bz - 1))), (2, .int (nI s0))]), W p l e (headSpec (Cond.code ⟨"CutPointsModel", "laySplits", "()V"⟩ prog_9_method_45_code 7 none :: TT) (rmk 1 23)).room s m ([.ref o] : List Value).toArray below meth c H locs 0 0 (MQ below (va_Qv (S := Nat × (Nat → Nat) × (Nat → Bool)) (fun u9 => lbI (spQ F G Ob bz) u9.2.1 u9.1 (2 ^ bz - 1) ∧ gdO bz u9.2.1 u9.2.2 u9.1 u9.1 ∧ 2 * u9.1 ≤ (2 ^ bz - 1)) (fun u9 t9 => va_P (dC, dI) cls ([(o, .inr (7, [.int th, .int (nI nd), .int (nI ar), .ref fF, .ref fG, .ref fT, .ref fN, .ref fW, .int be, .ref fO, .ref fB, .int (nI bz), .ref fS, .ref fD, .int (nI u9.1)])), (fF, .inl (cI, 41, .inl (nF F))), (fG, .inl (cI, 41, .inl (nF G))), (fB, .inl (cI, 41, .inl (nF Ob))), (fS, .inl (cI, 8192, .inl (nF u9.2.1))), (fD, .inl (cZ, 8192, .inl (bF u9.2.2)))]) t9.heap) (ow [(o, .inr (7, [.int th, .int (nI nd), .int (nI ar), .ref fF, .ref fG, .ref fT, .ref fN, .ref fW, .int be, .ref fO, .ref fB, .int (nI bz), .ref fS, .ref fD, .int sz])), (fF, .inl (cI, 41, .inl (nF F))), (fG, .inl (cI, 41, .inl (nF G))), (fB, .inl (cI, 41, .inl (nF Ob))), (fS, .inl (cI, 8192, .inl (nF Sp0))), (fD, .inl (cZ, 8192, .inl (bF D0)))])) ([.ref o] : List Value).toArray s 0 0 (ow [(o, .inr (7, [.int th, .int (nI nd), .int (nI ar), .ref fF, .ref fG, .ref fT, .ref fN, .ref fW, .int be, .ref fO, .ref fB, .int (nI bz), .ref fS, .ref fD, .int sz])), (fF, .inl (cI, 41, .inl (nF F))), (fG, .inl (cI, 41, .inl (nF G))), (fB, .inl (cI, 41, .inl (nF Ob))), (fS, .inl (cI, 8192, .inl (nF Sp0))), (fD, .inl (cZ, 8192, .inl (bF D0)))])) (F0 m 16 ls []) := by
    intro n_16
    induction n_16 with
    | zero =>
      intro Sp1 q s0 hn_16
      exact absurd hn_16 (Nat.not_lt_zero _)
    | succ n_16 ih_16 =>
      intro Sp1 q s0 hn_16 hs1 hs2 hq hls H locs hP hD hS ls hl
      refine lv_iload_n hx hb d_MO_laySplits_16 rfl (lv_at hl 2 rfl) ?_
      refine lv_iload_n hx hb d_MO_laySplits_17 rfl (lv_at hl 1 rfl) ?_
      refine x_cmp_ge (a := s0) (b := (2 ^ bz - 1)) (tgt := 87) hx hb (by omega) (by omega) d_MO_laySplits_18 (by decide) (fun c_2 => ?_) (fun c_2 => ?_)
      · skip
        refine lv_iconst (v := (nI 0)) hx hb d_MO_laySplits_87 (by decide) ?_
        refine lv_istore_n (lv' := [(2, .int (nI 0)), (0, .ref o), (1, .int (nI (2 ^ bz - 1)))]) hx hb d_MO_laySplits_88 rfl hl (by decide) rfl (fun ls hl => ?_)
        have L89_3 : ∀ (n : Nat) (D1 : Nat → Bool) (i : Nat) (hn : q - i < n) (hi : i ≤ q) (hg : gdO bz Sp1 D1 q i) (H : Heap) (locs : List Loc) (hP : va_P (dC, dI) cls [(o, .inr (7, [.int th, .int (nI nd), .int (nI ar), .ref fF, .ref fG, .ref fT, .ref fN, .ref fW, .int be, .ref fO, .ref fB, .int (nI bz), .ref fS, .ref fD, .int (nI q)])), (fF, .inl (cI, 41, .inl (nF F))), (fG, .inl (cI, 41, .inl (nF G))), (fB, .inl (cI, 41, .inl (nF Ob))), (fS, .inl (cI, 8192, .inl (nF Sp1))), (fD, .inl (cZ, 8192, .inl (bF D1)))] H) (hD : va_D (ow [(o, .inr (7, [.int th, .int (nI nd), .int (nI ar), .ref fF, .ref fG, .ref fT, .ref fN, .ref fW, .int be, .ref fO, .ref fB, .int (nI bz), .ref fS, .ref fD, .int sz])), (fF, .inl (cI, 41, .inl (nF F))), (fG, .inl (cI, 41, .inl (nF G))), (fB, .inl (cI, 41, .inl (nF Ob))), (fS, .inl (cI, 8192, .inl (nF Sp0))), (fD, .inl (cZ, 8192, .inl (bF D0)))]) [(o, .inr (7, [.int th, .int (nI nd), .int (nI ar), .ref fF, .ref fG, .ref fT, .ref fN, .ref fW, .int be, .ref fO, .ref fB, .int (nI bz), .ref fS, .ref fD, .int (nI q)])), (fF, .inl (cI, 41, .inl (nF F))), (fG, .inl (cI, 41, .inl (nF G))), (fB, .inl (cI, 41, .inl (nF Ob))), (fS, .inl (cI, 8192, .inl (nF Sp1))), (fD, .inl (cZ, 8192, .inl (bF D1)))]) (hS : va_S (ow [(o, .inr (7, [.int th, .int (nI nd), .int (nI ar), .ref fF, .ref fG, .ref fT, .ref fN, .ref fW, .int be, .ref fO, .ref fB, .int (nI bz), .ref fS, .ref fD, .int sz])), (fF, .inl (cI, 41, .inl (nF F))), (fG, .inl (cI, 41, .inl (nF G))), (fB, .inl (cI, 41, .inl (nF Ob))), (fS, .inl (cI, 8192, .inl (nF Sp0))), (fD, .inl (cZ, 8192, .inl (bF D0)))]) s.heap H locs) (ls : Array Slot) (hl : lv_has ls 7 [(0, .ref o), (1, .int (nI (2 ^ bz - 1))), (2, .int (nI i))]), W p l e (headSpec (Cond.code ⟨"CutPointsModel", "laySplits", "()V"⟩ prog_9_method_45_code 7 none :: TT) (rmk 1 23)).room s m ([.ref o] : List Value).toArray below meth c H locs 0 0 (MQ below (va_Qv (S := Nat × (Nat → Nat) × (Nat → Bool)) (fun u9 => lbI (spQ F G Ob bz) u9.2.1 u9.1 (2 ^ bz - 1) ∧ gdO bz u9.2.1 u9.2.2 u9.1 u9.1 ∧ 2 * u9.1 ≤ (2 ^ bz - 1)) (fun u9 t9 => va_P (dC, dI) cls ([(o, .inr (7, [.int th, .int (nI nd), .int (nI ar), .ref fF, .ref fG, .ref fT, .ref fN, .ref fW, .int be, .ref fO, .ref fB, .int (nI bz), .ref fS, .ref fD, .int (nI u9.1)])), (fF, .inl (cI, 41, .inl (nF F))), (fG, .inl (cI, 41, .inl (nF G))), (fB, .inl (cI, 41, .inl (nF Ob))), (fS, .inl (cI, 8192, .inl (nF u9.2.1))), (fD, .inl (cZ, 8192, .inl (bF u9.2.2)))]) t9.heap) (ow [(o, .inr (7, [.int th, .int (nI nd), .int (nI ar), .ref fF, .ref fG, .ref fT, .ref fN, .ref fW, .int be, .ref fO, .ref fB, .int (nI bz), .ref fS, .ref fD, .int sz])), (fF, .inl (cI, 41, .inl (nF F))), (fG, .inl (cI, 41, .inl (nF G))), (fB, .inl (cI, 41, .inl (nF Ob))), (fS, .inl (cI, 8192, .inl (nF Sp0))), (fD, .inl (cZ, 8192, .inl (bF D0)))])) ([.ref o] : List Value).toArray s 0 0 (ow [(o, .inr (7, [.int th, .int (nI nd), .int (nI ar), .ref fF, .ref fG, .ref fT, .ref fN, .ref fW, .int be, .ref fO, .ref fB, .int (nI bz), .ref fS, .ref fD, .int sz])), (fF, .inl (cI, 41, .inl (nF F))), (fG, .inl (cI, 41, .inl (nF G))), (fB, .inl (cI, 41, .inl (nF Ob))), (fS, .inl (cI, 8192, .inl (nF Sp0))), (fD, .inl (cZ, 8192, .inl (bF D0)))])) (F0 m 89 ls []) := by
          intro n_89
          induction n_89 with
          | zero =>
            intro D1 i hn_89
            exact absurd hn_89 (Nat.not_lt_zero _)
          | succ n_89 ih_89 =>
            intro D1 i hn_89 hi hg H locs hP hD hS ls hl
            refine lv_iload_n hx hb d_MO_laySplits_89 rfl (lv_at hl 2 rfl) ?_
            refine lv_aload_n hx hb d_MO_laySplits_90 rfl (lv_at hl 0 rfl) ?_
            refine va_get (D := (dC, dI)) (ci := 7) (v := .int (nI q)) (C := R_MO) (T := F_MO) (N := 15) hx hb hts in_MO hown hK.1 hP 0 rfl rfl 14 (by decide) (hts _ wfl_MO_135) (fun _ h9 => h9) rfl d_MO_laySplits_91 ?_
            refine x_cmp_ge (a := i) (b := q) (tgt := 216) hx hb (by omega) (by omega) d_MO_laySplits_94 (by decide) (fun c_4 => ?_) (fun c_4 => ?_)
            · skip
              exact W.vret hx hb hr (fun t9 ht9 _ => ⟨⟨(q, Sp1, D1), rfl, ⟨by have e9 : s0 = (2 ^ bz - 1) := (by omega); rw [← e9]; exact hls, by have e9 : i = q := (by omega); subst e9; exact hg, by omega⟩, by show va_P (dC, dI) cls _ t9.heap; rw [ht9]; exact hP⟩, hS.F ht9⟩) hS.2.2 d_MO_laySplits_216
            · skip
              refine lv_aload_n hx hb d_MO_laySplits_97 rfl (lv_at hl 0 rfl) ?_
              refine va_get (D := (dC, dI)) (ci := 7) (v := .ref fD) (C := R_MO) (T := F_MO) (N := 15) hx hb hts in_MO hown hK.1 hP 0 rfl rfl 13 (by decide) (hts _ wfl_MO_35) (fun _ h9 => h9) rfl d_MO_laySplits_98 ?_
              refine lv_iload_n hx hb d_MO_laySplits_101 rfl (lv_at hl 2 rfl) ?_
              refine lv_iconst (v := (nI 1)) hx hb d_MO_laySplits_102 (by decide) ?_
              refine xe_i (y := bI true) rfl ?_
              refine x_zast (g := (bF (va_up D1 i true))) hx hb hK.1 hP hD hS 5 2 rfl rfl (bF_up _ _ _) (by omega) (by omega) d_MO_laySplits_103 (fun H locs hP hD hS => ?_)
              have hP : va_P (dC, dI) cls [(o, .inr (7, [.int th, .int (nI nd), .int (nI ar), .ref fF, .ref fG, .ref fT, .ref fN, .ref fW, .int be, .ref fO, .ref fB, .int (nI bz), .ref fS, .ref fD, .int (nI q)])), (fF, .inl (cI, 41, .inl (nF F))), (fG, .inl (cI, 41, .inl (nF G))), (fB, .inl (cI, 41, .inl (nF Ob))), (fS, .inl (cI, 8192, .inl (nF Sp1))), (fD, .inl (cZ, 8192, .inl (bF (va_up D1 i true))))] H := hP
              have hD : va_D (ow [(o, .inr (7, [.int th, .int (nI nd), .int (nI ar), .ref fF, .ref fG, .ref fT, .ref fN, .ref fW, .int be, .ref fO, .ref fB, .int (nI bz), .ref fS, .ref fD, .int sz])), (fF, .inl (cI, 41, .inl (nF F))), (fG, .inl (cI, 41, .inl (nF G))), (fB, .inl (cI, 41, .inl (nF Ob))), (fS, .inl (cI, 8192, .inl (nF Sp0))), (fD, .inl (cZ, 8192, .inl (bF D0)))]) [(o, .inr (7, [.int th, .int (nI nd), .int (nI ar), .ref fF, .ref fG, .ref fT, .ref fN, .ref fW, .int be, .ref fO, .ref fB, .int (nI bz), .ref fS, .ref fD, .int (nI q)])), (fF, .inl (cI, 41, .inl (nF F))), (fG, .inl (cI, 41, .inl (nF G))), (fB, .inl (cI, 41, .inl (nF Ob))), (fS, .inl (cI, 8192, .inl (nF Sp1))), (fD, .inl (cZ, 8192, .inl (bF (va_up D1 i true))))] := hD
              refine lv_iconst (v := (nI 0)) hx hb d_MO_laySplits_104 (by decide) ?_
              refine lv_istore_n (lv' := [(3, .int (nI 0)), (0, .ref o), (1, .int (nI (2 ^ bz - 1))), (2, .int (nI i))]) hx hb d_MO_laySplits_105 rfl hl (by decide) rfl (fun ls hl => ?_)
              have L106_5 : ∀ (n : Nat) (D2 : Nat → Bool) (j : Nat) (hn : q - j < n) (hj : j ≤ q) (hgi : gdI bz Sp1 D1 D2 i j) (H : Heap) (locs : List Loc) (hP : va_P (dC, dI) cls [(o, .inr (7, [.int th, .int (nI nd), .int (nI ar), .ref fF, .ref fG, .ref fT, .ref fN, .ref fW, .int be, .ref fO, .ref fB, .int (nI bz), .ref fS, .ref fD, .int (nI q)])), (fF, .inl (cI, 41, .inl (nF F))), (fG, .inl (cI, 41, .inl (nF G))), (fB, .inl (cI, 41, .inl (nF Ob))), (fS, .inl (cI, 8192, .inl (nF Sp1))), (fD, .inl (cZ, 8192, .inl (bF D2)))] H) (hD : va_D (ow [(o, .inr (7, [.int th, .int (nI nd), .int (nI ar), .ref fF, .ref fG, .ref fT, .ref fN, .ref fW, .int be, .ref fO, .ref fB, .int (nI bz), .ref fS, .ref fD, .int sz])), (fF, .inl (cI, 41, .inl (nF F))), (fG, .inl (cI, 41, .inl (nF G))), (fB, .inl (cI, 41, .inl (nF Ob))), (fS, .inl (cI, 8192, .inl (nF Sp0))), (fD, .inl (cZ, 8192, .inl (bF D0)))]) [(o, .inr (7, [.int th, .int (nI nd), .int (nI ar), .ref fF, .ref fG, .ref fT, .ref fN, .ref fW, .int be, .ref fO, .ref fB, .int (nI bz), .ref fS, .ref fD, .int (nI q)])), (fF, .inl (cI, 41, .inl (nF F))), (fG, .inl (cI, 41, .inl (nF G))), (fB, .inl (cI, 41, .inl (nF Ob))), (fS, .inl (cI, 8192, .inl (nF Sp1))), (fD, .inl (cZ, 8192, .inl (bF D2)))]) (hS : va_S (ow [(o, .inr (7, [.int th, .int (nI nd), .int (nI ar), .ref fF, .ref fG, .ref fT, .ref fN, .ref fW, .int be, .ref fO, .ref fB, .int (nI bz), .ref fS, .ref fD, .int sz])), (fF, .inl (cI, 41, .inl (nF F))), (fG, .inl (cI, 41, .inl (nF G))), (fB, .inl (cI, 41, .inl (nF Ob))), (fS, .inl (cI, 8192, .inl (nF Sp0))), (fD, .inl (cZ, 8192, .inl (bF D0)))]) s.heap H locs) (ls : Array Slot) (hl : lv_has ls 7 [(0, .ref o), (1, .int (nI (2 ^ bz - 1))), (2, .int (nI i)), (3, .int (nI j))]), W p l e (headSpec (Cond.code ⟨"CutPointsModel", "laySplits", "()V"⟩ prog_9_method_45_code 7 none :: TT) (rmk 1 23)).room s m ([.ref o] : List Value).toArray below meth c H locs 0 0 (MQ below (va_Qv (S := Nat × (Nat → Nat) × (Nat → Bool)) (fun u9 => lbI (spQ F G Ob bz) u9.2.1 u9.1 (2 ^ bz - 1) ∧ gdO bz u9.2.1 u9.2.2 u9.1 u9.1 ∧ 2 * u9.1 ≤ (2 ^ bz - 1)) (fun u9 t9 => va_P (dC, dI) cls ([(o, .inr (7, [.int th, .int (nI nd), .int (nI ar), .ref fF, .ref fG, .ref fT, .ref fN, .ref fW, .int be, .ref fO, .ref fB, .int (nI bz), .ref fS, .ref fD, .int (nI u9.1)])), (fF, .inl (cI, 41, .inl (nF F))), (fG, .inl (cI, 41, .inl (nF G))), (fB, .inl (cI, 41, .inl (nF Ob))), (fS, .inl (cI, 8192, .inl (nF u9.2.1))), (fD, .inl (cZ, 8192, .inl (bF u9.2.2)))]) t9.heap) (ow [(o, .inr (7, [.int th, .int (nI nd), .int (nI ar), .ref fF, .ref fG, .ref fT, .ref fN, .ref fW, .int be, .ref fO, .ref fB, .int (nI bz), .ref fS, .ref fD, .int sz])), (fF, .inl (cI, 41, .inl (nF F))), (fG, .inl (cI, 41, .inl (nF G))), (fB, .inl (cI, 41, .inl (nF Ob))), (fS, .inl (cI, 8192, .inl (nF Sp0))), (fD, .inl (cZ, 8192, .inl (bF D0)))])) ([.ref o] : List Value).toArray s 0 0 (ow [(o, .inr (7, [.int th, .int (nI nd), .int (nI ar), .ref fF, .ref fG, .ref fT, .ref fN, .ref fW, .int be, .ref fO, .ref fB, .int (nI bz), .ref fS, .ref fD, .int sz])), (fF, .inl (cI, 41, .inl (nF F))), (fG, .inl (cI, 41, .inl (nF G))), (fB, .inl (cI, 41, .inl (nF Ob))), (fS, .inl (cI, 8192, .inl (nF Sp0))), (fD, .inl (cZ, 8192, .inl (bF D0)))])) (F0 m 106 ls []) := by
                intro n_106
                induction n_106 with
                | zero =>
                  intro D2 j hn_106
                  exact absurd hn_106 (Nat.not_lt_zero _)
                | succ n_106 ih_106 =>
                  intro D2 j hn_106 hj hgi H locs hP hD hS ls hl
                  refine lv_iload_n hx hb d_MO_laySplits_106 rfl (lv_at hl 3 rfl) ?_
                  refine lv_aload_n hx hb d_MO_laySplits_107 rfl (lv_at hl 0 rfl) ?_
                  refine va_get (D := (dC, dI)) (ci := 7) (v := .int (nI q)) (C := R_MO) (T := F_MO) (N := 15) hx hb hts in_MO hown hK.1 hP 0 rfl rfl 14 (by decide) (hts _ wfl_MO_135) (fun _ h9 => h9) rfl d_MO_laySplits_108 ?_
                  refine x_cmp_ge (a := j) (b := q) (tgt := 210) hx hb (by omega) (by omega) d_MO_laySplits_111 (by decide) (fun c_6 => ?_) (fun c_6 => ?_)
                  · skip
                    refine lv_iinc (v := (nI (i + 1))) (lv' := [(2, .int (nI (i + 1))), (0, .ref o), (1, .int (nI (2 ^ bz - 1))), (3, .int (nI j))]) hx hb d_MO_laySplits_210 hl (k := 2) rfl (nI_1 _) (by decide) rfl (fun ls hl => ?_)
                    refine lv_goto (tgt := 89) hx hb d_MO_laySplits_213 (by decide) ?_
                    exact ih_89 D2 (i + 1) (by omega) (by first | assumption | omega) (gdO_n hg hgi hj (Or.inl (by omega))) _ _ hP hD hS ls (lv_sub hl [1, 2, 0] rfl)
                  · skip
                    refine lv_aload_n hx hb d_MO_laySplits_114 rfl (lv_at hl 0 rfl) ?_
                    refine va_get (D := (dC, dI)) (ci := 7) (v := .ref fD) (C := R_MO) (T := F_MO) (N := 15) hx hb hts in_MO hown hK.1 hP 0 rfl rfl 13 (by decide) (hts _ wfl_MO_35) (fun _ h9 => h9) rfl d_MO_laySplits_115 ?_
                    refine lv_iload_n hx hb d_MO_laySplits_118 rfl (lv_at hl 2 rfl) ?_
                    refine x_zald (n := 8192) (f := (bF D2)) (j := i) hx hb hK.1 hP 5 2 rfl rfl (by omega) (by omega) d_MO_laySplits_119 ?_
                    refine xe_i (y := (bI (D2 i))) rfl ?_
                    refine x_if_eq (tgt := 210) hx hb d_MO_laySplits_120 (by decide) (fun c_7 => ?_) (fun c_7 => ?_)
                    · skip
                      refine lv_iinc (v := (nI (i + 1))) (lv' := [(2, .int (nI (i + 1))), (0, .ref o), (1, .int (nI (2 ^ bz - 1))), (3, .int (nI j))]) hx hb d_MO_laySplits_210 hl (k := 2) rfl (nI_1 _) (by decide) rfl (fun ls hl => ?_)
                      refine lv_goto (tgt := 89) hx hb d_MO_laySplits_213 (by decide) ?_
                      exact ih_89 D2 (i + 1) (by omega) (by first | assumption | omega) (gdO_n hg hgi hj (Or.inr c_7)) _ _ hP hD hS ls (lv_sub hl [1, 2, 0] rfl)
                    · skip
                      refine lv_aload_n hx hb d_MO_laySplits_123 rfl (lv_at hl 0 rfl) ?_
                      refine va_get (D := (dC, dI)) (ci := 7) (v := .ref fS) (C := R_MO) (T := F_MO) (N := 15) hx hb hts in_MO hown hK.1 hP 0 rfl rfl 12 (by decide) (hts _ wfl_MO_32) (fun _ h9 => h9) rfl d_MO_laySplits_124 ?_
                      refine lv_iload_n hx hb d_MO_laySplits_127 rfl (lv_at hl 2 rfl) ?_
                      refine x_iald (n := 8192) (f := (nF Sp1)) (j := i) hx hb hK.1 hP 4 0 rfl rfl (by omega) (by omega) d_MO_laySplits_128 ?_
                      refine xe_i (y := (nI (Sp1 i))) rfl ?_
                      refine lv_istore (lv' := [(4, .int (nI (Sp1 i))), (0, .ref o), (1, .int (nI (2 ^ bz - 1))), (2, .int (nI i)), (3, .int (nI j))]) hx hb d_MO_laySplits_129 hl (by decide) rfl (fun ls hl => ?_)
                      refine lv_aload_n hx hb d_MO_laySplits_131 rfl (lv_at hl 1 rfl) ?_
                      refine va_get (D := (dC, dI)) (ci := 7) (v := .ref fS) (C := R_MO) (T := F_MO) (N := 15) hx hb hts in_MO hown hK.1 hP 0 rfl rfl 12 (by decide) (hts _ wfl_MO_32) (fun _ h9 => h9) rfl d_MO_laySplits_132 ?_
                      refine lv_iload_n hx hb d_MO_laySplits_135 rfl (lv_at hl 4 rfl) ?_
                      refine x_iald (n := 8192) (f := (nF Sp1)) (j := j) hx hb hK.1 hP 4 0 rfl rfl (by omega) (by omega) d_MO_laySplits_136 ?_
                      refine xe_i (y := (nI (Sp1 j))) rfl ?_
                      refine lv_istore (lv' := [(5, .int (nI (Sp1 j))), (4, .int (nI (Sp1 i))), (0, .ref o), (1, .int (nI (2 ^ bz - 1))), (2, .int (nI i)), (3, .int (nI j))]) hx hb d_MO_laySplits_137 hl (by decide) rfl (fun ls hl => ?_)
                      refine lv_iload hx hb d_MO_laySplits_139 (lv_at hl 1 rfl) ?_
                      refine lv_iload hx hb d_MO_laySplits_141 (lv_at hl 0 rfl) ?_
                      refine lv_iand hx hb d_MO_laySplits_143 ?_
                      refine lv_if_eq (tgt := 185) hx hb d_MO_laySplits_144 (by decide) (fun c_8 => ?_) (fun c_8 => ?_)
                      · skip
                        refine lv_iconst (v := (nI 0)) hx hb d_MO_laySplits_185 (by decide) ?_
                        refine lv_istore (lv' := [(6, .int (nI 0)), (5, .int (nI (Sp1 j))), (4, .int (nI (Sp1 i))), (0, .ref o), (1, .int (nI (2 ^ bz - 1))), (2, .int (nI i)), (3, .int (nI j))]) hx hb d_MO_laySplits_186 hl (by decide) rfl (fun ls hl => ?_)
                        refine lv_aload_n hx hb d_MO_laySplits_188 rfl (lv_at hl 3 rfl) ?_
                        refine va_get (D := (dC, dI)) (ci := 7) (v := .ref fD) (C := R_MO) (T := F_MO) (N := 15) hx hb hts in_MO hown hK.1 hP 0 rfl rfl 13 (by decide) (hts _ wfl_MO_35) (fun _ h9 => h9) rfl d_MO_laySplits_189 ?_
                        refine lv_iload_n hx hb d_MO_laySplits_192 rfl (lv_at hl 5 rfl) ?_
                        refine lv_iload hx hb d_MO_laySplits_193 (lv_at hl 0 rfl) ?_
                        refine lv_if_ne (tgt := 202) hx hb d_MO_laySplits_195 (by decide) (fun c9 => absurd (by decide : ((nI 0) : Int32) = 0) c9) (fun _ => ?_)
                        refine lv_iconst (v := (nI 1)) hx hb d_MO_laySplits_198 (by decide) ?_
                        refine lv_goto (tgt := 203) hx hb d_MO_laySplits_199 (by decide) ?_
                        refine xe_i (y := bI true) rfl ?_
                        refine x_zast (g := (bF (va_up D2 i true))) hx hb hK.1 hP hD hS 5 2 rfl rfl (bF_up _ _ _) (by omega) (by omega) d_MO_laySplits_203 (fun H locs hP hD hS => ?_)
                        have hP : va_P (dC, dI) cls [(o, .inr (7, [.int th, .int (nI nd), .int (nI ar), .ref fF, .ref fG, .ref fT, .ref fN, .ref fW, .int be, .ref fO, .ref fB, .int (nI bz), .ref fS, .ref fD, .int (nI q)])), (fF, .inl (cI, 41, .inl (nF F))), (fG, .inl (cI, 41, .inl (nF G))), (fB, .inl (cI, 41, .inl (nF Ob))), (fS, .inl (cI, 8192, .inl (nF Sp1))), (fD, .inl (cZ, 8192, .inl (bF (va_up D2 i true))))] H := hP
                        have hD : va_D (ow [(o, .inr (7, [.int th, .int (nI nd), .int (nI ar), .ref fF, .ref fG, .ref fT, .ref fN, .ref fW, .int be, .ref fO, .ref fB, .int (nI bz), .ref fS, .ref fD, .int sz])), (fF, .inl (cI, 41, .inl (nF F))), (fG, .inl (cI, 41, .inl (nF G))), (fB, .inl (cI, 41, .inl (nF Ob))), (fS, .inl (cI, 8192, .inl (nF Sp0))), (fD, .inl (cZ, 8192, .inl (bF D0)))]) [(o, .inr (7, [.int th, .int (nI nd), .int (nI ar), .ref fF, .ref fG, .ref fT, .ref fN, .ref fW, .int be, .ref fO, .ref fB, .int (nI bz), .ref fS, .ref fD, .int (nI q)])), (fF, .inl (cI, 41, .inl (nF F))), (fG, .inl (cI, 41, .inl (nF G))), (fB, .inl (cI, 41, .inl (nF Ob))), (fS, .inl (cI, 8192, .inl (nF Sp1))), (fD, .inl (cZ, 8192, .inl (bF (va_up D2 i true))))] := hD
                        refine lv_iinc (v := (nI (j + 1))) (lv' := [(3, .int (nI (j + 1))), (6, .int (nI 0)), (5, .int (nI (Sp1 j))), (4, .int (nI (Sp1 i))), (0, .ref o), (1, .int (nI (2 ^ bz - 1))), (2, .int (nI i))]) hx hb d_MO_laySplits_204 hl (k := 6) rfl (nI_1 _) (by decide) rfl (fun ls hl => ?_)
                        refine lv_goto (tgt := 106) hx hb d_MO_laySplits_207 (by decide) ?_
                        exact ih_106 (va_up D2 i true) (j + 1) (by omega) (by first | assumption | omega) (gdI_t hgi c_7 (fun z9 => z9.1 c_8)) _ _ hP hD hS ls (lv_sub hl [4, 5, 6, 0] rfl)
                      · skip
                        refine lv_iload hx hb d_MO_laySplits_147 (lv_at hl 1 rfl) ?_
                        refine lv_iload hx hb d_MO_laySplits_149 (lv_at hl 0 rfl) ?_
                        refine lv_iconst (v := (-1)) hx hb d_MO_laySplits_151 (by decide) ?_
                        refine lv_ixor hx hb d_MO_laySplits_152 ?_
                        refine lv_iand hx hb d_MO_laySplits_153 ?_
                        refine lv_if_eq (tgt := 185) hx hb d_MO_laySplits_154 (by decide) (fun c_10 => ?_) (fun c_10 => ?_)
                        · skip
                          refine lv_iconst (v := (nI 0)) hx hb d_MO_laySplits_185 (by decide) ?_
                          refine lv_istore (lv' := [(6, .int (nI 0)), (5, .int (nI (Sp1 j))), (4, .int (nI (Sp1 i))), (0, .ref o), (1, .int (nI (2 ^ bz - 1))), (2, .int (nI i)), (3, .int (nI j))]) hx hb d_MO_laySplits_186 hl (by decide) rfl (fun ls hl => ?_)
                          refine lv_aload_n hx hb d_MO_laySplits_188 rfl (lv_at hl 3 rfl) ?_
                          refine va_get (D := (dC, dI)) (ci := 7) (v := .ref fD) (C := R_MO) (T := F_MO) (N := 15) hx hb hts in_MO hown hK.1 hP 0 rfl rfl 13 (by decide) (hts _ wfl_MO_35) (fun _ h9 => h9) rfl d_MO_laySplits_189 ?_
                          refine lv_iload_n hx hb d_MO_laySplits_192 rfl (lv_at hl 5 rfl) ?_
                          refine lv_iload hx hb d_MO_laySplits_193 (lv_at hl 0 rfl) ?_
                          refine lv_if_ne (tgt := 202) hx hb d_MO_laySplits_195 (by decide) (fun c9 => absurd (by decide : ((nI 0) : Int32) = 0) c9) (fun _ => ?_)
                          refine lv_iconst (v := (nI 1)) hx hb d_MO_laySplits_198 (by decide) ?_
                          refine lv_goto (tgt := 203) hx hb d_MO_laySplits_199 (by decide) ?_
                          refine xe_i (y := bI true) rfl ?_
                          refine x_zast (g := (bF (va_up D2 i true))) hx hb hK.1 hP hD hS 5 2 rfl rfl (bF_up _ _ _) (by omega) (by omega) d_MO_laySplits_203 (fun H locs hP hD hS => ?_)
                          have hP : va_P (dC, dI) cls [(o, .inr (7, [.int th, .int (nI nd), .int (nI ar), .ref fF, .ref fG, .ref fT, .ref fN, .ref fW, .int be, .ref fO, .ref fB, .int (nI bz), .ref fS, .ref fD, .int (nI q)])), (fF, .inl (cI, 41, .inl (nF F))), (fG, .inl (cI, 41, .inl (nF G))), (fB, .inl (cI, 41, .inl (nF Ob))), (fS, .inl (cI, 8192, .inl (nF Sp1))), (fD, .inl (cZ, 8192, .inl (bF (va_up D2 i true))))] H := hP
                          have hD : va_D (ow [(o, .inr (7, [.int th, .int (nI nd), .int (nI ar), .ref fF, .ref fG, .ref fT, .ref fN, .ref fW, .int be, .ref fO, .ref fB, .int (nI bz), .ref fS, .ref fD, .int sz])), (fF, .inl (cI, 41, .inl (nF F))), (fG, .inl (cI, 41, .inl (nF G))), (fB, .inl (cI, 41, .inl (nF Ob))), (fS, .inl (cI, 8192, .inl (nF Sp0))), (fD, .inl (cZ, 8192, .inl (bF D0)))]) [(o, .inr (7, [.int th, .int (nI nd), .int (nI ar), .ref fF, .ref fG, .ref fT, .ref fN, .ref fW, .int be, .ref fO, .ref fB, .int (nI bz), .ref fS, .ref fD, .int (nI q)])), (fF, .inl (cI, 41, .inl (nF F))), (fG, .inl (cI, 41, .inl (nF G))), (fB, .inl (cI, 41, .inl (nF Ob))), (fS, .inl (cI, 8192, .inl (nF Sp1))), (fD, .inl (cZ, 8192, .inl (bF (va_up D2 i true))))] := hD
                          refine lv_iinc (v := (nI (j + 1))) (lv' := [(3, .int (nI (j + 1))), (6, .int (nI 0)), (5, .int (nI (Sp1 j))), (4, .int (nI (Sp1 i))), (0, .ref o), (1, .int (nI (2 ^ bz - 1))), (2, .int (nI i))]) hx hb d_MO_laySplits_204 hl (k := 6) rfl (nI_1 _) (by decide) rfl (fun ls hl => ?_)
                          refine lv_goto (tgt := 106) hx hb d_MO_laySplits_207 (by decide) ?_
                          exact ih_106 (va_up D2 i true) (j + 1) (by omega) (by first | assumption | omega) (gdI_t hgi c_7 (fun z9 => z9.2.1 c_10)) _ _ hP hD hS ls (lv_sub hl [4, 5, 6, 0] rfl)
                        · skip
                          refine lv_iload hx hb d_MO_laySplits_157 (lv_at hl 0 rfl) ?_
                          refine lv_iload hx hb d_MO_laySplits_159 (lv_at hl 1 rfl) ?_
                          refine lv_iconst (v := (-1)) hx hb d_MO_laySplits_161 (by decide) ?_
                          refine lv_ixor hx hb d_MO_laySplits_162 ?_
                          refine lv_iand hx hb d_MO_laySplits_163 ?_
                          refine lv_if_eq (tgt := 185) hx hb d_MO_laySplits_164 (by decide) (fun c_12 => ?_) (fun c_12 => ?_)
                          · skip
                            refine lv_iconst (v := (nI 0)) hx hb d_MO_laySplits_185 (by decide) ?_
                            refine lv_istore (lv' := [(6, .int (nI 0)), (5, .int (nI (Sp1 j))), (4, .int (nI (Sp1 i))), (0, .ref o), (1, .int (nI (2 ^ bz - 1))), (2, .int (nI i)), (3, .int (nI j))]) hx hb d_MO_laySplits_186 hl (by decide) rfl (fun ls hl => ?_)
                            refine lv_aload_n hx hb d_MO_laySplits_188 rfl (lv_at hl 3 rfl) ?_
                            refine va_get (D := (dC, dI)) (ci := 7) (v := .ref fD) (C := R_MO) (T := F_MO) (N := 15) hx hb hts in_MO hown hK.1 hP 0 rfl rfl 13 (by decide) (hts _ wfl_MO_35) (fun _ h9 => h9) rfl d_MO_laySplits_189 ?_
                            refine lv_iload_n hx hb d_MO_laySplits_192 rfl (lv_at hl 5 rfl) ?_
                            refine lv_iload hx hb d_MO_laySplits_193 (lv_at hl 0 rfl) ?_
                            refine lv_if_ne (tgt := 202) hx hb d_MO_laySplits_195 (by decide) (fun c9 => absurd (by decide : ((nI 0) : Int32) = 0) c9) (fun _ => ?_)
                            refine lv_iconst (v := (nI 1)) hx hb d_MO_laySplits_198 (by decide) ?_
                            refine lv_goto (tgt := 203) hx hb d_MO_laySplits_199 (by decide) ?_
                            refine xe_i (y := bI true) rfl ?_
                            refine x_zast (g := (bF (va_up D2 i true))) hx hb hK.1 hP hD hS 5 2 rfl rfl (bF_up _ _ _) (by omega) (by omega) d_MO_laySplits_203 (fun H locs hP hD hS => ?_)
                            have hP : va_P (dC, dI) cls [(o, .inr (7, [.int th, .int (nI nd), .int (nI ar), .ref fF, .ref fG, .ref fT, .ref fN, .ref fW, .int be, .ref fO, .ref fB, .int (nI bz), .ref fS, .ref fD, .int (nI q)])), (fF, .inl (cI, 41, .inl (nF F))), (fG, .inl (cI, 41, .inl (nF G))), (fB, .inl (cI, 41, .inl (nF Ob))), (fS, .inl (cI, 8192, .inl (nF Sp1))), (fD, .inl (cZ, 8192, .inl (bF (va_up D2 i true))))] H := hP
                            have hD : va_D (ow [(o, .inr (7, [.int th, .int (nI nd), .int (nI ar), .ref fF, .ref fG, .ref fT, .ref fN, .ref fW, .int be, .ref fO, .ref fB, .int (nI bz), .ref fS, .ref fD, .int sz])), (fF, .inl (cI, 41, .inl (nF F))), (fG, .inl (cI, 41, .inl (nF G))), (fB, .inl (cI, 41, .inl (nF Ob))), (fS, .inl (cI, 8192, .inl (nF Sp0))), (fD, .inl (cZ, 8192, .inl (bF D0)))]) [(o, .inr (7, [.int th, .int (nI nd), .int (nI ar), .ref fF, .ref fG, .ref fT, .ref fN, .ref fW, .int be, .ref fO, .ref fB, .int (nI bz), .ref fS, .ref fD, .int (nI q)])), (fF, .inl (cI, 41, .inl (nF F))), (fG, .inl (cI, 41, .inl (nF G))), (fB, .inl (cI, 41, .inl (nF Ob))), (fS, .inl (cI, 8192, .inl (nF Sp1))), (fD, .inl (cZ, 8192, .inl (bF (va_up D2 i true))))] := hD
                            refine lv_iinc (v := (nI (j + 1))) (lv' := [(3, .int (nI (j + 1))), (6, .int (nI 0)), (5, .int (nI (Sp1 j))), (4, .int (nI (Sp1 i))), (0, .ref o), (1, .int (nI (2 ^ bz - 1))), (2, .int (nI i))]) hx hb d_MO_laySplits_204 hl (k := 6) rfl (nI_1 _) (by decide) rfl (fun ls hl => ?_)
                            refine lv_goto (tgt := 106) hx hb d_MO_laySplits_207 (by decide) ?_
                            exact ih_106 (va_up D2 i true) (j + 1) (by omega) (by first | assumption | omega) (gdI_t hgi c_7 (fun z9 => z9.2.2.1 c_12)) _ _ hP hD hS ls (lv_sub hl [4, 5, 6, 0] rfl)
                          · skip
                            refine lv_iload_n hx hb d_MO_laySplits_167 rfl (lv_at hl 3 rfl) ?_
                            refine lv_iload hx hb d_MO_laySplits_168 (lv_at hl 1 rfl) ?_
                            refine lv_iconst (v := (-1)) hx hb d_MO_laySplits_170 (by decide) ?_
                            refine lv_ixor hx hb d_MO_laySplits_171 ?_
                            refine lv_iand hx hb d_MO_laySplits_172 ?_
                            refine lv_iload hx hb d_MO_laySplits_173 (lv_at hl 0 rfl) ?_
                            refine lv_iconst (v := (-1)) hx hb d_MO_laySplits_175 (by decide) ?_
                            refine lv_ixor hx hb d_MO_laySplits_176 ?_
                            refine lv_iand hx hb d_MO_laySplits_177 ?_
                            refine lv_if_eq (tgt := 185) hx hb d_MO_laySplits_178 (by decide) (fun c_14 => ?_) (fun c_14 => ?_)
                            · skip
                              refine lv_iconst (v := (nI 0)) hx hb d_MO_laySplits_185 (by decide) ?_
                              refine lv_istore (lv' := [(6, .int (nI 0)), (5, .int (nI (Sp1 j))), (4, .int (nI (Sp1 i))), (0, .ref o), (1, .int (nI (2 ^ bz - 1))), (2, .int (nI i)), (3, .int (nI j))]) hx hb d_MO_laySplits_186 hl (by decide) rfl (fun ls hl => ?_)
                              refine lv_aload_n hx hb d_MO_laySplits_188 rfl (lv_at hl 3 rfl) ?_
                              refine va_get (D := (dC, dI)) (ci := 7) (v := .ref fD) (C := R_MO) (T := F_MO) (N := 15) hx hb hts in_MO hown hK.1 hP 0 rfl rfl 13 (by decide) (hts _ wfl_MO_35) (fun _ h9 => h9) rfl d_MO_laySplits_189 ?_
                              refine lv_iload_n hx hb d_MO_laySplits_192 rfl (lv_at hl 5 rfl) ?_
                              refine lv_iload hx hb d_MO_laySplits_193 (lv_at hl 0 rfl) ?_
                              refine lv_if_ne (tgt := 202) hx hb d_MO_laySplits_195 (by decide) (fun c9 => absurd (by decide : ((nI 0) : Int32) = 0) c9) (fun _ => ?_)
                              refine lv_iconst (v := (nI 1)) hx hb d_MO_laySplits_198 (by decide) ?_
                              refine lv_goto (tgt := 203) hx hb d_MO_laySplits_199 (by decide) ?_
                              refine xe_i (y := bI true) rfl ?_
                              refine x_zast (g := (bF (va_up D2 i true))) hx hb hK.1 hP hD hS 5 2 rfl rfl (bF_up _ _ _) (by omega) (by omega) d_MO_laySplits_203 (fun H locs hP hD hS => ?_)
                              have hP : va_P (dC, dI) cls [(o, .inr (7, [.int th, .int (nI nd), .int (nI ar), .ref fF, .ref fG, .ref fT, .ref fN, .ref fW, .int be, .ref fO, .ref fB, .int (nI bz), .ref fS, .ref fD, .int (nI q)])), (fF, .inl (cI, 41, .inl (nF F))), (fG, .inl (cI, 41, .inl (nF G))), (fB, .inl (cI, 41, .inl (nF Ob))), (fS, .inl (cI, 8192, .inl (nF Sp1))), (fD, .inl (cZ, 8192, .inl (bF (va_up D2 i true))))] H := hP
                              have hD : va_D (ow [(o, .inr (7, [.int th, .int (nI nd), .int (nI ar), .ref fF, .ref fG, .ref fT, .ref fN, .ref fW, .int be, .ref fO, .ref fB, .int (nI bz), .ref fS, .ref fD, .int sz])), (fF, .inl (cI, 41, .inl (nF F))), (fG, .inl (cI, 41, .inl (nF G))), (fB, .inl (cI, 41, .inl (nF Ob))), (fS, .inl (cI, 8192, .inl (nF Sp0))), (fD, .inl (cZ, 8192, .inl (bF D0)))]) [(o, .inr (7, [.int th, .int (nI nd), .int (nI ar), .ref fF, .ref fG, .ref fT, .ref fN, .ref fW, .int be, .ref fO, .ref fB, .int (nI bz), .ref fS, .ref fD, .int (nI q)])), (fF, .inl (cI, 41, .inl (nF F))), (fG, .inl (cI, 41, .inl (nF G))), (fB, .inl (cI, 41, .inl (nF Ob))), (fS, .inl (cI, 8192, .inl (nF Sp1))), (fD, .inl (cZ, 8192, .inl (bF (va_up D2 i true))))] := hD
                              refine lv_iinc (v := (nI (j + 1))) (lv' := [(3, .int (nI (j + 1))), (6, .int (nI 0)), (5, .int (nI (Sp1 j))), (4, .int (nI (Sp1 i))), (0, .ref o), (1, .int (nI (2 ^ bz - 1))), (2, .int (nI i))]) hx hb d_MO_laySplits_204 hl (k := 6) rfl (nI_1 _) (by decide) rfl (fun ls hl => ?_)
                              refine lv_goto (tgt := 106) hx hb d_MO_laySplits_207 (by decide) ?_
                              exact ih_106 (va_up D2 i true) (j + 1) (by omega) (by first | assumption | omega) (gdI_t hgi c_7 (fun z9 => z9.2.2.2 c_14)) _ _ hP hD hS ls (lv_sub hl [4, 5, 6, 0] rfl)
                            · skip
                              refine lv_iconst (v := (nI 1)) hx hb d_MO_laySplits_181 (by decide) ?_
                              refine lv_goto (tgt := 186) hx hb d_MO_laySplits_182 (by decide) ?_
                              refine lv_istore (lv' := [(6, .int (nI 1)), (5, .int (nI (Sp1 j))), (4, .int (nI (Sp1 i))), (0, .ref o), (1, .int (nI (2 ^ bz - 1))), (2, .int (nI i)), (3, .int (nI j))]) hx hb d_MO_laySplits_186 hl (by decide) rfl (fun ls hl => ?_)
                              refine lv_aload_n hx hb d_MO_laySplits_188 rfl (lv_at hl 3 rfl) ?_
                              refine va_get (D := (dC, dI)) (ci := 7) (v := .ref fD) (C := R_MO) (T := F_MO) (N := 15) hx hb hts in_MO hown hK.1 hP 0 rfl rfl 13 (by decide) (hts _ wfl_MO_35) (fun _ h9 => h9) rfl d_MO_laySplits_189 ?_
                              refine lv_iload_n hx hb d_MO_laySplits_192 rfl (lv_at hl 5 rfl) ?_
                              refine lv_iload hx hb d_MO_laySplits_193 (lv_at hl 0 rfl) ?_
                              refine lv_if_ne (tgt := 202) hx hb d_MO_laySplits_195 (by decide) (fun _ => ?_) (fun c9 => absurd c9 (by decide : ¬ ((nI 1) : Int32) = 0))
                              refine lv_iconst (v := (nI 0)) hx hb d_MO_laySplits_202 (by decide) ?_
                              refine xe_i (y := bI false) rfl ?_
                              refine x_zast (g := (bF (va_up D2 i false))) hx hb hK.1 hP hD hS 5 2 rfl rfl (bF_up _ _ _) (by omega) (by omega) d_MO_laySplits_203 (fun H locs hP hD hS => ?_)
                              have hP : va_P (dC, dI) cls [(o, .inr (7, [.int th, .int (nI nd), .int (nI ar), .ref fF, .ref fG, .ref fT, .ref fN, .ref fW, .int be, .ref fO, .ref fB, .int (nI bz), .ref fS, .ref fD, .int (nI q)])), (fF, .inl (cI, 41, .inl (nF F))), (fG, .inl (cI, 41, .inl (nF G))), (fB, .inl (cI, 41, .inl (nF Ob))), (fS, .inl (cI, 8192, .inl (nF Sp1))), (fD, .inl (cZ, 8192, .inl (bF (va_up D2 i false))))] H := hP
                              have hD : va_D (ow [(o, .inr (7, [.int th, .int (nI nd), .int (nI ar), .ref fF, .ref fG, .ref fT, .ref fN, .ref fW, .int be, .ref fO, .ref fB, .int (nI bz), .ref fS, .ref fD, .int sz])), (fF, .inl (cI, 41, .inl (nF F))), (fG, .inl (cI, 41, .inl (nF G))), (fB, .inl (cI, 41, .inl (nF Ob))), (fS, .inl (cI, 8192, .inl (nF Sp0))), (fD, .inl (cZ, 8192, .inl (bF D0)))]) [(o, .inr (7, [.int th, .int (nI nd), .int (nI ar), .ref fF, .ref fG, .ref fT, .ref fN, .ref fW, .int be, .ref fO, .ref fB, .int (nI bz), .ref fS, .ref fD, .int (nI q)])), (fF, .inl (cI, 41, .inl (nF F))), (fG, .inl (cI, 41, .inl (nF G))), (fB, .inl (cI, 41, .inl (nF Ob))), (fS, .inl (cI, 8192, .inl (nF Sp1))), (fD, .inl (cZ, 8192, .inl (bF (va_up D2 i false))))] := hD
                              refine lv_iinc (v := (nI (j + 1))) (lv' := [(3, .int (nI (j + 1))), (6, .int (nI 1)), (5, .int (nI (Sp1 j))), (4, .int (nI (Sp1 i))), (0, .ref o), (1, .int (nI (2 ^ bz - 1))), (2, .int (nI i))]) hx hb d_MO_laySplits_204 hl (k := 6) rfl (nI_1 _) (by decide) rfl (fun ls hl => ?_)
                              refine lv_goto (tgt := 106) hx hb d_MO_laySplits_207 (by decide) ?_
                              exact ih_106 (va_up D2 i false) (j + 1) (by omega) (by first | assumption | omega) (gdI_f hgi ⟨c_8, c_10, c_12, c_14⟩) _ _ hP hD hS ls (lv_sub hl [4, 5, 6, 0] rfl)
              exact L106_5 ((q - 0) + 1) (va_up D1 i true) 0 (Nat.lt_succ_self _) (by first | assumption | omega) gdI_0 _ _ hP hD hS ls (lv_sub hl [1, 2, 3, 0] rfl)
        exact L89_3 ((q - 0) + 1) D0 0 (Nat.lt_succ_self _) (by first | assumption | omega) (fun n hn => absurd hn (Nat.not_lt_zero _)) _ _ hP hD hS ls (lv_sub hl [1, 2, 0] rfl)
      · skip
        refine lv_iload_n hx hb d_MO_laySplits_21 rfl (lv_at hl 1 rfl) ?_
        refine lv_iload_n hx hb d_MO_laySplits_22 rfl (lv_at hl 2 rfl) ?_
        refine lv_iconst (v := (-1)) hx hb d_MO_laySplits_23 (by decide) ?_
        refine lv_ixor hx hb d_MO_laySplits_24 ?_
        refine lv_iand hx hb d_MO_laySplits_25 ?_
        refine lv_istore_n (lv' := [(3, .int ((nI (2 ^ bz - 1)) &&& ((nI s0) ^^^ (-1)))), (0, .ref o), (1, .int (nI (2 ^ bz - 1))), (2, .int (nI s0))]) hx hb d_MO_laySplits_26 rfl hl (by decide) rfl (fun ls hl => ?_)
        refine lv_iload_n hx hb d_MO_laySplits_27 rfl (lv_at hl 3 rfl) ?_
        refine vp_callSi (va_Run.run (k_S (n := 1) (rest := []) ⟨hx, hb, hml, hown, hts⟩ (c_MO_many l dC dI cI cJ cZ (nI s0)) wml_MO_92 wst_MO_many wini_MO wcode_MO_many (by decide +kernel) ⟨Nat.le_of_ble_eq_true rfl, Nat.le_of_ble_eq_true rfl⟩ (pre_R (hP.sub (ws' := []) [] rfl) hK) rfl hl.1 rfl (Nat.le_of_ble_eq_true rfl) d_MO_laySplits_28 ⟨Nat.zero_le _, Nat.zero_le _⟩)) (fun r_17 hr_18 => ?_)
        refine xe_i (y := (nI (cn (bt (nI s0)) 16))) hr_18 ?_
        refine lv_iconst (v := (nI 1)) hx hb d_MO_laySplits_31 (by decide) ?_
        refine x_cmp_le (a := (cn (bt (nI s0)) 16)) (b := 1) (tgt := 81) hx hb (Nat.lt_of_le_of_lt (cn_le _ _) (by decide)) (by omega) d_MO_laySplits_32 (by decide) (fun c_19 => ?_) (fun c_19 => ?_)
        · skip
          refine lv_iinc (v := (nI (s0 + 2))) (lv' := [(2, .int (nI (s0 + 2))), (3, .int ((nI (2 ^ bz - 1)) &&& ((nI s0) ^^^ (-1)))), (0, .ref o), (1, .int (nI (2 ^ bz - 1)))]) hx hb d_MO_laySplits_81 hl (k := 3) rfl (nI_add _ _) (by decide) rfl (fun ls hl => ?_)
          refine lv_goto (tgt := 16) hx hb d_MO_laySplits_84 (by decide) ?_
          exact ih_16 Sp1 q (s0 + 2) (by omega) (by first | assumption | omega) (by first | assumption | omega) (by first | assumption | omega) (ls_f hls hs1 (fun z9 => Nat.not_lt.mpr c_19 z9.2.1)) _ _ hP hD hS ls (lv_sub hl [2, 3, 0] rfl)
        · skip
          refine lv_iload_n hx hb d_MO_laySplits_35 rfl (lv_at hl 0 rfl) ?_
          refine vp_callSi (va_Run.run (k_S (n := 1) (rest := []) ⟨hx, hb, hml, hown, hts⟩ (c_MO_many l dC dI cI cJ cZ ((nI (2 ^ bz - 1)) &&& ((nI s0) ^^^ (-1)))) wml_MO_92 wst_MO_many wini_MO wcode_MO_many (by decide +kernel) ⟨Nat.le_of_ble_eq_true rfl, Nat.le_of_ble_eq_true rfl⟩ (pre_R (hP.sub (ws' := []) [] rfl) hK) rfl hl.1 rfl (Nat.le_of_ble_eq_true rfl) d_MO_laySplits_36 ⟨Nat.zero_le _, Nat.zero_le _⟩)) (fun r_20 hr_21 => ?_)
          refine xe_i (y := (nI (cn (bt ((nI (2 ^ bz - 1)) &&& ((nI s0) ^^^ (-1)))) 16))) hr_21 ?_
          refine lv_iconst (v := (nI 1)) hx hb d_MO_laySplits_39 (by decide) ?_
          refine x_cmp_le (a := (cn (bt ((nI (2 ^ bz - 1)) &&& ((nI s0) ^^^ (-1)))) 16)) (b := 1) (tgt := 81) hx hb (Nat.lt_of_le_of_lt (cn_le _ _) (by decide)) (by omega) d_MO_laySplits_40 (by decide) (fun c_22 => ?_) (fun c_22 => ?_)
          · skip
            refine lv_iinc (v := (nI (s0 + 2))) (lv' := [(2, .int (nI (s0 + 2))), (3, .int ((nI (2 ^ bz - 1)) &&& ((nI s0) ^^^ (-1)))), (0, .ref o), (1, .int (nI (2 ^ bz - 1)))]) hx hb d_MO_laySplits_81 hl (k := 3) rfl (nI_add _ _) (by decide) rfl (fun ls hl => ?_)
            refine lv_goto (tgt := 16) hx hb d_MO_laySplits_84 (by decide) ?_
            exact ih_16 Sp1 q (s0 + 2) (by omega) (by first | assumption | omega) (by first | assumption | omega) (by first | assumption | omega) (ls_f hls hs1 (fun z9 => Nat.not_lt.mpr c_22 z9.2.2.1)) _ _ hP hD hS ls (lv_sub hl [2, 3, 0] rfl)
          · skip
            refine lv_aload_n hx hb d_MO_laySplits_43 rfl (lv_at hl 1 rfl) ?_
            refine lv_iload_n hx hb d_MO_laySplits_44 rfl (lv_at hl 3 rfl) ?_
            refine vp_callSi (va_Run.run (k_V (n := 1) (C := R_MO) (rest := []) ⟨hx, hb, hml, hown, hts⟩ (c_MO_touched l dC dI cI cJ cZ o fF fG fT fN fW fO fB fS fD th be (nI q) nd ar bz F G hF hG Ob hOb (nI s0) (by first | assumption | omega)) wml_MO_138 wim_MO_touched wsel_MO_touched wini_MO wcode_MO_touched (by decide +kernel) ⟨Nat.le_of_ble_eq_true rfl, Nat.le_of_ble_eq_true rfl⟩ (preV_R (q := (R_MO, F_MO, 15)) (ci := 7) (q0 := 0) (hP.sub (ws' := [(o, .inr (7, [.int th, .int (nI nd), .int (nI ar), .ref fF, .ref fG, .ref fT, .ref fN, .ref fW, .int be, .ref fO, .ref fB, .int (nI bz), .ref fS, .ref fD, .int (nI q)])), (fF, .inl (cI, 41, .inl (nF F))), (fG, .inl (cI, 41, .inl (nF G))), (fB, .inl (cI, 41, .inl (nF Ob)))]) [0, 1, 2, 3] rfl) hK rfl rfl) rfl hl.1 rfl (Nat.le_of_ble_eq_true rfl) d_MO_laySplits_45 ⟨Nat.zero_le _, Nat.zero_le _⟩)) (fun r_23 hr_24 => ?_)
            refine lv_aload_n hx hb d_MO_laySplits_48 rfl (lv_at hl 1 rfl) ?_
            refine lv_iload_n hx hb d_MO_laySplits_49 rfl (lv_at hl 0 rfl) ?_
            refine vp_callSi (va_Run.run (k_V (n := 1) (C := R_MO) (rest := [.int r_23]) ⟨hx, hb, hml, hown, hts⟩ (c_MO_touched l dC dI cI cJ cZ o fF fG fT fN fW fO fB fS fD th be (nI q) nd ar bz F G hF hG Ob hOb ((nI (2 ^ bz - 1)) &&& ((nI s0) ^^^ (-1))) (by first | assumption | omega)) wml_MO_138 wim_MO_touched wsel_MO_touched wini_MO wcode_MO_touched (by decide +kernel) ⟨Nat.le_of_ble_eq_true rfl, Nat.le_of_ble_eq_true rfl⟩ (preV_R (q := (R_MO, F_MO, 15)) (ci := 7) (q0 := 0) (hP.sub (ws' := [(o, .inr (7, [.int th, .int (nI nd), .int (nI ar), .ref fF, .ref fG, .ref fT, .ref fN, .ref fW, .int be, .ref fO, .ref fB, .int (nI bz), .ref fS, .ref fD, .int (nI q)])), (fF, .inl (cI, 41, .inl (nF F))), (fG, .inl (cI, 41, .inl (nF G))), (fB, .inl (cI, 41, .inl (nF Ob)))]) [0, 1, 2, 3] rfl) hK rfl rfl) rfl hl.1 rfl (Nat.le_of_ble_eq_true rfl) d_MO_laySplits_50 ⟨Nat.zero_le _, Nat.zero_le _⟩)) (fun r_25 hr_26 => ?_)
            refine lv_iand hx hb d_MO_laySplits_53 ?_
            refine vp_callSi (va_Run.run (k_S (n := 1) (rest := []) ⟨hx, hb, hml, hown, hts⟩ (c_MO_many l dC dI cI cJ cZ (r_23 &&& r_25)) wml_MO_92 wst_MO_many wini_MO wcode_MO_many (by decide +kernel) ⟨Nat.le_of_ble_eq_true rfl, Nat.le_of_ble_eq_true rfl⟩ (pre_R (hP.sub (ws' := []) [] rfl) hK) rfl hl.1 rfl (Nat.le_of_ble_eq_true rfl) d_MO_laySplits_54 ⟨Nat.zero_le _, Nat.zero_le _⟩)) (fun r_27 hr_28 => ?_)
            refine xe_i (y := (nI (cn (bt (r_23 &&& r_25)) 16))) hr_28 ?_
            refine lv_iconst (v := (nI 2)) hx hb d_MO_laySplits_57 (by decide) ?_
            refine x_cmp_ne (a := (cn (bt (r_23 &&& r_25)) 16)) (b := 2) (tgt := 81) hx hb (Nat.lt_of_le_of_lt (cn_le _ _) (by decide)) (by omega) d_MO_laySplits_58 (by decide) (fun c_29 => ?_) (fun c_29 => ?_)
            · skip
              refine lv_iinc (v := (nI (s0 + 2))) (lv' := [(2, .int (nI (s0 + 2))), (3, .int ((nI (2 ^ bz - 1)) &&& ((nI s0) ^^^ (-1)))), (0, .ref o), (1, .int (nI (2 ^ bz - 1)))]) hx hb d_MO_laySplits_81 hl (k := 3) rfl (nI_add _ _) (by decide) rfl (fun ls hl => ?_)
              refine lv_goto (tgt := 16) hx hb d_MO_laySplits_84 (by decide) ?_
              exact ih_16 Sp1 q (s0 + 2) (by omega) (by first | assumption | omega) (by first | assumption | omega) (by first | assumption | omega) (ls_f hls hs1 (spQ_f hr_24 hr_26 c_29)) _ _ hP hD hS ls (lv_sub hl [2, 3, 0] rfl)
            · skip
              refine lv_aload_n hx hb d_MO_laySplits_61 rfl (lv_at hl 1 rfl) ?_
              refine va_get (D := (dC, dI)) (ci := 7) (v := .ref fS) (C := R_MO) (T := F_MO) (N := 15) hx hb hts in_MO hown hK.1 hP 0 rfl rfl 12 (by decide) (hts _ wfl_MO_32) (fun _ h9 => h9) rfl d_MO_laySplits_62 ?_
              refine lv_aload_n hx hb d_MO_laySplits_65 rfl (lv_at hl 1 rfl) ?_
              refine va_get (D := (dC, dI)) (ci := 7) (v := .int (nI q)) (C := R_MO) (T := F_MO) (N := 15) hx hb hts in_MO hown hK.1 hP 0 rfl rfl 14 (by decide) (hts _ wfl_MO_135) (fun _ h9 => h9) rfl d_MO_laySplits_66 ?_
              refine lv_iload_n hx hb d_MO_laySplits_69 rfl (lv_at hl 3 rfl) ?_
              refine x_iast (g := (nF (va_up Sp1 q s0))) hx hb hK.1 hP hD hS 4 0 rfl rfl (nF_up _ _ _) (by omega) (by omega) d_MO_laySplits_70 (fun H locs hP hD hS => ?_)
              have hP : va_P (dC, dI) cls [(o, .inr (7, [.int th, .int (nI nd), .int (nI ar), .ref fF, .ref fG, .ref fT, .ref fN, .ref fW, .int be, .ref fO, .ref fB, .int (nI bz), .ref fS, .ref fD, .int (nI q)])), (fF, .inl (cI, 41, .inl (nF F))), (fG, .inl (cI, 41, .inl (nF G))), (fB, .inl (cI, 41, .inl (nF Ob))), (fS, .inl (cI, 8192, .inl (nF (va_up Sp1 q s0)))), (fD, .inl (cZ, 8192, .inl (bF D0)))] H := hP
              have hD : va_D (ow [(o, .inr (7, [.int th, .int (nI nd), .int (nI ar), .ref fF, .ref fG, .ref fT, .ref fN, .ref fW, .int be, .ref fO, .ref fB, .int (nI bz), .ref fS, .ref fD, .int sz])), (fF, .inl (cI, 41, .inl (nF F))), (fG, .inl (cI, 41, .inl (nF G))), (fB, .inl (cI, 41, .inl (nF Ob))), (fS, .inl (cI, 8192, .inl (nF Sp0))), (fD, .inl (cZ, 8192, .inl (bF D0)))]) [(o, .inr (7, [.int th, .int (nI nd), .int (nI ar), .ref fF, .ref fG, .ref fT, .ref fN, .ref fW, .int be, .ref fO, .ref fB, .int (nI bz), .ref fS, .ref fD, .int (nI q)])), (fF, .inl (cI, 41, .inl (nF F))), (fG, .inl (cI, 41, .inl (nF G))), (fB, .inl (cI, 41, .inl (nF Ob))), (fS, .inl (cI, 8192, .inl (nF (va_up Sp1 q s0)))), (fD, .inl (cZ, 8192, .inl (bF D0)))] := hD
              refine lv_aload_n hx hb d_MO_laySplits_71 rfl (lv_at hl 1 rfl) ?_
              refine lv_dup hx hb d_MO_laySplits_72 rfl ?_
              refine va_get (D := (dC, dI)) (ci := 7) (v := .int (nI q)) (C := R_MO) (T := F_MO) (N := 15) hx hb hts in_MO hown hK.1 hP 0 rfl rfl 14 (by decide) (hts _ wfl_MO_135) (fun _ h9 => h9) rfl d_MO_laySplits_73 ?_
              refine lv_iconst (v := (nI 1)) hx hb d_MO_laySplits_76 (by decide) ?_
              refine lv_iadd hx hb d_MO_laySplits_77 ?_
              refine xe_i (nI_add _ _) ?_
              refine va_put (D := (dC, dI)) (ci := 7) (v := .int (nI (q + 1))) (ty := .int) (C := R_MO) (T := F_MO) (N := 15) hx hb hts in_MO t_MO t_MO_ok n_MO hown hK.1 hP hD hS 0 rfl rfl 14 (by decide) (hts _ wfl_MO_135) (fun _ h9 => h9) rfl (by decide +kernel) rfl rfl (Nat.le_of_ble_eq_true rfl) d_MO_laySplits_78 (fun H locs hP hD hS => ?_)
              have hP : va_P (dC, dI) cls [(o, .inr (7, [.int th, .int (nI nd), .int (nI ar), .ref fF, .ref fG, .ref fT, .ref fN, .ref fW, .int be, .ref fO, .ref fB, .int (nI bz), .ref fS, .ref fD, .int (nI (q + 1))])), (fF, .inl (cI, 41, .inl (nF F))), (fG, .inl (cI, 41, .inl (nF G))), (fB, .inl (cI, 41, .inl (nF Ob))), (fS, .inl (cI, 8192, .inl (nF (va_up Sp1 q s0)))), (fD, .inl (cZ, 8192, .inl (bF D0)))] H := hP
              have hD : va_D (ow [(o, .inr (7, [.int th, .int (nI nd), .int (nI ar), .ref fF, .ref fG, .ref fT, .ref fN, .ref fW, .int be, .ref fO, .ref fB, .int (nI bz), .ref fS, .ref fD, .int sz])), (fF, .inl (cI, 41, .inl (nF F))), (fG, .inl (cI, 41, .inl (nF G))), (fB, .inl (cI, 41, .inl (nF Ob))), (fS, .inl (cI, 8192, .inl (nF Sp0))), (fD, .inl (cZ, 8192, .inl (bF D0)))]) [(o, .inr (7, [.int th, .int (nI nd), .int (nI ar), .ref fF, .ref fG, .ref fT, .ref fN, .ref fW, .int be, .ref fO, .ref fB, .int (nI bz), .ref fS, .ref fD, .int (nI (q + 1))])), (fF, .inl (cI, 41, .inl (nF F))), (fG, .inl (cI, 41, .inl (nF G))), (fB, .inl (cI, 41, .inl (nF Ob))), (fS, .inl (cI, 8192, .inl (nF (va_up Sp1 q s0)))), (fD, .inl (cZ, 8192, .inl (bF D0)))] := hD
              refine lv_iinc (v := (nI (s0 + 2))) (lv' := [(2, .int (nI (s0 + 2))), (3, .int ((nI (2 ^ bz - 1)) &&& ((nI s0) ^^^ (-1)))), (0, .ref o), (1, .int (nI (2 ^ bz - 1)))]) hx hb d_MO_laySplits_81 hl (k := 3) rfl (nI_add _ _) (by decide) rfl (fun ls hl => ?_)
              refine lv_goto (tgt := 16) hx hb d_MO_laySplits_84 (by decide) ?_
              exact ih_16 (va_up Sp1 q s0) (q + 1) (s0 + 2) (by omega) (by first | assumption | omega) (by first | assumption | omega) (by first | assumption | omega) (ls_t hls hs1 ⟨hs1, by omega, by omega, _, _, hr_24, hr_26, c_29⟩) _ _ hP hD hS ls (lv_sub hl [2, 3, 0] rfl)
  exact L16_1 ((16400 - 1) + 1) Sp0 0 1 (Nat.lt_succ_self _) (by first | assumption | omega) (by first | assumption | omega) (by first | assumption | omega) ls_0 _ _ hP hD hS ls (lv_sub hl [2, 1, 0] rfl)
