theorem d_MO_out_0 : decode prog_9_method_23_code 0 = .ok (.iconst 0, 1) := by decide +kernel
theorem d_MO_out_1 : decode prog_9_method_23_code 1 = .ok (.istore_n 3, 1) := by decide +kernel
theorem d_MO_out_2 : decode prog_9_method_23_code 2 = .ok (.iconst 0, 1) := by decide +kernel
theorem d_MO_out_3 : decode prog_9_method_23_code 3 = .ok (.istore 4, 2) := by decide +kernel
theorem d_MO_out_5 : decode prog_9_method_23_code 5 = .ok (.iload 4, 2) := by decide +kernel
theorem d_MO_out_7 : decode prog_9_method_23_code 7 = .ok (.aload_n 0, 1) := by decide +kernel
theorem d_MO_out_8 : decode prog_9_method_23_code 8 = .ok (.getfield 45, 3) := by decide +kernel
theorem d_MO_out_11 : decode prog_9_method_23_code 11 = .ok (.iload_n 2, 1) := by decide +kernel
theorem d_MO_out_12 : decode prog_9_method_23_code 12 = .ok (.iadd, 1) := by decide +kernel
theorem d_MO_out_13 : decode prog_9_method_23_code 13 = .ok (.if_icmp .ge 73, 3) := by decide +kernel
theorem d_MO_out_16 : decode prog_9_method_23_code 16 = .ok (.iload 4, 2) := by decide +kernel
theorem d_MO_out_18 : decode prog_9_method_23_code 18 = .ok (.aload_n 0, 1) := by decide +kernel
theorem d_MO_out_19 : decode prog_9_method_23_code 19 = .ok (.getfield 45, 3) := by decide +kernel
theorem d_MO_out_22 : decode prog_9_method_23_code 22 = .ok (.if_icmp .eq 13, 3) := by decide +kernel
theorem d_MO_out_25 : decode prog_9_method_23_code 25 = .ok (.aload_n 0, 1) := by decide +kernel
theorem d_MO_out_26 : decode prog_9_method_23_code 26 = .ok (.getfield 16, 3) := by decide +kernel
theorem d_MO_out_29 : decode prog_9_method_23_code 29 = .ok (.iload 4, 2) := by decide +kernel
theorem d_MO_out_31 : decode prog_9_method_23_code 31 = .ok (.baload, 1) := by decide +kernel
theorem d_MO_out_32 : decode prog_9_method_23_code 32 = .ok (.ifCond .eq 7, 3) := by decide +kernel
theorem d_MO_out_35 : decode prog_9_method_23_code 35 = .ok (.iconst 1, 1) := by decide +kernel
theorem d_MO_out_36 : decode prog_9_method_23_code 36 = .ok (.goto 4, 3) := by decide +kernel
theorem d_MO_out_39 : decode prog_9_method_23_code 39 = .ok (.iconst 0, 1) := by decide +kernel
theorem d_MO_out_40 : decode prog_9_method_23_code 40 = .ok (.istore 5, 2) := by decide +kernel
theorem d_MO_out_42 : decode prog_9_method_23_code 42 = .ok (.iload_n 3, 1) := by decide +kernel
theorem d_MO_out_43 : decode prog_9_method_23_code 43 = .ok (.iload 5, 2) := by decide +kernel
theorem d_MO_out_45 : decode prog_9_method_23_code 45 = .ok (.ifCond .eq 32, 3) := by decide +kernel
theorem d_MO_out_48 : decode prog_9_method_23_code 48 = .ok (.iload_n 1, 1) := by decide +kernel
theorem d_MO_out_49 : decode prog_9_method_23_code 49 = .ok (.aload_n 0, 1) := by decide +kernel
theorem d_MO_out_50 : decode prog_9_method_23_code 50 = .ok (.getfield 7, 3) := by decide +kernel
theorem d_MO_out_53 : decode prog_9_method_23_code 53 = .ok (.iload 4, 2) := by decide +kernel
theorem d_MO_out_55 : decode prog_9_method_23_code 55 = .ok (.iaload, 1) := by decide +kernel
theorem d_MO_out_56 : decode prog_9_method_23_code 56 = .ok (.ishr, 1) := by decide +kernel
theorem d_MO_out_57 : decode prog_9_method_23_code 57 = .ok (.iconst 1, 1) := by decide +kernel
theorem d_MO_out_58 : decode prog_9_method_23_code 58 = .ok (.iand, 1) := by decide +kernel
theorem d_MO_out_59 : decode prog_9_method_23_code 59 = .ok (.iload_n 1, 1) := by decide +kernel
theorem d_MO_out_60 : decode prog_9_method_23_code 60 = .ok (.aload_n 0, 1) := by decide +kernel
theorem d_MO_out_61 : decode prog_9_method_23_code 61 = .ok (.getfield 13, 3) := by decide +kernel
theorem d_MO_out_64 : decode prog_9_method_23_code 64 = .ok (.iload 4, 2) := by decide +kernel
theorem d_MO_out_66 : decode prog_9_method_23_code 66 = .ok (.iaload, 1) := by decide +kernel
theorem d_MO_out_67 : decode prog_9_method_23_code 67 = .ok (.ishr, 1) := by decide +kernel
theorem d_MO_out_68 : decode prog_9_method_23_code 68 = .ok (.iconst 1, 1) := by decide +kernel
theorem d_MO_out_69 : decode prog_9_method_23_code 69 = .ok (.iand, 1) := by decide +kernel
theorem d_MO_out_70 : decode prog_9_method_23_code 70 = .ok (.if_icmp .eq 7, 3) := by decide +kernel
theorem d_MO_out_73 : decode prog_9_method_23_code 73 = .ok (.iconst 1, 1) := by decide +kernel
theorem d_MO_out_74 : decode prog_9_method_23_code 74 = .ok (.goto 4, 3) := by decide +kernel
theorem d_MO_out_77 : decode prog_9_method_23_code 77 = .ok (.iconst 0, 1) := by decide +kernel
theorem d_MO_out_78 : decode prog_9_method_23_code 78 = .ok (.iadd, 1) := by decide +kernel
theorem d_MO_out_79 : decode prog_9_method_23_code 79 = .ok (.istore_n 3, 1) := by decide +kernel
theorem d_MO_out_80 : decode prog_9_method_23_code 80 = .ok (.iinc 4 1, 3) := by decide +kernel
theorem d_MO_out_83 : decode prog_9_method_23_code 83 = .ok (.goto (-78), 3) := by decide +kernel
theorem d_MO_out_86 : decode prog_9_method_23_code 86 = .ok (.iload_n 3, 1) := by decide +kernel
theorem d_MO_out_87 : decode prog_9_method_23_code 87 = .ok (.ireturn, 1) := by decide +kernel
set_option maxHeartbeats 4000000 in
set_option maxRecDepth 100000 in
theorem c_MO_out (l : Launch) (dC : Nat → ClassId) (dI : Nat → Nat → Nat) (cI cJ cZ : ClassId) (o fF fG fT fN fW fO fB fS fD : Nat) (th be bz sz : Int32) (nd ar : Nat) (F G : Nat → Nat) (P : Nat → Bool) (hF : ∀ k, F k < 14) (hG : ∀ k, G k < 14) (st : Int32) (mo : Nat) (hmo : ar + mo ≤ 41) : Met l ⟨"CutPointsModel", "out", "(II)I"⟩ (Cond.code ⟨"CutPointsModel", "out", "(II)I"⟩ prog_9_method_23_code 6 (some .int) :: TT) (rmk 0 0) (PR dC dI cI cJ cZ [.ref o, .int st, .int (nI mo)] [(o, .inr (7, [.int th, .int (nI nd), .int (nI ar), .ref fF, .ref fG, .ref fT, .ref fN, .ref fW, .int be, .ref fO, .ref fB, .int bz, .ref fS, .ref fD, .int sz])), (fF, .inl (cI, 41, .inl (nF F))), (fG, .inl (cI, 41, .inl (nF G))), (fT, .inl (cZ, 41, .inl (bF P)))]) (vp_Si (fun r => r = nI (cn (ouB ar P F G st) (ar + mo)))) 0 0 (fun _ => False) := by
  refine Met.ofW (cc := prog_9_method_23_code) (maxL := 6) (ret := (some .int)) (by decide) rfl ?_
  intro p e s m args below meth c s₁ BB9 hml hv
  obtain ⟨rfl, hP, hK⟩ := hv
  have hx := BB9.exec
  have hb := BB9.bytes
  have hr := BB9.returns
  have hts : ∀ w ∈ TT, w.before _ s = true := fun w h => atoms_spec (ws := (Cond.code ⟨"CutPointsModel", "out", "(II)I"⟩ prog_9_method_23_code 6 (some .int) :: TT)) BB9.pre w (List.mem_cons_of_mem _ h)
  have hown : s.vm.findClass "CutPointsModel" = some m.cls := findClass_of_methodNamed BB9.named
  have hlocks := BB9.notSynchronized
  have hl := lv_entry ([.ref o, .int st, .int (nI mo)]) (n := 6) (Nat.le_of_ble_eq_true rfl)
  rw [lg_entry_eq]
  generalize (lg_sl ([.ref o, .int st, .int (nI mo)]) ++ List.replicate (6 - (lg_sl ([.ref o, .int st, .int (nI mo)])).length) Slot.unset).toArray = ls at hl ⊢
  have hl : lv_has ls 6 [(0, .ref o), (1, .int st), (2, .int (nI mo))] := hl
  refine lv_iconst (v := (nI 0)) hx hb d_MO_out_0 (by decide) ?_
  refine lv_istore_n (lv' := [(3, .int (nI 0)), (0, .ref o), (1, .int st), (2, .int (nI mo))]) hx hb d_MO_out_1 rfl hl (by decide) rfl (fun ls hl => ?_)
  refine lv_iconst (v := (nI 0)) hx hb d_MO_out_2 (by decide) ?_
  refine lv_istore (lv' := [(4, .int (nI 0)), (3, .int (nI 0)), (0, .ref o), (1, .int st), (2, .int (nI mo))]) hx hb d_MO_out_3 hl (by decide) rfl (fun ls hl => ?_)
  have L5_1 : ∀ (n : Nat) (q : Nat) (i : Nat) (hn : ar + mo - i < n) (hi : i ≤ ar + mo) (hq : q = cn (ouB ar P F G st) i) (ls : Array Slot) (hl : lv_has ls 6 [(0, .ref o), (1, .int st), (2, .int (nI mo)), (3, .int (nI q)), (4, .int (nI i))]), W p l e (headSpec (Cond.code ⟨"CutPointsModel", "out", "(II)I"⟩ prog_9_method_23_code 6 (some .int) :: TT) (rmk 0 0)).room s m ([.ref o, .int st, .int (nI mo)] : List Value).toArray below meth c s.heap [] 0 0 (MQ below (vp_Si (fun r => r = nI (cn (ouB ar P F G st) (ar + mo)))) ([.ref o, .int st, .int (nI mo)] : List Value).toArray s 0 0 (fun _ => False)) (F0 m 5 ls []) := by
    intro n_5
    induction n_5 with
    | zero =>
      intro q i hn_5
      exact absurd hn_5 (Nat.not_lt_zero _)
    | succ n_5 ih_5 =>
      intro q i hn_5 hi hq ls hl
      refine lv_iload hx hb d_MO_out_5 (lv_at hl 4 rfl) ?_
      refine lv_aload_n hx hb d_MO_out_7 rfl (lv_at hl 0 rfl) ?_
      refine va_get (D := (dC, dI)) (ci := 7) (v := .int (nI ar)) (C := R_MO) (T := F_MO) (N := 15) hx hb hts in_MO hown hK.1 hP 0 rfl rfl 2 (by decide) (hts _ wfl_MO_45) (fun _ h9 => h9) rfl d_MO_out_8 ?_
      refine lv_iload_n hx hb d_MO_out_11 rfl (lv_at hl 2 rfl) ?_
      refine lv_iadd hx hb d_MO_out_12 ?_
      refine xe_i (nI_add _ _) ?_
      refine x_cmp_ge (a := i) (b := (ar + mo)) (tgt := 86) hx hb (by omega) (by omega) d_MO_out_13 (by decide) (fun c_2 => ?_) (fun c_2 => ?_)
      · skip
        refine lv_iload_n hx hb d_MO_out_86 rfl (lv_at hl 3 rfl) ?_
        exact W.iret (v := (nI q)) hx hb hr (fun t9 ht9 _ => ⟨_, rfl, (by have e9 : i = ar + mo := (by omega); subst e9; rw [hq]), ht9⟩) t_nil d_MO_out_87
      · skip
        refine lv_iload hx hb d_MO_out_16 (lv_at hl 4 rfl) ?_
        refine lv_aload_n hx hb d_MO_out_18 rfl (lv_at hl 0 rfl) ?_
        refine va_get (D := (dC, dI)) (ci := 7) (v := .int (nI ar)) (C := R_MO) (T := F_MO) (N := 15) hx hb hts in_MO hown hK.1 hP 0 rfl rfl 2 (by decide) (hts _ wfl_MO_45) (fun _ h9 => h9) rfl d_MO_out_19 ?_
        refine x_cmp_eq (a := i) (b := ar) (tgt := 35) hx hb (by omega) (by omega) d_MO_out_22 (by decide) (fun c_3 => ?_) (fun c_3 => ?_)
        · skip
          refine lv_iconst (v := (nI 1)) hx hb d_MO_out_35 (by decide) ?_
          refine lv_goto (tgt := 40) hx hb d_MO_out_36 (by decide) ?_
          refine lv_istore (lv' := [(5, .int (nI 1)), (0, .ref o), (1, .int st), (2, .int (nI mo)), (3, .int (nI q)), (4, .int (nI i))]) hx hb d_MO_out_40 hl (by decide) rfl (fun ls hl => ?_)
          refine lv_iload_n hx hb d_MO_out_42 rfl (lv_at hl 4 rfl) ?_
          refine lv_iload hx hb d_MO_out_43 (lv_at hl 0 rfl) ?_
          refine lv_if_eq (tgt := 77) hx hb d_MO_out_45 (by decide) (fun c9 => absurd c9 (by decide : ¬ ((nI 1) : Int32) = 0)) (fun _ => ?_)
          refine lv_iload_n hx hb d_MO_out_48 rfl (lv_at hl 2 rfl) ?_
          refine lv_aload_n hx hb d_MO_out_49 rfl (lv_at hl 1 rfl) ?_
          refine va_get (D := (dC, dI)) (ci := 7) (v := .ref fF) (C := R_MO) (T := F_MO) (N := 15) hx hb hts in_MO hown hK.1 hP 0 rfl rfl 3 (by decide) (hts _ wfl_MO_7) (fun _ h9 => h9) rfl d_MO_out_50 ?_
          refine lv_iload hx hb d_MO_out_53 (lv_at hl 5 rfl) ?_
          refine x_iald (n := 41) (f := (nF F)) (j := i) hx hb hK.1 hP 1 0 rfl rfl (by omega) (by omega) d_MO_out_55 ?_
          refine xe_i (y := (nI (F i))) rfl ?_
          refine lv_ishr hx hb d_MO_out_56 ?_
          refine lv_iconst (v := (nI 1)) hx hb d_MO_out_57 (by decide) ?_
          refine lv_iand hx hb d_MO_out_58 ?_
          refine xe_i (y := (bI (bt st (F i)))) (sh1 (Nat.lt_trans (hF _) (by decide))) ?_
          refine lv_iload_n hx hb d_MO_out_59 rfl (lv_at hl 2 rfl) ?_
          refine lv_aload_n hx hb d_MO_out_60 rfl (lv_at hl 1 rfl) ?_
          refine va_get (D := (dC, dI)) (ci := 7) (v := .ref fG) (C := R_MO) (T := F_MO) (N := 15) hx hb hts in_MO hown hK.1 hP 0 rfl rfl 4 (by decide) (hts _ wfl_MO_13) (fun _ h9 => h9) rfl d_MO_out_61 ?_
          refine lv_iload hx hb d_MO_out_64 (lv_at hl 5 rfl) ?_
          refine x_iald (n := 41) (f := (nF G)) (j := i) hx hb hK.1 hP 2 0 rfl rfl (by omega) (by omega) d_MO_out_66 ?_
          refine xe_i (y := (nI (G i))) rfl ?_
          refine lv_ishr hx hb d_MO_out_67 ?_
          refine lv_iconst (v := (nI 1)) hx hb d_MO_out_68 (by decide) ?_
          refine lv_iand hx hb d_MO_out_69 ?_
          refine xe_i (y := (bI (bt st (G i)))) (sh1 (Nat.lt_trans (hG _) (by decide))) ?_
          refine x_cmpb_eq (tgt := 77) hx hb d_MO_out_70 (by decide) (fun c_5 => ?_) (fun c_5 => ?_)
          · skip
            refine lv_iconst (v := (nI 0)) hx hb d_MO_out_77 (by decide) ?_
            refine lv_iadd hx hb d_MO_out_78 ?_
            refine xe_i (nI_add _ _) ?_
            refine lv_istore_n (lv' := [(3, .int (nI (q + 0))), (5, .int (nI 1)), (0, .ref o), (1, .int st), (2, .int (nI mo)), (4, .int (nI i))]) hx hb d_MO_out_79 rfl hl (by decide) rfl (fun ls hl => ?_)
            refine lv_iinc (v := (nI (i + 1))) (lv' := [(4, .int (nI (i + 1))), (3, .int (nI (q + 0))), (5, .int (nI 1)), (0, .ref o), (1, .int st), (2, .int (nI mo))]) hx hb d_MO_out_80 hl (k := 5) rfl (nI_1 _) (by decide) rfl (fun ls hl => ?_)
            refine lv_goto (tgt := 5) hx hb d_MO_out_83 (by decide) ?_
            exact ih_5 (q + 0) (i + 1) (by omega) (by first | assumption | omega) (show q + 0 = _ from cn_f hq (ou_f2 c_5)) ls (lv_sub hl [3, 4, 5, 1, 0] rfl)
          · skip
            refine lv_iconst (v := (nI 1)) hx hb d_MO_out_73 (by decide) ?_
            refine lv_goto (tgt := 78) hx hb d_MO_out_74 (by decide) ?_
            refine lv_iadd hx hb d_MO_out_78 ?_
            refine xe_i (nI_add _ _) ?_
            refine lv_istore_n (lv' := [(3, .int (nI (q + 1))), (5, .int (nI 1)), (0, .ref o), (1, .int st), (2, .int (nI mo)), (4, .int (nI i))]) hx hb d_MO_out_79 rfl hl (by decide) rfl (fun ls hl => ?_)
            refine lv_iinc (v := (nI (i + 1))) (lv' := [(4, .int (nI (i + 1))), (3, .int (nI (q + 1))), (5, .int (nI 1)), (0, .ref o), (1, .int st), (2, .int (nI mo))]) hx hb d_MO_out_80 hl (k := 5) rfl (nI_1 _) (by decide) rfl (fun ls hl => ?_)
            refine lv_goto (tgt := 5) hx hb d_MO_out_83 (by decide) ?_
            exact ih_5 (q + 1) (i + 1) (by omega) (by first | assumption | omega) (cn_t hq (ou_t (Or.inl c_3) c_5)) ls (lv_sub hl [3, 4, 5, 1, 0] rfl)
        · skip
          refine lv_aload_n hx hb d_MO_out_25 rfl (lv_at hl 0 rfl) ?_
          refine va_get (D := (dC, dI)) (ci := 7) (v := .ref fT) (C := R_MO) (T := F_MO) (N := 15) hx hb hts in_MO hown hK.1 hP 0 rfl rfl 5 (by decide) (hts _ wfl_MO_16) (fun _ h9 => h9) rfl d_MO_out_26 ?_
          refine lv_iload hx hb d_MO_out_29 (lv_at hl 4 rfl) ?_
          refine x_zald (n := 41) (f := (bF P)) (j := i) hx hb hK.1 hP 3 2 rfl rfl (by omega) (by omega) d_MO_out_31 ?_
          refine xe_i (y := (bI (P i))) rfl ?_
          refine x_if_eq (tgt := 39) hx hb d_MO_out_32 (by decide) (fun c_6 => ?_) (fun c_6 => ?_)
          · skip
            refine lv_iconst (v := (nI 0)) hx hb d_MO_out_39 (by decide) ?_
            refine lv_istore (lv' := [(5, .int (nI 0)), (0, .ref o), (1, .int st), (2, .int (nI mo)), (3, .int (nI q)), (4, .int (nI i))]) hx hb d_MO_out_40 hl (by decide) rfl (fun ls hl => ?_)
            refine lv_iload_n hx hb d_MO_out_42 rfl (lv_at hl 4 rfl) ?_
            refine lv_iload hx hb d_MO_out_43 (lv_at hl 0 rfl) ?_
            refine lv_if_eq (tgt := 77) hx hb d_MO_out_45 (by decide) (fun _ => ?_) (fun c9 => absurd (by decide : ((nI 0) : Int32) = 0) c9)
            refine lv_iconst (v := (nI 0)) hx hb d_MO_out_77 (by decide) ?_
            refine lv_iadd hx hb d_MO_out_78 ?_
            refine xe_i (nI_add _ _) ?_
            refine lv_istore_n (lv' := [(3, .int (nI (q + 0))), (5, .int (nI 0)), (0, .ref o), (1, .int st), (2, .int (nI mo)), (4, .int (nI i))]) hx hb d_MO_out_79 rfl hl (by decide) rfl (fun ls hl => ?_)
            refine lv_iinc (v := (nI (i + 1))) (lv' := [(4, .int (nI (i + 1))), (3, .int (nI (q + 0))), (5, .int (nI 0)), (0, .ref o), (1, .int st), (2, .int (nI mo))]) hx hb d_MO_out_80 hl (k := 5) rfl (nI_1 _) (by decide) rfl (fun ls hl => ?_)
            refine lv_goto (tgt := 5) hx hb d_MO_out_83 (by decide) ?_
            exact ih_5 (q + 0) (i + 1) (by omega) (by first | assumption | omega) (show q + 0 = _ from cn_f hq (ou_f1 c_3 c_6)) ls (lv_sub hl [3, 4, 5, 1, 0] rfl)
          · skip
            refine lv_iconst (v := (nI 1)) hx hb d_MO_out_35 (by decide) ?_
            refine lv_goto (tgt := 40) hx hb d_MO_out_36 (by decide) ?_
            refine lv_istore (lv' := [(5, .int (nI 1)), (0, .ref o), (1, .int st), (2, .int (nI mo)), (3, .int (nI q)), (4, .int (nI i))]) hx hb d_MO_out_40 hl (by decide) rfl (fun ls hl => ?_)
            refine lv_iload_n hx hb d_MO_out_42 rfl (lv_at hl 4 rfl) ?_
            refine lv_iload hx hb d_MO_out_43 (lv_at hl 0 rfl) ?_
            refine lv_if_eq (tgt := 77) hx hb d_MO_out_45 (by decide) (fun c9 => absurd c9 (by decide : ¬ ((nI 1) : Int32) = 0)) (fun _ => ?_)
            refine lv_iload_n hx hb d_MO_out_48 rfl (lv_at hl 2 rfl) ?_
            refine lv_aload_n hx hb d_MO_out_49 rfl (lv_at hl 1 rfl) ?_
            refine va_get (D := (dC, dI)) (ci := 7) (v := .ref fF) (C := R_MO) (T := F_MO) (N := 15) hx hb hts in_MO hown hK.1 hP 0 rfl rfl 3 (by decide) (hts _ wfl_MO_7) (fun _ h9 => h9) rfl d_MO_out_50 ?_
            refine lv_iload hx hb d_MO_out_53 (lv_at hl 5 rfl) ?_
            refine x_iald (n := 41) (f := (nF F)) (j := i) hx hb hK.1 hP 1 0 rfl rfl (by omega) (by omega) d_MO_out_55 ?_
            refine xe_i (y := (nI (F i))) rfl ?_
            refine lv_ishr hx hb d_MO_out_56 ?_
            refine lv_iconst (v := (nI 1)) hx hb d_MO_out_57 (by decide) ?_
            refine lv_iand hx hb d_MO_out_58 ?_
            refine xe_i (y := (bI (bt st (F i)))) (sh1 (Nat.lt_trans (hF _) (by decide))) ?_
            refine lv_iload_n hx hb d_MO_out_59 rfl (lv_at hl 2 rfl) ?_
            refine lv_aload_n hx hb d_MO_out_60 rfl (lv_at hl 1 rfl) ?_
            refine va_get (D := (dC, dI)) (ci := 7) (v := .ref fG) (C := R_MO) (T := F_MO) (N := 15) hx hb hts in_MO hown hK.1 hP 0 rfl rfl 4 (by decide) (hts _ wfl_MO_13) (fun _ h9 => h9) rfl d_MO_out_61 ?_
            refine lv_iload hx hb d_MO_out_64 (lv_at hl 5 rfl) ?_
            refine x_iald (n := 41) (f := (nF G)) (j := i) hx hb hK.1 hP 2 0 rfl rfl (by omega) (by omega) d_MO_out_66 ?_
            refine xe_i (y := (nI (G i))) rfl ?_
            refine lv_ishr hx hb d_MO_out_67 ?_
            refine lv_iconst (v := (nI 1)) hx hb d_MO_out_68 (by decide) ?_
            refine lv_iand hx hb d_MO_out_69 ?_
            refine xe_i (y := (bI (bt st (G i)))) (sh1 (Nat.lt_trans (hG _) (by decide))) ?_
            refine x_cmpb_eq (tgt := 77) hx hb d_MO_out_70 (by decide) (fun c_9 => ?_) (fun c_9 => ?_)
            · skip
              refine lv_iconst (v := (nI 0)) hx hb d_MO_out_77 (by decide) ?_
              refine lv_iadd hx hb d_MO_out_78 ?_
              refine xe_i (nI_add _ _) ?_
              refine lv_istore_n (lv' := [(3, .int (nI (q + 0))), (5, .int (nI 1)), (0, .ref o), (1, .int st), (2, .int (nI mo)), (4, .int (nI i))]) hx hb d_MO_out_79 rfl hl (by decide) rfl (fun ls hl => ?_)
              refine lv_iinc (v := (nI (i + 1))) (lv' := [(4, .int (nI (i + 1))), (3, .int (nI (q + 0))), (5, .int (nI 1)), (0, .ref o), (1, .int st), (2, .int (nI mo))]) hx hb d_MO_out_80 hl (k := 5) rfl (nI_1 _) (by decide) rfl (fun ls hl => ?_)
              refine lv_goto (tgt := 5) hx hb d_MO_out_83 (by decide) ?_
              exact ih_5 (q + 0) (i + 1) (by omega) (by first | assumption | omega) (show q + 0 = _ from cn_f hq (ou_f2 c_9)) ls (lv_sub hl [3, 4, 5, 1, 0] rfl)
            · skip
              refine lv_iconst (v := (nI 1)) hx hb d_MO_out_73 (by decide) ?_
              refine lv_goto (tgt := 78) hx hb d_MO_out_74 (by decide) ?_
              refine lv_iadd hx hb d_MO_out_78 ?_
              refine xe_i (nI_add _ _) ?_
              refine lv_istore_n (lv' := [(3, .int (nI (q + 1))), (5, .int (nI 1)), (0, .ref o), (1, .int st), (2, .int (nI mo)), (4, .int (nI i))]) hx hb d_MO_out_79 rfl hl (by decide) rfl (fun ls hl => ?_)
              refine lv_iinc (v := (nI (i + 1))) (lv' := [(4, .int (nI (i + 1))), (3, .int (nI (q + 1))), (5, .int (nI 1)), (0, .ref o), (1, .int st), (2, .int (nI mo))]) hx hb d_MO_out_80 hl (k := 5) rfl (nI_1 _) (by decide) rfl (fun ls hl => ?_)
              refine lv_goto (tgt := 5) hx hb d_MO_out_83 (by decide) ?_
              exact ih_5 (q + 1) (i + 1) (by omega) (by first | assumption | omega) (cn_t hq (ou_t (Or.inr c_6) c_9)) ls (lv_sub hl [3, 4, 5, 1, 0] rfl)
  exact L5_1 ((ar + mo - 0) + 1) 0 0 (Nat.lt_succ_self _) (by first | assumption | omega) rfl ls (lv_sub hl [2, 3, 4, 1, 0] rfl)

theorem d_MO_neededWith_0 : decode prog_9_method_24_code 0 = .ok (.aload_n 0, 1) := by decide +kernel
theorem d_MO_neededWith_1 : decode prog_9_method_24_code 1 = .ok (.iload_n 1, 1) := by decide +kernel
theorem d_MO_neededWith_2 : decode prog_9_method_24_code 2 = .ok (.invokevirtual 80, 3) := by decide +kernel
theorem d_MO_neededWith_5 : decode prog_9_method_24_code 5 = .ok (.iconst 0, 1) := by decide +kernel
theorem d_MO_neededWith_6 : decode prog_9_method_24_code 6 = .ok (.istore_n 2, 1) := by decide +kernel
theorem d_MO_neededWith_7 : decode prog_9_method_24_code 7 = .ok (.iconst 0, 1) := by decide +kernel
theorem d_MO_neededWith_8 : decode prog_9_method_24_code 8 = .ok (.istore_n 3, 1) := by decide +kernel
theorem d_MO_neededWith_9 : decode prog_9_method_24_code 9 = .ok (.iconst 0, 1) := by decide +kernel
theorem d_MO_neededWith_10 : decode prog_9_method_24_code 10 = .ok (.istore 4, 2) := by decide +kernel
theorem d_MO_neededWith_12 : decode prog_9_method_24_code 12 = .ok (.iload 4, 2) := by decide +kernel
theorem d_MO_neededWith_14 : decode prog_9_method_24_code 14 = .ok (.aload_n 0, 1) := by decide +kernel
theorem d_MO_neededWith_15 : decode prog_9_method_24_code 15 = .ok (.getfield 42, 3) := by decide +kernel
theorem d_MO_neededWith_18 : decode prog_9_method_24_code 18 = .ok (.if_icmp .ge 58, 3) := by decide +kernel
theorem d_MO_neededWith_21 : decode prog_9_method_24_code 21 = .ok (.aload_n 0, 1) := by decide +kernel
theorem d_MO_neededWith_22 : decode prog_9_method_24_code 22 = .ok (.getfield 23, 3) := by decide +kernel
theorem d_MO_neededWith_25 : decode prog_9_method_24_code 25 = .ok (.iload 4, 2) := by decide +kernel
theorem d_MO_neededWith_27 : decode prog_9_method_24_code 27 = .ok (.iaload, 1) := by decide +kernel
theorem d_MO_neededWith_28 : decode prog_9_method_24_code 28 = .ok (.invokestatic 56, 3) := by decide +kernel
theorem d_MO_neededWith_31 : decode prog_9_method_24_code 31 = .ok (.iload 4, 2) := by decide +kernel
theorem d_MO_neededWith_33 : decode prog_9_method_24_code 33 = .ok (.if_icmp .ne 37, 3) := by decide +kernel
theorem d_MO_neededWith_36 : decode prog_9_method_24_code 36 = .ok (.aload_n 0, 1) := by decide +kernel
theorem d_MO_neededWith_37 : decode prog_9_method_24_code 37 = .ok (.aload_n 0, 1) := by decide +kernel
theorem d_MO_neededWith_38 : decode prog_9_method_24_code 38 = .ok (.getfield 23, 3) := by decide +kernel
theorem d_MO_neededWith_41 : decode prog_9_method_24_code 41 = .ok (.iload 4, 2) := by decide +kernel
theorem d_MO_neededWith_43 : decode prog_9_method_24_code 43 = .ok (.iaload, 1) := by decide +kernel
theorem d_MO_neededWith_44 : decode prog_9_method_24_code 44 = .ok (.iload_n 1, 1) := by decide +kernel
theorem d_MO_neededWith_45 : decode prog_9_method_24_code 45 = .ok (.invokevirtual 84, 3) := by decide +kernel
theorem d_MO_neededWith_48 : decode prog_9_method_24_code 48 = .ok (.istore 5, 2) := by decide +kernel
theorem d_MO_neededWith_50 : decode prog_9_method_24_code 50 = .ok (.iload_n 2, 1) := by decide +kernel
theorem d_MO_neededWith_51 : decode prog_9_method_24_code 51 = .ok (.iload 5, 2) := by decide +kernel
theorem d_MO_neededWith_53 : decode prog_9_method_24_code 53 = .ok (.iconst 2, 1) := by decide +kernel
theorem d_MO_neededWith_54 : decode prog_9_method_24_code 54 = .ok (.if_icmp .ge 10, 3) := by decide +kernel
theorem d_MO_neededWith_57 : decode prog_9_method_24_code 57 = .ok (.iconst 2, 1) := by decide +kernel
theorem d_MO_neededWith_58 : decode prog_9_method_24_code 58 = .ok (.iload 5, 2) := by decide +kernel
theorem d_MO_neededWith_60 : decode prog_9_method_24_code 60 = .ok (.isub, 1) := by decide +kernel
theorem d_MO_neededWith_61 : decode prog_9_method_24_code 61 = .ok (.goto 4, 3) := by decide +kernel
theorem d_MO_neededWith_64 : decode prog_9_method_24_code 64 = .ok (.iconst 0, 1) := by decide +kernel
theorem d_MO_neededWith_65 : decode prog_9_method_24_code 65 = .ok (.iadd, 1) := by decide +kernel
theorem d_MO_neededWith_66 : decode prog_9_method_24_code 66 = .ok (.istore_n 2, 1) := by decide +kernel
theorem d_MO_neededWith_67 : decode prog_9_method_24_code 67 = .ok (.iinc 3 1, 3) := by decide +kernel
theorem d_MO_neededWith_70 : decode prog_9_method_24_code 70 = .ok (.iinc 4 1, 3) := by decide +kernel
theorem d_MO_neededWith_73 : decode prog_9_method_24_code 73 = .ok (.goto (-61), 3) := by decide +kernel
theorem d_MO_neededWith_76 : decode prog_9_method_24_code 76 = .ok (.iload_n 3, 1) := by decide +kernel
theorem d_MO_neededWith_77 : decode prog_9_method_24_code 77 = .ok (.iconst 2, 1) := by decide +kernel
theorem d_MO_neededWith_78 : decode prog_9_method_24_code 78 = .ok (.if_icmp .ge 7, 3) := by decide +kernel
theorem d_MO_neededWith_81 : decode prog_9_method_24_code 81 = .ok (.iconst 0, 1) := by decide +kernel
theorem d_MO_neededWith_82 : decode prog_9_method_24_code 82 = .ok (.goto 8, 3) := by decide +kernel
theorem d_MO_neededWith_85 : decode prog_9_method_24_code 85 = .ok (.iload_n 2, 1) := by decide +kernel
theorem d_MO_neededWith_86 : decode prog_9_method_24_code 86 = .ok (.iconst 1, 1) := by decide +kernel
theorem d_MO_neededWith_87 : decode prog_9_method_24_code 87 = .ok (.iadd, 1) := by decide +kernel
theorem d_MO_neededWith_88 : decode prog_9_method_24_code 88 = .ok (.iconst 2, 1) := by decide +kernel
theorem d_MO_neededWith_89 : decode prog_9_method_24_code 89 = .ok (.idiv, 1) := by decide +kernel
theorem d_MO_neededWith_90 : decode prog_9_method_24_code 90 = .ok (.ireturn, 1) := by decide +kernel
set_option maxHeartbeats 4000000 in
set_option maxRecDepth 100000 in
theorem c_MO_neededWith (l : Launch) (dC : Nat → ClassId) (dI : Nat → Nat → Nat) (cI cJ cZ : ClassId) (o fF fG fT fN fW fO fB fS fD : Nat) (th be bz sz : Int32) (nd ar : Nat) (F G : Nat → Nat) (P : Nat → Bool) (hF : ∀ k, F k < 14) (hG : ∀ k, G k < 14) (hnd : nd ≤ 14) (har : ar ≤ 40) (mo : Nat) (hmo : ar + mo ≤ 41) (hM : ∀ e, e < ar + mo → F e < nd ∧ G e < nd) (N0 W0 : Nat → Int32) : Met l ⟨"CutPointsModel", "neededWith", "(I)I"⟩ (Cond.code ⟨"CutPointsModel", "neededWith", "(I)I"⟩ prog_9_method_24_code 6 (some .int) :: TT) (rmk 2 50) (PM dC dI cI cJ cZ [.ref o, .int (nI mo)] [(o, .inr (7, [.int th, .int (nI nd), .int (nI ar), .ref fF, .ref fG, .ref fT, .ref fN, .ref fW, .int be, .ref fO, .ref fB, .int bz, .ref fS, .ref fD, .int sz])), (fF, .inl (cI, 41, .inl (nF F))), (fG, .inl (cI, 41, .inl (nF G))), (fT, .inl (cZ, 41, .inl (bF P))), (fN, .inl (cI, 14, .inl N0)), (fW, .inl (cI, 14, .inl W0))]) (va_Qi (S := (Nat → Int32) × (Nat → Int32)) (fun r u9 => ∃ v, r = nI v ∧ ∃ W, twI ar mo nd P F G W (ar + mo) ∧ v = ndM ar mo nd P F G W) (fun u9 t9 => va_P (dC, dI) cls ([(o, .inr (7, [.int th, .int (nI nd), .int (nI ar), .ref fF, .ref fG, .ref fT, .ref fN, .ref fW, .int be, .ref fO, .ref fB, .int bz, .ref fS, .ref fD, .int sz])), (fF, .inl (cI, 41, .inl (nF F))), (fG, .inl (cI, 41, .inl (nF G))), (fT, .inl (cZ, 41, .inl (bF P))), (fN, .inl (cI, 14, .inl u9.1)), (fW, .inl (cI, 14, .inl u9.2))]) t9.heap) (ow [(o, .inr (7, [.int th, .int (nI nd), .int (nI ar), .ref fF, .ref fG, .ref fT, .ref fN, .ref fW, .int be, .ref fO, .ref fB, .int bz, .ref fS, .ref fD, .int sz])), (fF, .inl (cI, 41, .inl (nF F))), (fG, .inl (cI, 41, .inl (nF G))), (fT, .inl (cZ, 41, .inl (bF P))), (fN, .inl (cI, 14, .inl N0)), (fW, .inl (cI, 14, .inl W0))])) 0 0 (ow [(o, .inr (7, [.int th, .int (nI nd), .int (nI ar), .ref fF, .ref fG, .ref fT, .ref fN, .ref fW, .int be, .ref fO, .ref fB, .int bz, .ref fS, .ref fD, .int sz])), (fF, .inl (cI, 41, .inl (nF F))), (fG, .inl (cI, 41, .inl (nF G))), (fT, .inl (cZ, 41, .inl (bF P))), (fN, .inl (cI, 14, .inl N0)), (fW, .inl (cI, 14, .inl W0))]) := by
  refine Met.ofW (cc := prog_9_method_24_code) (maxL := 6) (ret := (some .int)) (by decide) rfl ?_
  intro p e s m args below meth c s₁ BB9 hml hv
  obtain ⟨rfl, hP, hK, hD0⟩ := hv
  have hx := BB9.exec
  have hb := BB9.bytes
  have hr := BB9.returns
  have hts : ∀ w ∈ TT, w.before _ s = true := fun w h => atoms_spec (ws := (Cond.code ⟨"CutPointsModel", "neededWith", "(I)I"⟩ prog_9_method_24_code 6 (some .int) :: TT)) BB9.pre w (List.mem_cons_of_mem _ h)
  have hown : s.vm.findClass "CutPointsModel" = some m.cls := findClass_of_methodNamed BB9.named
  have hlocks := BB9.notSynchronized
  have hD := hD0.mine
  have hS : va_S (ow [(o, .inr (7, [.int th, .int (nI nd), .int (nI ar), .ref fF, .ref fG, .ref fT, .ref fN, .ref fW, .int be, .ref fO, .ref fB, .int bz, .ref fS, .ref fD, .int sz])), (fF, .inl (cI, 41, .inl (nF F))), (fG, .inl (cI, 41, .inl (nF G))), (fT, .inl (cZ, 41, .inl (bF P))), (fN, .inl (cI, 14, .inl N0)), (fW, .inl (cI, 14, .inl W0))]) s.heap s.heap [] := va_S.rf
  have hl := lv_entry ([.ref o, .int (nI mo)]) (n := 6) (Nat.le_of_ble_eq_true rfl)
  rw [lg_entry_eq]
  generalize (lg_sl ([.ref o, .int (nI mo)]) ++ List.replicate (6 - (lg_sl ([.ref o, .int (nI mo)])).length) Slot.unset).toArray = ls at hl ⊢
  have hl : lv_has ls 6 [(0, .ref o), (1, .int (nI mo))] := hl
  refine lv_aload_n hx hb d_MO_neededWith_0 rfl (lv_at hl 0 rfl) ?_
  refine lv_iload_n hx hb d_MO_neededWith_1 rfl (lv_at hl 1 rfl) ?_
  refine x_cv (k_V (n := 1) (C := R_MO) (rest := []) ⟨hx, hb, hml, hown, hts⟩ (c_MO_lookTwins l dC dI cI cJ cZ o fF fG fT fN fW fO fB fS fD th be bz sz nd ar F G P hF hG (by first | assumption | omega) (by first | assumption | omega) mo (by first | assumption | omega) hM N0 W0) wml_MO_80 wim_MO_lookTwins wsel_MO_lookTwins wini_MO wcode_MO_lookTwins (by decide +kernel) ⟨Nat.le_of_ble_eq_true rfl, Nat.le_of_ble_eq_true rfl⟩ (preV_M (q := (R_MO, F_MO, 15)) (ci := 7) (q0 := 0) (hP.sub (ws' := [(o, .inr (7, [.int th, .int (nI nd), .int (nI ar), .ref fF, .ref fG, .ref fT, .ref fN, .ref fW, .int be, .ref fO, .ref fB, .int bz, .ref fS, .ref fD, .int sz])), (fF, .inl (cI, 41, .inl (nF F))), (fG, .inl (cI, 41, .inl (nF G))), (fT, .inl (cZ, 41, .inl (bF P))), (fN, .inl (cI, 14, .inl N0)), (fW, .inl (cI, 14, .inl W0))]) [0, 1, 2, 3, 4, 5] rfl) hK (hD.sub (ws' := [(o, .inr (7, [.int th, .int (nI nd), .int (nI ar), .ref fF, .ref fG, .ref fT, .ref fN, .ref fW, .int be, .ref fO, .ref fB, .int bz, .ref fS, .ref fD, .int sz])), (fF, .inl (cI, 41, .inl (nF F))), (fG, .inl (cI, 41, .inl (nF G))), (fT, .inl (cZ, 41, .inl (bF P))), (fN, .inl (cI, 14, .inl N0)), (fW, .inl (cI, 14, .inl W0))]) [0, 1, 2, 3, 4, 5] (by decide) rfl) rfl rfl) rfl hl.1 rfl (Nat.le_of_ble_eq_true rfl) d_MO_neededWith_2 ⟨Nat.zero_le _, Nat.zero_le _⟩) hP hD hS [0, 1, 2, 3, 4, 5] rfl (fun _ => rfl) (fun u_1 H locs hu_1 hP hS => ?_)
  obtain ⟨N9_1, W9_1⟩ := u_1
  have hP : va_P (dC, dI) cls [(o, .inr (7, [.int th, .int (nI nd), .int (nI ar), .ref fF, .ref fG, .ref fT, .ref fN, .ref fW, .int be, .ref fO, .ref fB, .int bz, .ref fS, .ref fD, .int sz])), (fF, .inl (cI, 41, .inl (nF F))), (fG, .inl (cI, 41, .inl (nF G))), (fT, .inl (cZ, 41, .inl (bF P))), (fN, .inl (cI, 14, .inl N9_1)), (fW, .inl (cI, 14, .inl W9_1))] H := hP
  have hD := hD.addr (ws' := [(o, .inr (7, [.int th, .int (nI nd), .int (nI ar), .ref fF, .ref fG, .ref fT, .ref fN, .ref fW, .int be, .ref fO, .ref fB, .int bz, .ref fS, .ref fD, .int sz])), (fF, .inl (cI, 41, .inl (nF F))), (fG, .inl (cI, 41, .inl (nF G))), (fT, .inl (cZ, 41, .inl (bF P))), (fN, .inl (cI, 14, .inl N9_1)), (fW, .inl (cI, 14, .inl W9_1))]) rfl
  have hTW := hu_1
  refine lv_iconst (v := (nI 0)) hx hb d_MO_neededWith_5 (by decide) ?_
  refine lv_istore_n (lv' := [(2, .int (nI 0)), (0, .ref o), (1, .int (nI mo))]) hx hb d_MO_neededWith_6 rfl hl (by decide) rfl (fun ls hl => ?_)
  refine lv_iconst (v := (nI 0)) hx hb d_MO_neededWith_7 (by decide) ?_
  refine lv_istore_n (lv' := [(3, .int (nI 0)), (2, .int (nI 0)), (0, .ref o), (1, .int (nI mo))]) hx hb d_MO_neededWith_8 rfl hl (by decide) rfl (fun ls hl => ?_)
  refine lv_iconst (v := (nI 0)) hx hb d_MO_neededWith_9 (by decide) ?_
  refine lv_istore (lv' := [(4, .int (nI 0)), (3, .int (nI 0)), (2, .int (nI 0)), (0, .ref o), (1, .int (nI mo))]) hx hb d_MO_neededWith_10 hl (by decide) rfl (fun ls hl => ?_)
  have L12_2 : ∀ (n : Nat) (lc : Nat) (q : Nat) (i : Nat) (hn : nd - i < n) (hi : i ≤ nd) (hq : q = cn (fun k => decide (lsn (bt (W9_1 k)) 16 = k)) i) (hs : lc = sm (lkW ar mo P F G W9_1) i) (ls : Array Slot) (hl : lv_has ls 6 [(0, .ref o), (1, .int (nI mo)), (2, .int (nI lc)), (3, .int (nI q)), (4, .int (nI i))]), W p l e (headSpec (Cond.code ⟨"CutPointsModel", "neededWith", "(I)I"⟩ prog_9_method_24_code 6 (some .int) :: TT) (rmk 2 50)).room s m ([.ref o, .int (nI mo)] : List Value).toArray below meth c H locs 0 0 (MQ below (va_Qi (S := (Nat → Int32) × (Nat → Int32)) (fun r u9 => ∃ v, r = nI v ∧ ∃ W, twI ar mo nd P F G W (ar + mo) ∧ v = ndM ar mo nd P F G W) (fun u9 t9 => va_P (dC, dI) cls ([(o, .inr (7, [.int th, .int (nI nd), .int (nI ar), .ref fF, .ref fG, .ref fT, .ref fN, .ref fW, .int be, .ref fO, .ref fB, .int bz, .ref fS, .ref fD, .int sz])), (fF, .inl (cI, 41, .inl (nF F))), (fG, .inl (cI, 41, .inl (nF G))), (fT, .inl (cZ, 41, .inl (bF P))), (fN, .inl (cI, 14, .inl u9.1)), (fW, .inl (cI, 14, .inl u9.2))]) t9.heap) (ow [(o, .inr (7, [.int th, .int (nI nd), .int (nI ar), .ref fF, .ref fG, .ref fT, .ref fN, .ref fW, .int be, .ref fO, .ref fB, .int bz, .ref fS, .ref fD, .int sz])), (fF, .inl (cI, 41, .inl (nF F))), (fG, .inl (cI, 41, .inl (nF G))), (fT, .inl (cZ, 41, .inl (bF P))), (fN, .inl (cI, 14, .inl N0)), (fW, .inl (cI, 14, .inl W0))])) ([.ref o, .int (nI mo)] : List Value).toArray s 0 0 (ow [(o, .inr (7, [.int th, .int (nI nd), .int (nI ar), .ref fF, .ref fG, .ref fT, .ref fN, .ref fW, .int be, .ref fO, .ref fB, .int bz, .ref fS, .ref fD, .int sz])), (fF, .inl (cI, 41, .inl (nF F))), (fG, .inl (cI, 41, .inl (nF G))), (fT, .inl (cZ, 41, .inl (bF P))), (fN, .inl (cI, 14, .inl N0)), (fW, .inl (cI, 14, .inl W0))])) (F0 m 12 ls []) := by
    intro n_12
    induction n_12 with
    | zero =>
      intro lc q i hn_12
      exact absurd hn_12 (Nat.not_lt_zero _)
    | succ n_12 ih_12 =>
      intro lc q i hn_12 hi hq hs ls hl
      have hq14 := cn_le (fun k => decide (lsn (bt (W9_1 k)) 16 = k)) i
      have hs14 := sm_le (lkW_le ar mo P F G W9_1) i
      refine lv_iload hx hb d_MO_neededWith_12 (lv_at hl 4 rfl) ?_
      refine lv_aload_n hx hb d_MO_neededWith_14 rfl (lv_at hl 0 rfl) ?_
      refine va_get (D := (dC, dI)) (ci := 7) (v := .int (nI nd)) (C := R_MO) (T := F_MO) (N := 15) hx hb hts in_MO hown hK.1 hP 0 rfl rfl 1 (by decide) (hts _ wfl_MO_42) (fun _ h9 => h9) rfl d_MO_neededWith_15 ?_
      refine x_cmp_ge (a := i) (b := nd) (tgt := 76) hx hb (by omega) (by omega) d_MO_neededWith_18 (by decide) (fun c_3 => ?_) (fun c_3 => ?_)
      · skip
        refine lv_iload_n hx hb d_MO_neededWith_76 rfl (lv_at hl 3 rfl) ?_
        refine lv_iconst (v := (nI 2)) hx hb d_MO_neededWith_77 (by decide) ?_
        refine x_cmp_ge (a := q) (b := 2) (tgt := 85) hx hb (by omega) (by omega) d_MO_neededWith_78 (by decide) (fun c_4 => ?_) (fun c_4 => ?_)
        · skip
          refine lv_iload_n hx hb d_MO_neededWith_85 rfl (lv_at hl 2 rfl) ?_
          refine lv_iconst (v := (nI 1)) hx hb d_MO_neededWith_86 (by decide) ?_
          refine lv_iadd hx hb d_MO_neededWith_87 ?_
          refine xe_i (nI_add _ _) ?_
          refine lv_iconst (v := (nI 2)) hx hb d_MO_neededWith_88 (by decide) ?_
          refine lv_idiv hx hb d_MO_neededWith_89 (by decide) ?_
          refine xe_i (pk_div (by omega) (by omega) (by omega)) ?_
          exact W.iret (v := (nI ((lc + 1) / 2))) hx hb hr (fun t9 ht9 _ => ⟨⟨_, (N9_1, W9_1), rfl, ⟨_, rfl, _, hTW, by have e9 : i = nd := (by omega); subst e9; unfold ndM; rw [← hq, ← hs, if_neg (by omega)]⟩, by show va_P (dC, dI) cls _ t9.heap; rw [ht9]; exact hP⟩, hS.F ht9⟩) hS.2.2 d_MO_neededWith_90
        · skip
          refine lv_iconst (v := (nI 0)) hx hb d_MO_neededWith_81 (by decide) ?_
          refine lv_goto (tgt := 90) hx hb d_MO_neededWith_82 (by decide) ?_
          exact W.iret (v := (nI 0)) hx hb hr (fun t9 ht9 _ => ⟨⟨_, (N9_1, W9_1), rfl, ⟨_, rfl, _, hTW, by have e9 : i = nd := (by omega); subst e9; unfold ndM; rw [← hq, ← hs, if_pos (by omega)]⟩, by show va_P (dC, dI) cls _ t9.heap; rw [ht9]; exact hP⟩, hS.F ht9⟩) hS.2.2 d_MO_neededWith_90
      · skip
        refine lv_aload_n hx hb d_MO_neededWith_21 rfl (lv_at hl 0 rfl) ?_
        refine va_get (D := (dC, dI)) (ci := 7) (v := .ref fW) (C := R_MO) (T := F_MO) (N := 15) hx hb hts in_MO hown hK.1 hP 0 rfl rfl 7 (by decide) (hts _ wfl_MO_23) (fun _ h9 => h9) rfl d_MO_neededWith_22 ?_
        refine lv_iload hx hb d_MO_neededWith_25 (lv_at hl 4 rfl) ?_
        refine x_iald (n := 14) (f := W9_1) (j := i) hx hb hK.1 hP 5 0 rfl rfl (by omega) (by omega) d_MO_neededWith_27 ?_
        refine vp_callSi (va_Run.run (k_S (n := 1) (rest := []) ⟨hx, hb, hml, hown, hts⟩ (c_MO_least l dC dI cI cJ cZ (W9_1 i)) wml_MO_56 wst_MO_least wini_MO wcode_MO_least (by decide +kernel) ⟨Nat.le_of_ble_eq_true rfl, Nat.le_of_ble_eq_true rfl⟩ (pre_R (hP.sub (ws' := []) [] rfl) hK) rfl hl.1 rfl (Nat.le_of_ble_eq_true rfl) d_MO_neededWith_28 ⟨Nat.zero_le _, Nat.zero_le _⟩)) (fun r_5 hr_6 => ?_)
        refine xe_i (y := (nI (lsn (bt (W9_1 i)) 16))) hr_6 ?_
        refine lv_iload hx hb d_MO_neededWith_31 (lv_at hl 4 rfl) ?_
        refine x_cmp_ne (a := (lsn (bt (W9_1 i)) 16)) (b := i) (tgt := 70) hx hb (Nat.lt_of_le_of_lt (lsn_spec _ _).1 (by decide)) (by omega) d_MO_neededWith_33 (by decide) (fun c_7 => ?_) (fun c_7 => ?_)
        · skip
          refine lv_iinc (v := (nI (i + 1))) (lv' := [(4, .int (nI (i + 1))), (0, .ref o), (1, .int (nI mo)), (2, .int (nI lc)), (3, .int (nI q))]) hx hb d_MO_neededWith_70 hl (k := 4) rfl (nI_1 _) (by decide) rfl (fun ls hl => ?_)
          refine lv_goto (tgt := 12) hx hb d_MO_neededWith_73 (by decide) ?_
          exact ih_12 lc q (i + 1) (by omega) (by first | assumption | omega) (cn_f hq (decide_eq_false c_7)) (sm_0 hs (by unfold lkW; rw [if_neg c_7])) ls (lv_sub hl [1, 2, 3, 4, 0] rfl)
        · skip
          refine lv_aload_n hx hb d_MO_neededWith_36 rfl (lv_at hl 0 rfl) ?_
          refine lv_aload_n hx hb d_MO_neededWith_37 rfl (lv_at hl 0 rfl) ?_
          refine va_get (D := (dC, dI)) (ci := 7) (v := .ref fW) (C := R_MO) (T := F_MO) (N := 15) hx hb hts in_MO hown hK.1 hP 0 rfl rfl 7 (by decide) (hts _ wfl_MO_23) (fun _ h9 => h9) rfl d_MO_neededWith_38 ?_
          refine lv_iload hx hb d_MO_neededWith_41 (lv_at hl 4 rfl) ?_
          refine x_iald (n := 14) (f := W9_1) (j := i) hx hb hK.1 hP 5 0 rfl rfl (by omega) (by omega) d_MO_neededWith_43 ?_
          refine lv_iload_n hx hb d_MO_neededWith_44 rfl (lv_at hl 1 rfl) ?_
          refine vp_callSi (va_Run.run (k_V (n := 2) (C := R_MO) (rest := []) ⟨hx, hb, hml, hown, hts⟩ (c_MO_out l dC dI cI cJ cZ o fF fG fT fN fW fO fB fS fD th be bz sz nd ar F G P hF hG (W9_1 i) mo (by first | assumption | omega)) wml_MO_84 wim_MO_out wsel_MO_out wini_MO wcode_MO_out (by decide +kernel) ⟨Nat.le_of_ble_eq_true rfl, Nat.le_of_ble_eq_true rfl⟩ (preV_R (q := (R_MO, F_MO, 15)) (ci := 7) (q0 := 0) (hP.sub (ws' := [(o, .inr (7, [.int th, .int (nI nd), .int (nI ar), .ref fF, .ref fG, .ref fT, .ref fN, .ref fW, .int be, .ref fO, .ref fB, .int bz, .ref fS, .ref fD, .int sz])), (fF, .inl (cI, 41, .inl (nF F))), (fG, .inl (cI, 41, .inl (nF G))), (fT, .inl (cZ, 41, .inl (bF P)))]) [0, 1, 2, 3] rfl) hK rfl rfl) rfl hl.1 rfl (Nat.le_of_ble_eq_true rfl) d_MO_neededWith_45 ⟨Nat.zero_le _, Nat.zero_le _⟩)) (fun r_8 hr_9 => ?_)
          refine xe_i (y := (nI (cn (ouB ar P F G (W9_1 i)) (ar + mo)))) hr_9 ?_
          refine lv_istore (lv' := [(5, .int (nI (cn (ouB ar P F G (W9_1 i)) (ar + mo)))), (0, .ref o), (1, .int (nI mo)), (2, .int (nI lc)), (3, .int (nI q)), (4, .int (nI i))]) hx hb d_MO_neededWith_48 hl (by decide) rfl (fun ls hl => ?_)
          refine lv_iload_n hx hb d_MO_neededWith_50 rfl (lv_at hl 3 rfl) ?_
          refine lv_iload hx hb d_MO_neededWith_51 (lv_at hl 0 rfl) ?_
          refine lv_iconst (v := (nI 2)) hx hb d_MO_neededWith_53 (by decide) ?_
          refine x_cmp_ge (a := (cn (ouB ar P F G (W9_1 i)) (ar + mo))) (b := 2) (tgt := 64) hx hb (Nat.lt_of_le_of_lt (cn_le _ _) (by omega)) (by omega) d_MO_neededWith_54 (by decide) (fun c_10 => ?_) (fun c_10 => ?_)
          · skip
            refine lv_iconst (v := (nI 0)) hx hb d_MO_neededWith_64 (by decide) ?_
            refine lv_iadd hx hb d_MO_neededWith_65 ?_
            refine xe_i (nI_add _ _) ?_
            refine lv_istore_n (lv' := [(2, .int (nI (lc + 0))), (5, .int (nI (cn (ouB ar P F G (W9_1 i)) (ar + mo)))), (0, .ref o), (1, .int (nI mo)), (3, .int (nI q)), (4, .int (nI i))]) hx hb d_MO_neededWith_66 rfl hl (by decide) rfl (fun ls hl => ?_)
            refine lv_iinc (v := (nI (q + 1))) (lv' := [(3, .int (nI (q + 1))), (2, .int (nI (lc + 0))), (5, .int (nI (cn (ouB ar P F G (W9_1 i)) (ar + mo)))), (0, .ref o), (1, .int (nI mo)), (4, .int (nI i))]) hx hb d_MO_neededWith_67 hl (k := 4) rfl (nI_1 _) (by decide) rfl (fun ls hl => ?_)
            refine lv_iinc (v := (nI (i + 1))) (lv' := [(4, .int (nI (i + 1))), (3, .int (nI (q + 1))), (2, .int (nI (lc + 0))), (5, .int (nI (cn (ouB ar P F G (W9_1 i)) (ar + mo)))), (0, .ref o), (1, .int (nI mo))]) hx hb d_MO_neededWith_70 hl (k := 5) rfl (nI_1 _) (by decide) rfl (fun ls hl => ?_)
            refine lv_goto (tgt := 12) hx hb d_MO_neededWith_73 (by decide) ?_
            exact ih_12 (lc + 0) (q + 1) (i + 1) (by omega) (by first | assumption | omega) (cn_t hq (decide_eq_true c_7)) (show lc + 0 = _ from sm_s hs (by unfold lkW; rw [if_pos c_7]; omega)) ls (lv_sub hl [4, 5, 2, 1, 0] rfl)
          · skip
            refine lv_iconst (v := (nI 2)) hx hb d_MO_neededWith_57 (by decide) ?_
            refine lv_iload hx hb d_MO_neededWith_58 (lv_at hl 0 rfl) ?_
            refine lv_isub hx hb d_MO_neededWith_60 ?_
            refine xe_i (pk_sub (Nat.le_of_lt (by assumption))) ?_
            refine lv_goto (tgt := 65) hx hb d_MO_neededWith_61 (by decide) ?_
            refine lv_iadd hx hb d_MO_neededWith_65 ?_
            refine xe_i (nI_add _ _) ?_
            refine lv_istore_n (lv' := [(2, .int (nI (lc + (2 - (cn (ouB ar P F G (W9_1 i)) (ar + mo)))))), (5, .int (nI (cn (ouB ar P F G (W9_1 i)) (ar + mo)))), (0, .ref o), (1, .int (nI mo)), (3, .int (nI q)), (4, .int (nI i))]) hx hb d_MO_neededWith_66 rfl hl (by decide) rfl (fun ls hl => ?_)
            refine lv_iinc (v := (nI (q + 1))) (lv' := [(3, .int (nI (q + 1))), (2, .int (nI (lc + (2 - (cn (ouB ar P F G (W9_1 i)) (ar + mo)))))), (5, .int (nI (cn (ouB ar P F G (W9_1 i)) (ar + mo)))), (0, .ref o), (1, .int (nI mo)), (4, .int (nI i))]) hx hb d_MO_neededWith_67 hl (k := 4) rfl (nI_1 _) (by decide) rfl (fun ls hl => ?_)
            refine lv_iinc (v := (nI (i + 1))) (lv' := [(4, .int (nI (i + 1))), (3, .int (nI (q + 1))), (2, .int (nI (lc + (2 - (cn (ouB ar P F G (W9_1 i)) (ar + mo)))))), (5, .int (nI (cn (ouB ar P F G (W9_1 i)) (ar + mo)))), (0, .ref o), (1, .int (nI mo))]) hx hb d_MO_neededWith_70 hl (k := 5) rfl (nI_1 _) (by decide) rfl (fun ls hl => ?_)
            refine lv_goto (tgt := 12) hx hb d_MO_neededWith_73 (by decide) ?_
            exact ih_12 (lc + (2 - (cn (ouB ar P F G (W9_1 i)) (ar + mo)))) (q + 1) (i + 1) (by omega) (by first | assumption | omega) (cn_t hq (decide_eq_true c_7)) (sm_s hs (by unfold lkW; rw [if_pos c_7])) ls (lv_sub hl [4, 5, 2, 1, 0] rfl)
  exact L12_2 ((nd - 0) + 1) 0 0 0 (Nat.lt_succ_self _) (by first | assumption | omega) rfl rfl ls (lv_sub hl [3, 4, 2, 1, 0] rfl)

theorem d_MO_twinParts_0 : decode prog_9_method_25_code 0 = .ok (.aload_n 0, 1) := by decide +kernel
theorem d_MO_twinParts_1 : decode prog_9_method_25_code 1 = .ok (.iconst 0, 1) := by decide +kernel
theorem d_MO_twinParts_2 : decode prog_9_method_25_code 2 = .ok (.invokevirtual 80, 3) := by decide +kernel
theorem d_MO_twinParts_5 : decode prog_9_method_25_code 5 = .ok (.iconst 0, 1) := by decide +kernel
theorem d_MO_twinParts_6 : decode prog_9_method_25_code 6 = .ok (.istore_n 1, 1) := by decide +kernel
theorem d_MO_twinParts_7 : decode prog_9_method_25_code 7 = .ok (.iconst 0, 1) := by decide +kernel
theorem d_MO_twinParts_8 : decode prog_9_method_25_code 8 = .ok (.istore_n 2, 1) := by decide +kernel
theorem d_MO_twinParts_9 : decode prog_9_method_25_code 9 = .ok (.iload_n 2, 1) := by decide +kernel
theorem d_MO_twinParts_10 : decode prog_9_method_25_code 10 = .ok (.aload_n 0, 1) := by decide +kernel
theorem d_MO_twinParts_11 : decode prog_9_method_25_code 11 = .ok (.getfield 42, 3) := by decide +kernel
theorem d_MO_twinParts_14 : decode prog_9_method_25_code 14 = .ok (.if_icmp .ge 30, 3) := by decide +kernel
theorem d_MO_twinParts_17 : decode prog_9_method_25_code 17 = .ok (.iload_n 1, 1) := by decide +kernel
theorem d_MO_twinParts_18 : decode prog_9_method_25_code 18 = .ok (.aload_n 0, 1) := by decide +kernel
theorem d_MO_twinParts_19 : decode prog_9_method_25_code 19 = .ok (.getfield 23, 3) := by decide +kernel
theorem d_MO_twinParts_22 : decode prog_9_method_25_code 22 = .ok (.iload_n 2, 1) := by decide +kernel
theorem d_MO_twinParts_23 : decode prog_9_method_25_code 23 = .ok (.iaload, 1) := by decide +kernel
theorem d_MO_twinParts_24 : decode prog_9_method_25_code 24 = .ok (.invokestatic 56, 3) := by decide +kernel
theorem d_MO_twinParts_27 : decode prog_9_method_25_code 27 = .ok (.iload_n 2, 1) := by decide +kernel
theorem d_MO_twinParts_28 : decode prog_9_method_25_code 28 = .ok (.if_icmp .ne 7, 3) := by decide +kernel
theorem d_MO_twinParts_31 : decode prog_9_method_25_code 31 = .ok (.iconst 1, 1) := by decide +kernel
theorem d_MO_twinParts_32 : decode prog_9_method_25_code 32 = .ok (.goto 4, 3) := by decide +kernel
theorem d_MO_twinParts_35 : decode prog_9_method_25_code 35 = .ok (.iconst 0, 1) := by decide +kernel
theorem d_MO_twinParts_36 : decode prog_9_method_25_code 36 = .ok (.iadd, 1) := by decide +kernel
theorem d_MO_twinParts_37 : decode prog_9_method_25_code 37 = .ok (.istore_n 1, 1) := by decide +kernel
theorem d_MO_twinParts_38 : decode prog_9_method_25_code 38 = .ok (.iinc 2 1, 3) := by decide +kernel
theorem d_MO_twinParts_41 : decode prog_9_method_25_code 41 = .ok (.goto (-32), 3) := by decide +kernel
theorem d_MO_twinParts_44 : decode prog_9_method_25_code 44 = .ok (.iload_n 1, 1) := by decide +kernel
theorem d_MO_twinParts_45 : decode prog_9_method_25_code 45 = .ok (.ireturn, 1) := by decide +kernel
set_option maxHeartbeats 4000000 in
set_option maxRecDepth 100000 in
theorem c_MO_twinParts (l : Launch) (dC : Nat → ClassId) (dI : Nat → Nat → Nat) (cI cJ cZ : ClassId) (o fF fG fT fN fW fO fB fS fD : Nat) (th be bz sz : Int32) (nd ar : Nat) (F G : Nat → Nat) (P : Nat → Bool) (hF : ∀ k, F k < 14) (hG : ∀ k, G k < 14) (hnd : nd ≤ 14) (har : ar ≤ 40) (hM : ∀ e, e < ar → F e < nd ∧ G e < nd) (N0 W0 : Nat → Int32) : Met l ⟨"CutPointsModel", "twinParts", "()I"⟩ (Cond.code ⟨"CutPointsModel", "twinParts", "()I"⟩ prog_9_method_25_code 3 (some .int) :: TT) (rmk 2 50) (PM dC dI cI cJ cZ [.ref o] [(o, .inr (7, [.int th, .int (nI nd), .int (nI ar), .ref fF, .ref fG, .ref fT, .ref fN, .ref fW, .int be, .ref fO, .ref fB, .int bz, .ref fS, .ref fD, .int sz])), (fF, .inl (cI, 41, .inl (nF F))), (fG, .inl (cI, 41, .inl (nF G))), (fT, .inl (cZ, 41, .inl (bF P))), (fN, .inl (cI, 14, .inl N0)), (fW, .inl (cI, 14, .inl W0))]) (va_Qi (S := (Nat → Int32) × (Nat → Int32)) (fun r u9 => ∃ v, r = nI v ∧ ∃ W, twI ar 0 nd P F G W (ar + 0) ∧ v = cn (fun k => decide (lsn (bt (W k)) 16 = k)) nd) (fun u9 t9 => va_P (dC, dI) cls ([(o, .inr (7, [.int th, .int (nI nd), .int (nI ar), .ref fF, .ref fG, .ref fT, .ref fN, .ref fW, .int be, .ref fO, .ref fB, .int bz, .ref fS, .ref fD, .int sz])), (fF, .inl (cI, 41, .inl (nF F))), (fG, .inl (cI, 41, .inl (nF G))), (fT, .inl (cZ, 41, .inl (bF P))), (fN, .inl (cI, 14, .inl u9.1)), (fW, .inl (cI, 14, .inl u9.2))]) t9.heap) (ow [(o, .inr (7, [.int th, .int (nI nd), .int (nI ar), .ref fF, .ref fG, .ref fT, .ref fN, .ref fW, .int be, .ref fO, .ref fB, .int bz, .ref fS, .ref fD, .int sz])), (fF, .inl (cI, 41, .inl (nF F))), (fG, .inl (cI, 41, .inl (nF G))), (fT, .inl (cZ, 41, .inl (bF P))), (fN, .inl (cI, 14, .inl N0)), (fW, .inl (cI, 14, .inl W0))])) 0 0 (ow [(o, .inr (7, [.int th, .int (nI nd), .int (nI ar), .ref fF, .ref fG, .ref fT, .ref fN, .ref fW, .int be, .ref fO, .ref fB, .int bz, .ref fS, .ref fD, .int sz])), (fF, .inl (cI, 41, .inl (nF F))), (fG, .inl (cI, 41, .inl (nF G))), (fT, .inl (cZ, 41, .inl (bF P))), (fN, .inl (cI, 14, .inl N0)), (fW, .inl (cI, 14, .inl W0))]) := by
  refine Met.ofW (cc := prog_9_method_25_code) (maxL := 3) (ret := (some .int)) (by decide) rfl ?_
  intro p e s m args below meth c s₁ BB9 hml hv
  obtain ⟨rfl, hP, hK, hD0⟩ := hv
  have hx := BB9.exec
  have hb := BB9.bytes
  have hr := BB9.returns
  have hts : ∀ w ∈ TT, w.before _ s = true := fun w h => atoms_spec (ws := (Cond.code ⟨"CutPointsModel", "twinParts", "()I"⟩ prog_9_method_25_code 3 (some .int) :: TT)) BB9.pre w (List.mem_cons_of_mem _ h)
  have hown : s.vm.findClass "CutPointsModel" = some m.cls := findClass_of_methodNamed BB9.named
  have hlocks := BB9.notSynchronized
  have hD := hD0.mine
  have hS : va_S (ow [(o, .inr (7, [.int th, .int (nI nd), .int (nI ar), .ref fF, .ref fG, .ref fT, .ref fN, .ref fW, .int be, .ref fO, .ref fB, .int bz, .ref fS, .ref fD, .int sz])), (fF, .inl (cI, 41, .inl (nF F))), (fG, .inl (cI, 41, .inl (nF G))), (fT, .inl (cZ, 41, .inl (bF P))), (fN, .inl (cI, 14, .inl N0)), (fW, .inl (cI, 14, .inl W0))]) s.heap s.heap [] := va_S.rf
  have hl := lv_entry ([.ref o]) (n := 3) (Nat.le_of_ble_eq_true rfl)
  rw [lg_entry_eq]
  generalize (lg_sl ([.ref o]) ++ List.replicate (3 - (lg_sl ([.ref o])).length) Slot.unset).toArray = ls at hl ⊢
  have hl : lv_has ls 3 [(0, .ref o)] := hl
  refine lv_aload_n hx hb d_MO_twinParts_0 rfl (lv_at hl 0 rfl) ?_
  refine lv_iconst (v := (nI 0)) hx hb d_MO_twinParts_1 (by decide) ?_
  refine x_cv (k_V (n := 1) (C := R_MO) (rest := []) ⟨hx, hb, hml, hown, hts⟩ (c_MO_lookTwins l dC dI cI cJ cZ o fF fG fT fN fW fO fB fS fD th be bz sz nd ar F G P hF hG (by first | assumption | omega) (by first | assumption | omega) 0 (by first | assumption | omega) hM N0 W0) wml_MO_80 wim_MO_lookTwins wsel_MO_lookTwins wini_MO wcode_MO_lookTwins (by decide +kernel) ⟨Nat.le_of_ble_eq_true rfl, Nat.le_of_ble_eq_true rfl⟩ (preV_M (q := (R_MO, F_MO, 15)) (ci := 7) (q0 := 0) (hP.sub (ws' := [(o, .inr (7, [.int th, .int (nI nd), .int (nI ar), .ref fF, .ref fG, .ref fT, .ref fN, .ref fW, .int be, .ref fO, .ref fB, .int bz, .ref fS, .ref fD, .int sz])), (fF, .inl (cI, 41, .inl (nF F))), (fG, .inl (cI, 41, .inl (nF G))), (fT, .inl (cZ, 41, .inl (bF P))), (fN, .inl (cI, 14, .inl N0)), (fW, .inl (cI, 14, .inl W0))]) [0, 1, 2, 3, 4, 5] rfl) hK (hD.sub (ws' := [(o, .inr (7, [.int th, .int (nI nd), .int (nI ar), .ref fF, .ref fG, .ref fT, .ref fN, .ref fW, .int be, .ref fO, .ref fB, .int bz, .ref fS, .ref fD, .int sz])), (fF, .inl (cI, 41, .inl (nF F))), (fG, .inl (cI, 41, .inl (nF G))), (fT, .inl (cZ, 41, .inl (bF P))), (fN, .inl (cI, 14, .inl N0)), (fW, .inl (cI, 14, .inl W0))]) [0, 1, 2, 3, 4, 5] (by decide) rfl) rfl rfl) rfl hl.1 rfl (Nat.le_of_ble_eq_true rfl) d_MO_twinParts_2 ⟨Nat.zero_le _, Nat.zero_le _⟩) hP hD hS [0, 1, 2, 3, 4, 5] rfl (fun _ => rfl) (fun u_1 H locs hu_1 hP hS => ?_)
  obtain ⟨N9_1, W9_1⟩ := u_1
  have hP : va_P (dC, dI) cls [(o, .inr (7, [.int th, .int (nI nd), .int (nI ar), .ref fF, .ref fG, .ref fT, .ref fN, .ref fW, .int be, .ref fO, .ref fB, .int bz, .ref fS, .ref fD, .int sz])), (fF, .inl (cI, 41, .inl (nF F))), (fG, .inl (cI, 41, .inl (nF G))), (fT, .inl (cZ, 41, .inl (bF P))), (fN, .inl (cI, 14, .inl N9_1)), (fW, .inl (cI, 14, .inl W9_1))] H := hP
  have hD := hD.addr (ws' := [(o, .inr (7, [.int th, .int (nI nd), .int (nI ar), .ref fF, .ref fG, .ref fT, .ref fN, .ref fW, .int be, .ref fO, .ref fB, .int bz, .ref fS, .ref fD, .int sz])), (fF, .inl (cI, 41, .inl (nF F))), (fG, .inl (cI, 41, .inl (nF G))), (fT, .inl (cZ, 41, .inl (bF P))), (fN, .inl (cI, 14, .inl N9_1)), (fW, .inl (cI, 14, .inl W9_1))]) rfl
  have hTW := hu_1
  refine lv_iconst (v := (nI 0)) hx hb d_MO_twinParts_5 (by decide) ?_
  refine lv_istore_n (lv' := [(1, .int (nI 0)), (0, .ref o)]) hx hb d_MO_twinParts_6 rfl hl (by decide) rfl (fun ls hl => ?_)
  refine lv_iconst (v := (nI 0)) hx hb d_MO_twinParts_7 (by decide) ?_
  refine lv_istore_n (lv' := [(2, .int (nI 0)), (1, .int (nI 0)), (0, .ref o)]) hx hb d_MO_twinParts_8 rfl hl (by decide) rfl (fun ls hl => ?_)
  have L9_2 : ∀ (n : Nat) (q : Nat) (i : Nat) (hn : nd - i < n) (hi : i ≤ nd) (hq : q = cn (fun k => decide (lsn (bt (W9_1 k)) 16 = k)) i) (ls : Array Slot) (hl : lv_has ls 3 [(0, .ref o), (1, .int (nI q)), (2, .int (nI i))]), W p l e (headSpec (Cond.code ⟨"CutPointsModel", "twinParts", "()I"⟩ prog_9_method_25_code 3 (some .int) :: TT) (rmk 2 50)).room s m ([.ref o] : List Value).toArray below meth c H locs 0 0 (MQ below (va_Qi (S := (Nat → Int32) × (Nat → Int32)) (fun r u9 => ∃ v, r = nI v ∧ ∃ W, twI ar 0 nd P F G W (ar + 0) ∧ v = cn (fun k => decide (lsn (bt (W k)) 16 = k)) nd) (fun u9 t9 => va_P (dC, dI) cls ([(o, .inr (7, [.int th, .int (nI nd), .int (nI ar), .ref fF, .ref fG, .ref fT, .ref fN, .ref fW, .int be, .ref fO, .ref fB, .int bz, .ref fS, .ref fD, .int sz])), (fF, .inl (cI, 41, .inl (nF F))), (fG, .inl (cI, 41, .inl (nF G))), (fT, .inl (cZ, 41, .inl (bF P))), (fN, .inl (cI, 14, .inl u9.1)), (fW, .inl (cI, 14, .inl u9.2))]) t9.heap) (ow [(o, .inr (7, [.int th, .int (nI nd), .int (nI ar), .ref fF, .ref fG, .ref fT, .ref fN, .ref fW, .int be, .ref fO, .ref fB, .int bz, .ref fS, .ref fD, .int sz])), (fF, .inl (cI, 41, .inl (nF F))), (fG, .inl (cI, 41, .inl (nF G))), (fT, .inl (cZ, 41, .inl (bF P))), (fN, .inl (cI, 14, .inl N0)), (fW, .inl (cI, 14, .inl W0))])) ([.ref o] : List Value).toArray s 0 0 (ow [(o, .inr (7, [.int th, .int (nI nd), .int (nI ar), .ref fF, .ref fG, .ref fT, .ref fN, .ref fW, .int be, .ref fO, .ref fB, .int bz, .ref fS, .ref fD, .int sz])), (fF, .inl (cI, 41, .inl (nF F))), (fG, .inl (cI, 41, .inl (nF G))), (fT, .inl (cZ, 41, .inl (bF P))), (fN, .inl (cI, 14, .inl N0)), (fW, .inl (cI, 14, .inl W0))])) (F0 m 9 ls []) := by
    intro n_9
    induction n_9 with
    | zero =>
      intro q i hn_9
      exact absurd hn_9 (Nat.not_lt_zero _)
    | succ n_9 ih_9 =>
      intro q i hn_9 hi hq ls hl
      refine lv_iload_n hx hb d_MO_twinParts_9 rfl (lv_at hl 2 rfl) ?_
      refine lv_aload_n hx hb d_MO_twinParts_10 rfl (lv_at hl 0 rfl) ?_
      refine va_get (D := (dC, dI)) (ci := 7) (v := .int (nI nd)) (C := R_MO) (T := F_MO) (N := 15) hx hb hts in_MO hown hK.1 hP 0 rfl rfl 1 (by decide) (hts _ wfl_MO_42) (fun _ h9 => h9) rfl d_MO_twinParts_11 ?_
      refine x_cmp_ge (a := i) (b := nd) (tgt := 44) hx hb (by omega) (by omega) d_MO_twinParts_14 (by decide) (fun c_3 => ?_) (fun c_3 => ?_)
      · skip
        refine lv_iload_n hx hb d_MO_twinParts_44 rfl (lv_at hl 1 rfl) ?_
        exact W.iret (v := (nI q)) hx hb hr (fun t9 ht9 _ => ⟨⟨_, (N9_1, W9_1), rfl, ⟨_, rfl, _, hTW, by have e9 : i = nd := (by omega); subst e9; exact hq⟩, by show va_P (dC, dI) cls _ t9.heap; rw [ht9]; exact hP⟩, hS.F ht9⟩) hS.2.2 d_MO_twinParts_45
      · skip
        refine lv_iload_n hx hb d_MO_twinParts_17 rfl (lv_at hl 1 rfl) ?_
        refine lv_aload_n hx hb d_MO_twinParts_18 rfl (lv_at hl 0 rfl) ?_
        refine va_get (D := (dC, dI)) (ci := 7) (v := .ref fW) (C := R_MO) (T := F_MO) (N := 15) hx hb hts in_MO hown hK.1 hP 0 rfl rfl 7 (by decide) (hts _ wfl_MO_23) (fun _ h9 => h9) rfl d_MO_twinParts_19 ?_
        refine lv_iload_n hx hb d_MO_twinParts_22 rfl (lv_at hl 2 rfl) ?_
        refine x_iald (n := 14) (f := W9_1) (j := i) hx hb hK.1 hP 5 0 rfl rfl (by omega) (by omega) d_MO_twinParts_23 ?_
        refine vp_callSi (va_Run.run (k_S (n := 1) (rest := [.int (nI q)]) ⟨hx, hb, hml, hown, hts⟩ (c_MO_least l dC dI cI cJ cZ (W9_1 i)) wml_MO_56 wst_MO_least wini_MO wcode_MO_least (by decide +kernel) ⟨Nat.le_of_ble_eq_true rfl, Nat.le_of_ble_eq_true rfl⟩ (pre_R (hP.sub (ws' := []) [] rfl) hK) rfl hl.1 rfl (Nat.le_of_ble_eq_true rfl) d_MO_twinParts_24 ⟨Nat.zero_le _, Nat.zero_le _⟩)) (fun r_4 hr_5 => ?_)
        refine xe_i (y := (nI (lsn (bt (W9_1 i)) 16))) hr_5 ?_
        refine lv_iload_n hx hb d_MO_twinParts_27 rfl (lv_at hl 2 rfl) ?_
        refine x_cmp_ne (a := (lsn (bt (W9_1 i)) 16)) (b := i) (tgt := 35) hx hb (Nat.lt_of_le_of_lt (lsn_spec _ _).1 (by decide)) (by omega) d_MO_twinParts_28 (by decide) (fun c_6 => ?_) (fun c_6 => ?_)
        · skip
          refine lv_iconst (v := (nI 0)) hx hb d_MO_twinParts_35 (by decide) ?_
          refine lv_iadd hx hb d_MO_twinParts_36 ?_
          refine xe_i (nI_add _ _) ?_
          refine lv_istore_n (lv' := [(1, .int (nI (q + 0))), (0, .ref o), (2, .int (nI i))]) hx hb d_MO_twinParts_37 rfl hl (by decide) rfl (fun ls hl => ?_)
          refine lv_iinc (v := (nI (i + 1))) (lv' := [(2, .int (nI (i + 1))), (1, .int (nI (q + 0))), (0, .ref o)]) hx hb d_MO_twinParts_38 hl (k := 2) rfl (nI_1 _) (by decide) rfl (fun ls hl => ?_)
          refine lv_goto (tgt := 9) hx hb d_MO_twinParts_41 (by decide) ?_
          exact ih_9 (q + 0) (i + 1) (by omega) (by first | assumption | omega) (show q + 0 = _ from cn_f hq (decide_eq_false c_6)) ls (lv_sub hl [2, 1, 0] rfl)
        · skip
          refine lv_iconst (v := (nI 1)) hx hb d_MO_twinParts_31 (by decide) ?_
          refine lv_goto (tgt := 36) hx hb d_MO_twinParts_32 (by decide) ?_
          refine lv_iadd hx hb d_MO_twinParts_36 ?_
          refine xe_i (nI_add _ _) ?_
          refine lv_istore_n (lv' := [(1, .int (nI (q + 1))), (0, .ref o), (2, .int (nI i))]) hx hb d_MO_twinParts_37 rfl hl (by decide) rfl (fun ls hl => ?_)
          refine lv_iinc (v := (nI (i + 1))) (lv' := [(2, .int (nI (i + 1))), (1, .int (nI (q + 1))), (0, .ref o)]) hx hb d_MO_twinParts_38 hl (k := 2) rfl (nI_1 _) (by decide) rfl (fun ls hl => ?_)
          refine lv_goto (tgt := 9) hx hb d_MO_twinParts_41 (by decide) ?_
          exact ih_9 (q + 1) (i + 1) (by omega) (by first | assumption | omega) (cn_t hq (decide_eq_true c_6)) ls (lv_sub hl [2, 1, 0] rfl)
  exact L9_2 ((nd - 0) + 1) 0 0 (Nat.lt_succ_self _) (by first | assumption | omega) rfl ls (lv_sub hl [2, 1, 0] rfl)

theorem d_MO_leastOut_0 : decode prog_9_method_33_code 0 = .ok (.bipush 100, 2) := by decide +kernel
theorem d_MO_leastOut_2 : decode prog_9_method_33_code 2 = .ok (.istore_n 3, 1) := by decide +kernel
theorem d_MO_leastOut_3 : decode prog_9_method_33_code 3 = .ok (.aload_n 0, 1) := by decide +kernel
theorem d_MO_leastOut_4 : decode prog_9_method_33_code 4 = .ok (.iconst 0, 1) := by decide +kernel
theorem d_MO_leastOut_5 : decode prog_9_method_33_code 5 = .ok (.putfield 116, 3) := by decide +kernel
theorem d_MO_leastOut_8 : decode prog_9_method_33_code 8 = .ok (.iconst 0, 1) := by decide +kernel
theorem d_MO_leastOut_9 : decode prog_9_method_33_code 9 = .ok (.istore 4, 2) := by decide +kernel
theorem d_MO_leastOut_11 : decode prog_9_method_33_code 11 = .ok (.iload 4, 2) := by decide +kernel
theorem d_MO_leastOut_13 : decode prog_9_method_33_code 13 = .ok (.iconst 1, 1) := by decide +kernel
theorem d_MO_leastOut_14 : decode prog_9_method_33_code 14 = .ok (.aload_n 0, 1) := by decide +kernel
theorem d_MO_leastOut_15 : decode prog_9_method_33_code 15 = .ok (.getfield 42, 3) := by decide +kernel
theorem d_MO_leastOut_18 : decode prog_9_method_33_code 18 = .ok (.ishl, 1) := by decide +kernel
theorem d_MO_leastOut_19 : decode prog_9_method_33_code 19 = .ok (.if_icmp .ge 73, 3) := by decide +kernel
theorem d_MO_leastOut_22 : decode prog_9_method_33_code 22 = .ok (.iload 4, 2) := by decide +kernel
theorem d_MO_leastOut_24 : decode prog_9_method_33_code 24 = .ok (.iload_n 1, 1) := by decide +kernel
theorem d_MO_leastOut_25 : decode prog_9_method_33_code 25 = .ok (.ishr, 1) := by decide +kernel
theorem d_MO_leastOut_26 : decode prog_9_method_33_code 26 = .ok (.iconst 1, 1) := by decide +kernel
theorem d_MO_leastOut_27 : decode prog_9_method_33_code 27 = .ok (.iand, 1) := by decide +kernel
theorem d_MO_leastOut_28 : decode prog_9_method_33_code 28 = .ok (.iconst 1, 1) := by decide +kernel
theorem d_MO_leastOut_29 : decode prog_9_method_33_code 29 = .ok (.if_icmp .ne 57, 3) := by decide +kernel
theorem d_MO_leastOut_32 : decode prog_9_method_33_code 32 = .ok (.iload 4, 2) := by decide +kernel
theorem d_MO_leastOut_34 : decode prog_9_method_33_code 34 = .ok (.iload_n 2, 1) := by decide +kernel
theorem d_MO_leastOut_35 : decode prog_9_method_33_code 35 = .ok (.ishr, 1) := by decide +kernel
theorem d_MO_leastOut_36 : decode prog_9_method_33_code 36 = .ok (.iconst 1, 1) := by decide +kernel
theorem d_MO_leastOut_37 : decode prog_9_method_33_code 37 = .ok (.iand, 1) := by decide +kernel
theorem d_MO_leastOut_38 : decode prog_9_method_33_code 38 = .ok (.ifCond .ne 48, 3) := by decide +kernel
theorem d_MO_leastOut_41 : decode prog_9_method_33_code 41 = .ok (.aload_n 0, 1) := by decide +kernel
theorem d_MO_leastOut_42 : decode prog_9_method_33_code 42 = .ok (.iload 4, 2) := by decide +kernel
theorem d_MO_leastOut_44 : decode prog_9_method_33_code 44 = .ok (.iconst 0, 1) := by decide +kernel
theorem d_MO_leastOut_45 : decode prog_9_method_33_code 45 = .ok (.invokevirtual 84, 3) := by decide +kernel
theorem d_MO_leastOut_48 : decode prog_9_method_33_code 48 = .ok (.istore 5, 2) := by decide +kernel
theorem d_MO_leastOut_50 : decode prog_9_method_33_code 50 = .ok (.iload 5, 2) := by decide +kernel
theorem d_MO_leastOut_52 : decode prog_9_method_33_code 52 = .ok (.iload_n 3, 1) := by decide +kernel
theorem d_MO_leastOut_53 : decode prog_9_method_33_code 53 = .ok (.if_icmp .lt 24, 3) := by decide +kernel
theorem d_MO_leastOut_56 : decode prog_9_method_33_code 56 = .ok (.iload 5, 2) := by decide +kernel
theorem d_MO_leastOut_58 : decode prog_9_method_33_code 58 = .ok (.iload_n 3, 1) := by decide +kernel
theorem d_MO_leastOut_59 : decode prog_9_method_33_code 59 = .ok (.if_icmp .ne 27, 3) := by decide +kernel
theorem d_MO_leastOut_62 : decode prog_9_method_33_code 62 = .ok (.iload 4, 2) := by decide +kernel
theorem d_MO_leastOut_64 : decode prog_9_method_33_code 64 = .ok (.invokestatic 92, 3) := by decide +kernel
theorem d_MO_leastOut_67 : decode prog_9_method_33_code 67 = .ok (.aload_n 0, 1) := by decide +kernel
theorem d_MO_leastOut_68 : decode prog_9_method_33_code 68 = .ok (.getfield 116, 3) := by decide +kernel
theorem d_MO_leastOut_71 : decode prog_9_method_33_code 71 = .ok (.invokestatic 92, 3) := by decide +kernel
theorem d_MO_leastOut_74 : decode prog_9_method_33_code 74 = .ok (.if_icmp .ge 12, 3) := by decide +kernel
theorem d_MO_leastOut_77 : decode prog_9_method_33_code 77 = .ok (.iload 5, 2) := by decide +kernel
theorem d_MO_leastOut_79 : decode prog_9_method_33_code 79 = .ok (.istore_n 3, 1) := by decide +kernel
theorem d_MO_leastOut_80 : decode prog_9_method_33_code 80 = .ok (.aload_n 0, 1) := by decide +kernel
theorem d_MO_leastOut_81 : decode prog_9_method_33_code 81 = .ok (.iload 4, 2) := by decide +kernel
theorem d_MO_leastOut_83 : decode prog_9_method_33_code 83 = .ok (.putfield 116, 3) := by decide +kernel
theorem d_MO_leastOut_86 : decode prog_9_method_33_code 86 = .ok (.iinc 4 1, 3) := by decide +kernel
theorem d_MO_leastOut_89 : decode prog_9_method_33_code 89 = .ok (.goto (-78), 3) := by decide +kernel
theorem d_MO_leastOut_92 : decode prog_9_method_33_code 92 = .ok (.iload_n 3, 1) := by decide +kernel
theorem d_MO_leastOut_93 : decode prog_9_method_33_code 93 = .ok (.ireturn, 1) := by decide +kernel
set_option maxHeartbeats 4000000 in
set_option maxRecDepth 100000 in
theorem c_MO_leastOut (l : Launch) (dC : Nat → ClassId) (dI : Nat → Nat → Nat) (cI cJ cZ : ClassId) (o fF fG fT fN fW fO fB fS fD : Nat) (th be bz sz : Int32) (nd ar : Nat) (F G : Nat → Nat) (P : Nat → Bool) (hF : ∀ k, F k < 14) (hG : ∀ k, G k < 14) (hnd : nd ≤ 14) (har : ar ≤ 40) (a b : Nat) (ha : a < 14) (hb_ : b < 14) : Met l ⟨"CutPointsModel", "leastOut", "(II)I"⟩ (Cond.code ⟨"CutPointsModel", "leastOut", "(II)I"⟩ prog_9_method_33_code 6 (some .int) :: TT) (rmk 1 25) (PM dC dI cI cJ cZ [.ref o, .int (nI a), .int (nI b)] [(o, .inr (7, [.int th, .int (nI nd), .int (nI ar), .ref fF, .ref fG, .ref fT, .ref fN, .ref fW, .int be, .ref fO, .ref fB, .int bz, .ref fS, .ref fD, .int sz])), (fF, .inl (cI, 41, .inl (nF F))), (fG, .inl (cI, 41, .inl (nF G))), (fT, .inl (cZ, 41, .inl (bF P)))]) (va_Qi (S := Nat) (fun r u9 => ∃ fw, r = nI fw ∧ loI ar P F G a b fw u9 (2 ^ nd)) (fun u9 t9 => va_P (dC, dI) cls ([(o, .inr (7, [.int th, .int (nI nd), .int (nI ar), .ref fF, .ref fG, .ref fT, .ref fN, .ref fW, .int (nI u9), .ref fO, .ref fB, .int bz, .ref fS, .ref fD, .int sz])), (fF, .inl (cI, 41, .inl (nF F))), (fG, .inl (cI, 41, .inl (nF G))), (fT, .inl (cZ, 41, .inl (bF P)))]) t9.heap) (ow [(o, .inr (7, [.int th, .int (nI nd), .int (nI ar), .ref fF, .ref fG, .ref fT, .ref fN, .ref fW, .int be, .ref fO, .ref fB, .int bz, .ref fS, .ref fD, .int sz])), (fF, .inl (cI, 41, .inl (nF F))), (fG, .inl (cI, 41, .inl (nF G))), (fT, .inl (cZ, 41, .inl (bF P)))])) 0 0 (ow [(o, .inr (7, [.int th, .int (nI nd), .int (nI ar), .ref fF, .ref fG, .ref fT, .ref fN, .ref fW, .int be, .ref fO, .ref fB, .int bz, .ref fS, .ref fD, .int sz])), (fF, .inl (cI, 41, .inl (nF F))), (fG, .inl (cI, 41, .inl (nF G))), (fT, .inl (cZ, 41, .inl (bF P)))]) := by
  refine Met.ofW (cc := prog_9_method_33_code) (maxL := 6) (ret := (some .int)) (by decide) rfl ?_
  intro p e s m args below meth c s₁ BB9 hml hv
  obtain ⟨rfl, hP, hK, hD0⟩ := hv
  have hx := BB9.exec
  have hb := BB9.bytes
  have hr := BB9.returns
  have hts : ∀ w ∈ TT, w.before _ s = true := fun w h => atoms_spec (ws := (Cond.code ⟨"CutPointsModel", "leastOut", "(II)I"⟩ prog_9_method_33_code 6 (some .int) :: TT)) BB9.pre w (List.mem_cons_of_mem _ h)
  have hown : s.vm.findClass "CutPointsModel" = some m.cls := findClass_of_methodNamed BB9.named
  have hlocks := BB9.notSynchronized
  have hD := hD0.mine
  have hS : va_S (ow [(o, .inr (7, [.int th, .int (nI nd), .int (nI ar), .ref fF, .ref fG, .ref fT, .ref fN, .ref fW, .int be, .ref fO, .ref fB, .int bz, .ref fS, .ref fD, .int sz])), (fF, .inl (cI, 41, .inl (nF F))), (fG, .inl (cI, 41, .inl (nF G))), (fT, .inl (cZ, 41, .inl (bF P)))]) s.heap s.heap [] := va_S.rf
  have hpw := pow_le nd (by omega)
  have hl := lv_entry ([.ref o, .int (nI a), .int (nI b)]) (n := 6) (Nat.le_of_ble_eq_true rfl)
  rw [lg_entry_eq]
  generalize (lg_sl ([.ref o, .int (nI a), .int (nI b)]) ++ List.replicate (6 - (lg_sl ([.ref o, .int (nI a), .int (nI b)])).length) Slot.unset).toArray = ls at hl ⊢
  have hl : lv_has ls 6 [(0, .ref o), (1, .int (nI a)), (2, .int (nI b))] := hl
  refine lv_bipush (v := (nI 100)) hx hb d_MO_leastOut_0 (by decide) ?_
  refine lv_istore_n (lv' := [(3, .int (nI 100)), (0, .ref o), (1, .int (nI a)), (2, .int (nI b))]) hx hb d_MO_leastOut_2 rfl hl (by decide) rfl (fun ls hl => ?_)
  refine lv_aload_n hx hb d_MO_leastOut_3 rfl (lv_at hl 1 rfl) ?_
  refine lv_iconst (v := (nI 0)) hx hb d_MO_leastOut_4 (by decide) ?_
  refine va_put (D := (dC, dI)) (ci := 7) (v := .int (nI 0)) (ty := .int) (C := R_MO) (T := F_MO) (N := 15) hx hb hts in_MO t_MO t_MO_ok n_MO hown hK.1 hP hD hS 0 rfl rfl 8 (by decide) (hts _ wfl_MO_116) (fun _ h9 => h9) rfl (by decide +kernel) rfl rfl (Nat.le_of_ble_eq_true rfl) d_MO_leastOut_5 (fun H locs hP hD hS => ?_)
  have hP : va_P (dC, dI) cls [(o, .inr (7, [.int th, .int (nI nd), .int (nI ar), .ref fF, .ref fG, .ref fT, .ref fN, .ref fW, .int (nI 0), .ref fO, .ref fB, .int bz, .ref fS, .ref fD, .int sz])), (fF, .inl (cI, 41, .inl (nF F))), (fG, .inl (cI, 41, .inl (nF G))), (fT, .inl (cZ, 41, .inl (bF P)))] H := hP
  have hD : va_D (ow [(o, .inr (7, [.int th, .int (nI nd), .int (nI ar), .ref fF, .ref fG, .ref fT, .ref fN, .ref fW, .int be, .ref fO, .ref fB, .int bz, .ref fS, .ref fD, .int sz])), (fF, .inl (cI, 41, .inl (nF F))), (fG, .inl (cI, 41, .inl (nF G))), (fT, .inl (cZ, 41, .inl (bF P)))]) [(o, .inr (7, [.int th, .int (nI nd), .int (nI ar), .ref fF, .ref fG, .ref fT, .ref fN, .ref fW, .int (nI 0), .ref fO, .ref fB, .int bz, .ref fS, .ref fD, .int sz])), (fF, .inl (cI, 41, .inl (nF F))), (fG, .inl (cI, 41, .inl (nF G))), (fT, .inl (cZ, 41, .inl (bF P)))] := hD
  refine lv_iconst (v := (nI 0)) hx hb d_MO_leastOut_8 (by decide) ?_
  refine lv_istore (lv' := [(4, .int (nI 0)), (3, .int (nI 100)), (0, .ref o), (1, .int (nI a)), (2, .int (nI b))]) hx hb d_MO_leastOut_9 hl (by decide) rfl (fun ls hl => ?_)
  have L11_1 : ∀ (n : Nat) (fw : Nat) (bs : Nat) (s0 : Nat) (hn : 2 ^ nd - s0 < n) (hs0 : s0 ≤ 2 ^ nd) (hfw : fw ≤ 100) (hlo : loI ar P F G a b fw bs s0) (H : Heap) (locs : List Loc) (hP : va_P (dC, dI) cls [(o, .inr (7, [.int th, .int (nI nd), .int (nI ar), .ref fF, .ref fG, .ref fT, .ref fN, .ref fW, .int (nI bs), .ref fO, .ref fB, .int bz, .ref fS, .ref fD, .int sz])), (fF, .inl (cI, 41, .inl (nF F))), (fG, .inl (cI, 41, .inl (nF G))), (fT, .inl (cZ, 41, .inl (bF P)))] H) (hD : va_D (ow [(o, .inr (7, [.int th, .int (nI nd), .int (nI ar), .ref fF, .ref fG, .ref fT, .ref fN, .ref fW, .int be, .ref fO, .ref fB, .int bz, .ref fS, .ref fD, .int sz])), (fF, .inl (cI, 41, .inl (nF F))), (fG, .inl (cI, 41, .inl (nF G))), (fT, .inl (cZ, 41, .inl (bF P)))]) [(o, .inr (7, [.int th, .int (nI nd), .int (nI ar), .ref fF, .ref fG, .ref fT, .ref fN, .ref fW, .int (nI bs), .ref fO, .ref fB, .int bz, .ref fS, .ref fD, .int sz])), (fF, .inl (cI, 41, .inl (nF F))), (fG, .inl (cI, 41, .inl (nF G))), (fT, .inl (cZ, 41, .inl (bF P)))]) (hS : va_S (ow [(o, .inr (7, [.int th, .int (nI nd), .int (nI ar), .ref fF, .ref fG, .ref fT, .ref fN, .ref fW, .int be, .ref fO, .ref fB, .int bz, .ref fS, .ref fD, .int sz])), (fF, .inl (cI, 41, .inl (nF F))), (fG, .inl (cI, 41, .inl (nF G))), (fT, .inl (cZ, 41, .inl (bF P)))]) s.heap H locs) (ls : Array Slot) (hl : lv_has ls 6 [(0, .ref o), (1, .int (nI a)), (2, .int (nI b)), (3, .int (nI fw)), (4, .int (nI s0))]), W p l e (headSpec (Cond.code ⟨"CutPointsModel", "leastOut", "(II)I"⟩ prog_9_method_33_code 6 (some .int) :: TT) (rmk 1 25)).room s m ([.ref o, .int (nI a), .int (nI b)] : List Value).toArray below meth c H locs 0 0 (MQ below (va_Qi (S := Nat) (fun r u9 => ∃ fw, r = nI fw ∧ loI ar P F G a b fw u9 (2 ^ nd)) (fun u9 t9 => va_P (dC, dI) cls ([(o, .inr (7, [.int th, .int (nI nd), .int (nI ar), .ref fF, .ref fG, .ref fT, .ref fN, .ref fW, .int (nI u9), .ref fO, .ref fB, .int bz, .ref fS, .ref fD, .int sz])), (fF, .inl (cI, 41, .inl (nF F))), (fG, .inl (cI, 41, .inl (nF G))), (fT, .inl (cZ, 41, .inl (bF P)))]) t9.heap) (ow [(o, .inr (7, [.int th, .int (nI nd), .int (nI ar), .ref fF, .ref fG, .ref fT, .ref fN, .ref fW, .int be, .ref fO, .ref fB, .int bz, .ref fS, .ref fD, .int sz])), (fF, .inl (cI, 41, .inl (nF F))), (fG, .inl (cI, 41, .inl (nF G))), (fT, .inl (cZ, 41, .inl (bF P)))])) ([.ref o, .int (nI a), .int (nI b)] : List Value).toArray s 0 0 (ow [(o, .inr (7, [.int th, .int (nI nd), .int (nI ar), .ref fF, .ref fG, .ref fT, .ref fN, .ref fW, .int be, .ref fO, .ref fB, .int bz, .ref fS, .ref fD, .int sz])), (fF, .inl (cI, 41, .inl (nF F))), (fG, .inl (cI, 41, .inl (nF G))), (fT, .inl (cZ, 41, .inl (bF P)))])) (F0 m 11 ls []) := by
    intro n_11
    induction n_11 with
    | zero =>
      intro fw bs s0 hn_11
      exact absurd hn_11 (Nat.not_lt_zero _)
    | succ n_11 ih_11 =>
      intro fw bs s0 hn_11 hs0 hfw hlo H locs hP hD hS ls hl
      refine lv_iload hx hb d_MO_leastOut_11 (lv_at hl 4 rfl) ?_
      refine lv_iconst (v := (nI 1)) hx hb d_MO_leastOut_13 (by decide) ?_
      refine lv_aload_n hx hb d_MO_leastOut_14 rfl (lv_at hl 0 rfl) ?_
      refine va_get (D := (dC, dI)) (ci := 7) (v := .int (nI nd)) (C := R_MO) (T := F_MO) (N := 15) hx hb hts in_MO hown hK.1 hP 0 rfl rfl 1 (by decide) (hts _ wfl_MO_42) (fun _ h9 => h9) rfl d_MO_leastOut_15 ?_
      refine lv_ishl hx hb d_MO_leastOut_18 ?_
      refine xe_i (y := (sb nd)) rfl ?_
      refine xe_i (y := (nI (2 ^ nd))) (sb_pow nd (by omega)) ?_
      refine x_cmp_ge (a := s0) (b := (2 ^ nd)) (tgt := 92) hx hb (by omega) (by omega) d_MO_leastOut_19 (by decide) (fun c_2 => ?_) (fun c_2 => ?_)
      · skip
        refine lv_iload_n hx hb d_MO_leastOut_92 rfl (lv_at hl 3 rfl) ?_
        exact W.iret (v := (nI fw)) hx hb hr (fun t9 ht9 _ => ⟨⟨_, (bs), rfl, ⟨_, rfl, by have e9 : s0 = 2 ^ nd := (by omega); subst e9; exact hlo⟩, by show va_P (dC, dI) cls _ t9.heap; rw [ht9]; exact hP⟩, hS.F ht9⟩) hS.2.2 d_MO_leastOut_93
      · skip
        refine lv_iload hx hb d_MO_leastOut_22 (lv_at hl 4 rfl) ?_
        refine lv_iload_n hx hb d_MO_leastOut_24 rfl (lv_at hl 1 rfl) ?_
        refine lv_ishr hx hb d_MO_leastOut_25 ?_
        refine lv_iconst (v := (nI 1)) hx hb d_MO_leastOut_26 (by decide) ?_
        refine lv_iand hx hb d_MO_leastOut_27 ?_
        refine xe_i (y := (bI (bt (nI s0) a))) (sh1 (by omega)) ?_
        refine lv_iconst (v := (nI 1)) hx hb d_MO_leastOut_28 (by decide) ?_
        refine x_cmp1_ne (tgt := 86) hx hb d_MO_leastOut_29 (by decide) (fun c_3 => ?_) (fun c_3 => ?_)
        · skip
          refine lv_iinc (v := (nI (s0 + 1))) (lv' := [(4, .int (nI (s0 + 1))), (0, .ref o), (1, .int (nI a)), (2, .int (nI b)), (3, .int (nI fw))]) hx hb d_MO_leastOut_86 hl (k := 4) rfl (nI_1 _) (by decide) rfl (fun ls hl => ?_)
          refine lv_goto (tgt := 11) hx hb d_MO_leastOut_89 (by decide) ?_
          exact ih_11 fw bs (s0 + 1) (by omega) (by first | assumption | omega) hfw (loI_f hlo (fun q9 => by have z9 := q9.1; rw [c_3] at z9; cases z9)) _ _ hP hD hS ls (lv_sub hl [1, 2, 3, 4, 0] rfl)
        · skip
          refine lv_iload hx hb d_MO_leastOut_32 (lv_at hl 4 rfl) ?_
          refine lv_iload_n hx hb d_MO_leastOut_34 rfl (lv_at hl 2 rfl) ?_
          refine lv_ishr hx hb d_MO_leastOut_35 ?_
          refine lv_iconst (v := (nI 1)) hx hb d_MO_leastOut_36 (by decide) ?_
          refine lv_iand hx hb d_MO_leastOut_37 ?_
          refine xe_i (y := (bI (bt (nI s0) b))) (sh1 (by omega)) ?_
          refine x_if_ne (tgt := 86) hx hb d_MO_leastOut_38 (by decide) (fun c_4 => ?_) (fun c_4 => ?_)
          · skip
            refine lv_iinc (v := (nI (s0 + 1))) (lv' := [(4, .int (nI (s0 + 1))), (0, .ref o), (1, .int (nI a)), (2, .int (nI b)), (3, .int (nI fw))]) hx hb d_MO_leastOut_86 hl (k := 4) rfl (nI_1 _) (by decide) rfl (fun ls hl => ?_)
            refine lv_goto (tgt := 11) hx hb d_MO_leastOut_89 (by decide) ?_
            exact ih_11 fw bs (s0 + 1) (by omega) (by first | assumption | omega) hfw (loI_f hlo (fun q9 => by have z9 := q9.2; rw [c_4] at z9; cases z9)) _ _ hP hD hS ls (lv_sub hl [1, 2, 3, 4, 0] rfl)
          · skip
            refine lv_aload_n hx hb d_MO_leastOut_41 rfl (lv_at hl 0 rfl) ?_
            refine lv_iload hx hb d_MO_leastOut_42 (lv_at hl 4 rfl) ?_
            refine lv_iconst (v := (nI 0)) hx hb d_MO_leastOut_44 (by decide) ?_
            refine vp_callSi (va_Run.run (k_V (n := 2) (C := R_MO) (rest := []) ⟨hx, hb, hml, hown, hts⟩ (c_MO_out l dC dI cI cJ cZ o fF fG fT fN fW fO fB fS fD th (nI bs) bz sz nd ar F G P hF hG (nI s0) 0 (by first | assumption | omega)) wml_MO_84 wim_MO_out wsel_MO_out wini_MO wcode_MO_out (by decide +kernel) ⟨Nat.le_of_ble_eq_true rfl, Nat.le_of_ble_eq_true rfl⟩ (preV_R (q := (R_MO, F_MO, 15)) (ci := 7) (q0 := 0) (hP.sub (ws' := [(o, .inr (7, [.int th, .int (nI nd), .int (nI ar), .ref fF, .ref fG, .ref fT, .ref fN, .ref fW, .int (nI bs), .ref fO, .ref fB, .int bz, .ref fS, .ref fD, .int sz])), (fF, .inl (cI, 41, .inl (nF F))), (fG, .inl (cI, 41, .inl (nF G))), (fT, .inl (cZ, 41, .inl (bF P)))]) [0, 1, 2, 3] rfl) hK rfl rfl) rfl hl.1 rfl (Nat.le_of_ble_eq_true rfl) d_MO_leastOut_45 ⟨Nat.zero_le _, Nat.zero_le _⟩)) (fun r_5 hr_6 => ?_)
            refine xe_i (y := (nI (cn (ouB ar P F G (nI s0)) (ar + 0)))) hr_6 ?_
            refine lv_istore (lv' := [(5, .int (nI (cn (ouB ar P F G (nI s0)) (ar + 0)))), (0, .ref o), (1, .int (nI a)), (2, .int (nI b)), (3, .int (nI fw)), (4, .int (nI s0))]) hx hb d_MO_leastOut_48 hl (by decide) rfl (fun ls hl => ?_)
            refine lv_iload hx hb d_MO_leastOut_50 (lv_at hl 0 rfl) ?_
            refine lv_iload_n hx hb d_MO_leastOut_52 rfl (lv_at hl 4 rfl) ?_
            refine x_cmp_lt (a := (cn (ouB ar P F G (nI s0)) (ar + 0))) (b := fw) (tgt := 77) hx hb (Nat.lt_of_le_of_lt (cn_le _ _) (by omega)) (by omega) d_MO_leastOut_53 (by decide) (fun c_7 => ?_) (fun c_7 => ?_)
            · skip
              refine lv_iload hx hb d_MO_leastOut_77 (lv_at hl 0 rfl) ?_
              refine lv_istore_n (lv' := [(3, .int (nI (cn (ouB ar P F G (nI s0)) (ar + 0)))), (5, .int (nI (cn (ouB ar P F G (nI s0)) (ar + 0)))), (0, .ref o), (1, .int (nI a)), (2, .int (nI b)), (4, .int (nI s0))]) hx hb d_MO_leastOut_79 rfl hl (by decide) rfl (fun ls hl => ?_)
              refine lv_aload_n hx hb d_MO_leastOut_80 rfl (lv_at hl 2 rfl) ?_
              refine lv_iload hx hb d_MO_leastOut_81 (lv_at hl 5 rfl) ?_
              refine va_put (D := (dC, dI)) (ci := 7) (v := .int (nI s0)) (ty := .int) (C := R_MO) (T := F_MO) (N := 15) hx hb hts in_MO t_MO t_MO_ok n_MO hown hK.1 hP hD hS 0 rfl rfl 8 (by decide) (hts _ wfl_MO_116) (fun _ h9 => h9) rfl (by decide +kernel) rfl rfl (Nat.le_of_ble_eq_true rfl) d_MO_leastOut_83 (fun H locs hP hD hS => ?_)
              have hP : va_P (dC, dI) cls [(o, .inr (7, [.int th, .int (nI nd), .int (nI ar), .ref fF, .ref fG, .ref fT, .ref fN, .ref fW, .int (nI s0), .ref fO, .ref fB, .int bz, .ref fS, .ref fD, .int sz])), (fF, .inl (cI, 41, .inl (nF F))), (fG, .inl (cI, 41, .inl (nF G))), (fT, .inl (cZ, 41, .inl (bF P)))] H := hP
              have hD : va_D (ow [(o, .inr (7, [.int th, .int (nI nd), .int (nI ar), .ref fF, .ref fG, .ref fT, .ref fN, .ref fW, .int be, .ref fO, .ref fB, .int bz, .ref fS, .ref fD, .int sz])), (fF, .inl (cI, 41, .inl (nF F))), (fG, .inl (cI, 41, .inl (nF G))), (fT, .inl (cZ, 41, .inl (bF P)))]) [(o, .inr (7, [.int th, .int (nI nd), .int (nI ar), .ref fF, .ref fG, .ref fT, .ref fN, .ref fW, .int (nI s0), .ref fO, .ref fB, .int bz, .ref fS, .ref fD, .int sz])), (fF, .inl (cI, 41, .inl (nF F))), (fG, .inl (cI, 41, .inl (nF G))), (fT, .inl (cZ, 41, .inl (bF P)))] := hD
              refine lv_iinc (v := (nI (s0 + 1))) (lv' := [(4, .int (nI (s0 + 1))), (3, .int (nI (cn (ouB ar P F G (nI s0)) (ar + 0)))), (5, .int (nI (cn (ouB ar P F G (nI s0)) (ar + 0)))), (0, .ref o), (1, .int (nI a)), (2, .int (nI b))]) hx hb d_MO_leastOut_86 hl (k := 5) rfl (nI_1 _) (by decide) rfl (fun ls hl => ?_)
              refine lv_goto (tgt := 11) hx hb d_MO_leastOut_89 (by decide) ?_
              exact ih_11 (cn (ouB ar P F G (nI s0)) (ar + 0)) s0 (s0 + 1) (by omega) (by first | assumption | omega) (Nat.le_trans (cn_le _ _) (by omega)) (loI_t hlo ⟨c_3, c_4⟩ (Or.inl c_7)) _ _ hP hD hS ls (lv_sub hl [3, 4, 5, 1, 0] rfl)
            · skip
              refine lv_iload hx hb d_MO_leastOut_56 (lv_at hl 0 rfl) ?_
              refine lv_iload_n hx hb d_MO_leastOut_58 rfl (lv_at hl 4 rfl) ?_
              refine x_cmp_ne (a := (cn (ouB ar P F G (nI s0)) (ar + 0))) (b := fw) (tgt := 86) hx hb (Nat.lt_of_le_of_lt (cn_le _ _) (by omega)) (by omega) d_MO_leastOut_59 (by decide) (fun c_8 => ?_) (fun c_8 => ?_)
              · skip
                refine lv_iinc (v := (nI (s0 + 1))) (lv' := [(4, .int (nI (s0 + 1))), (5, .int (nI (cn (ouB ar P F G (nI s0)) (ar + 0)))), (0, .ref o), (1, .int (nI a)), (2, .int (nI b)), (3, .int (nI fw))]) hx hb d_MO_leastOut_86 hl (k := 5) rfl (nI_1 _) (by decide) rfl (fun ls hl => ?_)
                refine lv_goto (tgt := 11) hx hb d_MO_leastOut_89 (by decide) ?_
                exact ih_11 fw bs (s0 + 1) (by omega) (by first | assumption | omega) hfw (loI_k har hlo (Nat.not_lt.mpr c_7) (Or.inl c_8)) _ _ hP hD hS ls (lv_sub hl [2, 3, 4, 5, 0] rfl)
              · skip
                refine lv_iload hx hb d_MO_leastOut_62 (lv_at hl 5 rfl) ?_
                refine vp_callSi (va_Run.run (k_S (n := 1) (rest := []) ⟨hx, hb, hml, hown, hts⟩ (c_MO_many l dC dI cI cJ cZ (nI s0)) wml_MO_92 wst_MO_many wini_MO wcode_MO_many (by decide +kernel) ⟨Nat.le_of_ble_eq_true rfl, Nat.le_of_ble_eq_true rfl⟩ (pre_R (hP.sub (ws' := []) [] rfl) hK) rfl hl.1 rfl (Nat.le_of_ble_eq_true rfl) d_MO_leastOut_64 ⟨Nat.zero_le _, Nat.zero_le _⟩)) (fun r_9 hr_10 => ?_)
                refine xe_i (y := (nI (cn (bt (nI s0)) 16))) hr_10 ?_
                refine lv_aload_n hx hb d_MO_leastOut_67 rfl (lv_at hl 1 rfl) ?_
                refine va_get (D := (dC, dI)) (ci := 7) (v := .int (nI bs)) (C := R_MO) (T := F_MO) (N := 15) hx hb hts in_MO hown hK.1 hP 0 rfl rfl 8 (by decide) (hts _ wfl_MO_116) (fun _ h9 => h9) rfl d_MO_leastOut_68 ?_
                refine vp_callSi (va_Run.run (k_S (n := 1) (rest := [.int (nI (cn (bt (nI s0)) 16))]) ⟨hx, hb, hml, hown, hts⟩ (c_MO_many l dC dI cI cJ cZ (nI bs)) wml_MO_92 wst_MO_many wini_MO wcode_MO_many (by decide +kernel) ⟨Nat.le_of_ble_eq_true rfl, Nat.le_of_ble_eq_true rfl⟩ (pre_R (hP.sub (ws' := []) [] rfl) hK) rfl hl.1 rfl (Nat.le_of_ble_eq_true rfl) d_MO_leastOut_71 ⟨Nat.zero_le _, Nat.zero_le _⟩)) (fun r_11 hr_12 => ?_)
                refine xe_i (y := (nI (cn (bt (nI bs)) 16))) hr_12 ?_
                refine x_cmp_ge (a := (cn (bt (nI s0)) 16)) (b := (cn (bt (nI bs)) 16)) (tgt := 86) hx hb (Nat.lt_of_le_of_lt (cn_le _ _) (by decide)) (Nat.lt_of_le_of_lt (cn_le _ _) (by decide)) d_MO_leastOut_74 (by decide) (fun c_13 => ?_) (fun c_13 => ?_)
                · skip
                  refine lv_iinc (v := (nI (s0 + 1))) (lv' := [(4, .int (nI (s0 + 1))), (5, .int (nI (cn (ouB ar P F G (nI s0)) (ar + 0)))), (0, .ref o), (1, .int (nI a)), (2, .int (nI b)), (3, .int (nI fw))]) hx hb d_MO_leastOut_86 hl (k := 5) rfl (nI_1 _) (by decide) rfl (fun ls hl => ?_)
                  refine lv_goto (tgt := 11) hx hb d_MO_leastOut_89 (by decide) ?_
                  exact ih_11 fw bs (s0 + 1) (by omega) (by first | assumption | omega) hfw (loI_k har hlo (Nat.not_lt.mpr c_7) (Or.inr c_13)) _ _ hP hD hS ls (lv_sub hl [2, 3, 4, 5, 0] rfl)
                · skip
                  refine lv_iload hx hb d_MO_leastOut_77 (lv_at hl 0 rfl) ?_
                  refine lv_istore_n (lv' := [(3, .int (nI (cn (ouB ar P F G (nI s0)) (ar + 0)))), (5, .int (nI (cn (ouB ar P F G (nI s0)) (ar + 0)))), (0, .ref o), (1, .int (nI a)), (2, .int (nI b)), (4, .int (nI s0))]) hx hb d_MO_leastOut_79 rfl hl (by decide) rfl (fun ls hl => ?_)
                  refine lv_aload_n hx hb d_MO_leastOut_80 rfl (lv_at hl 2 rfl) ?_
                  refine lv_iload hx hb d_MO_leastOut_81 (lv_at hl 5 rfl) ?_
                  refine va_put (D := (dC, dI)) (ci := 7) (v := .int (nI s0)) (ty := .int) (C := R_MO) (T := F_MO) (N := 15) hx hb hts in_MO t_MO t_MO_ok n_MO hown hK.1 hP hD hS 0 rfl rfl 8 (by decide) (hts _ wfl_MO_116) (fun _ h9 => h9) rfl (by decide +kernel) rfl rfl (Nat.le_of_ble_eq_true rfl) d_MO_leastOut_83 (fun H locs hP hD hS => ?_)
                  have hP : va_P (dC, dI) cls [(o, .inr (7, [.int th, .int (nI nd), .int (nI ar), .ref fF, .ref fG, .ref fT, .ref fN, .ref fW, .int (nI s0), .ref fO, .ref fB, .int bz, .ref fS, .ref fD, .int sz])), (fF, .inl (cI, 41, .inl (nF F))), (fG, .inl (cI, 41, .inl (nF G))), (fT, .inl (cZ, 41, .inl (bF P)))] H := hP
                  have hD : va_D (ow [(o, .inr (7, [.int th, .int (nI nd), .int (nI ar), .ref fF, .ref fG, .ref fT, .ref fN, .ref fW, .int be, .ref fO, .ref fB, .int bz, .ref fS, .ref fD, .int sz])), (fF, .inl (cI, 41, .inl (nF F))), (fG, .inl (cI, 41, .inl (nF G))), (fT, .inl (cZ, 41, .inl (bF P)))]) [(o, .inr (7, [.int th, .int (nI nd), .int (nI ar), .ref fF, .ref fG, .ref fT, .ref fN, .ref fW, .int (nI s0), .ref fO, .ref fB, .int bz, .ref fS, .ref fD, .int sz])), (fF, .inl (cI, 41, .inl (nF F))), (fG, .inl (cI, 41, .inl (nF G))), (fT, .inl (cZ, 41, .inl (bF P)))] := hD
                  refine lv_iinc (v := (nI (s0 + 1))) (lv' := [(4, .int (nI (s0 + 1))), (3, .int (nI (cn (ouB ar P F G (nI s0)) (ar + 0)))), (5, .int (nI (cn (ouB ar P F G (nI s0)) (ar + 0)))), (0, .ref o), (1, .int (nI a)), (2, .int (nI b))]) hx hb d_MO_leastOut_86 hl (k := 5) rfl (nI_1 _) (by decide) rfl (fun ls hl => ?_)
                  refine lv_goto (tgt := 11) hx hb d_MO_leastOut_89 (by decide) ?_
                  exact ih_11 (cn (ouB ar P F G (nI s0)) (ar + 0)) s0 (s0 + 1) (by omega) (by first | assumption | omega) (Nat.le_trans (cn_le _ _) (by omega)) (loI_t hlo ⟨c_3, c_4⟩ (Or.inr ⟨c_8, c_13⟩)) _ _ hP hD hS ls (lv_sub hl [3, 4, 5, 1, 0] rfl)
  exact L11_1 ((2 ^ nd - 0) + 1) 100 0 0 (Nat.lt_succ_self _) (Nat.zero_le _) (by first | assumption | omega) loI_0 _ _ hP hD hS ls (lv_sub hl [2, 3, 4, 1, 0] rfl)

theorem d_MO_arePartedBy_0 : decode prog_9_method_36_code 0 = .ok (.aload_n 0, 1) := by decide +kernel
theorem d_MO_arePartedBy_1 : decode prog_9_method_36_code 1 = .ok (.iconst (-1), 1) := by decide +kernel
theorem d_MO_arePartedBy_2 : decode prog_9_method_36_code 2 = .ok (.iconst (-1), 1) := by decide +kernel
theorem d_MO_arePartedBy_3 : decode prog_9_method_36_code 3 = .ok (.iload_n 3, 1) := by decide +kernel
theorem d_MO_arePartedBy_4 : decode prog_9_method_36_code 4 = .ok (.iconst 0, 1) := by decide +kernel
theorem d_MO_arePartedBy_5 : decode prog_9_method_36_code 5 = .ok (.invokevirtual 63, 3) := by decide +kernel
theorem d_MO_arePartedBy_8 : decode prog_9_method_36_code 8 = .ok (.aload_n 0, 1) := by decide +kernel
theorem d_MO_arePartedBy_9 : decode prog_9_method_36_code 9 = .ok (.iconst 1, 1) := by decide +kernel
theorem d_MO_arePartedBy_10 : decode prog_9_method_36_code 10 = .ok (.iload_n 1, 1) := by decide +kernel
theorem d_MO_arePartedBy_11 : decode prog_9_method_36_code 11 = .ok (.ishl, 1) := by decide +kernel
theorem d_MO_arePartedBy_12 : decode prog_9_method_36_code 12 = .ok (.invokevirtual 60, 3) := by decide +kernel
theorem d_MO_arePartedBy_15 : decode prog_9_method_36_code 15 = .ok (.iload_n 2, 1) := by decide +kernel
theorem d_MO_arePartedBy_16 : decode prog_9_method_36_code 16 = .ok (.ishr, 1) := by decide +kernel
theorem d_MO_arePartedBy_17 : decode prog_9_method_36_code 17 = .ok (.iconst 1, 1) := by decide +kernel
theorem d_MO_arePartedBy_18 : decode prog_9_method_36_code 18 = .ok (.iand, 1) := by decide +kernel
theorem d_MO_arePartedBy_19 : decode prog_9_method_36_code 19 = .ok (.ifCond .ne 7, 3) := by decide +kernel
theorem d_MO_arePartedBy_22 : decode prog_9_method_36_code 22 = .ok (.iconst 1, 1) := by decide +kernel
theorem d_MO_arePartedBy_23 : decode prog_9_method_36_code 23 = .ok (.goto 4, 3) := by decide +kernel
theorem d_MO_arePartedBy_26 : decode prog_9_method_36_code 26 = .ok (.iconst 0, 1) := by decide +kernel
theorem d_MO_arePartedBy_27 : decode prog_9_method_36_code 27 = .ok (.ireturn, 1) := by decide +kernel
set_option maxHeartbeats 4000000 in
set_option maxRecDepth 100000 in
theorem c_MO_arePartedBy (l : Launch) (dC : Nat → ClassId) (dI : Nat → Nat → Nat) (cI cJ cZ : ClassId) (o fF fG fT fN fW fO fB fS fD : Nat) (th be bz sz : Int32) (nd ar : Nat) (F G : Nat → Nat) (P : Nat → Bool) (hF : ∀ k, F k < 14) (hG : ∀ k, G k < 14) (hnd : nd ≤ 14) (har : ar ≤ 40) (hM : ∀ e, e < ar → F e < nd ∧ G e < nd) (N0 : Nat → Int32) (a b : Nat) (go : Int32) (ha : a < 14) (hb_ : b < 14) : Met l ⟨"CutPointsModel", "arePartedBy", "(III)Z"⟩ (Cond.code ⟨"CutPointsModel", "arePartedBy", "(III)Z"⟩ prog_9_method_36_code 4 (some .boolean) :: TT) (rmk 1 27) (PM dC dI cI cJ cZ [.ref o, .int (nI a), .int (nI b), .int go] [(o, .inr (7, [.int th, .int (nI nd), .int (nI ar), .ref fF, .ref fG, .ref fT, .ref fN, .ref fW, .int be, .ref fO, .ref fB, .int bz, .ref fS, .ref fD, .int sz])), (fF, .inl (cI, 41, .inl (nF F))), (fG, .inl (cI, 41, .inl (nF G))), (fT, .inl (cZ, 41, .inl (bF P))), (fN, .inl (cI, 14, .inl N0))]) (va_Qi (S := Nat → Int32) (fun r u9 => r = bI (!dc (Rc (ad (lkT ar 0 P (-1) (-1) go F G) F G) a b))) (fun u9 t9 => va_P (dC, dI) cls ([(o, .inr (7, [.int th, .int (nI nd), .int (nI ar), .ref fF, .ref fG, .ref fT, .ref fN, .ref fW, .int be, .ref fO, .ref fB, .int bz, .ref fS, .ref fD, .int sz])), (fF, .inl (cI, 41, .inl (nF F))), (fG, .inl (cI, 41, .inl (nF G))), (fT, .inl (cZ, 41, .inl (bF P))), (fN, .inl (cI, 14, .inl u9))]) t9.heap) (ow [(o, .inr (7, [.int th, .int (nI nd), .int (nI ar), .ref fF, .ref fG, .ref fT, .ref fN, .ref fW, .int be, .ref fO, .ref fB, .int bz, .ref fS, .ref fD, .int sz])), (fF, .inl (cI, 41, .inl (nF F))), (fG, .inl (cI, 41, .inl (nF G))), (fT, .inl (cZ, 41, .inl (bF P))), (fN, .inl (cI, 14, .inl N0))])) 0 0 (ow [(o, .inr (7, [.int th, .int (nI nd), .int (nI ar), .ref fF, .ref fG, .ref fT, .ref fN, .ref fW, .int be, .ref fO, .ref fB, .int bz, .ref fS, .ref fD, .int sz])), (fF, .inl (cI, 41, .inl (nF F))), (fG, .inl (cI, 41, .inl (nF G))), (fT, .inl (cZ, 41, .inl (bF P))), (fN, .inl (cI, 14, .inl N0))]) := by
  refine Met.ofW (cc := prog_9_method_36_code) (maxL := 4) (ret := (some .boolean)) (by decide) rfl ?_
  intro p e s m args below meth c s₁ BB9 hml hv
  obtain ⟨rfl, hP, hK, hD0⟩ := hv
  have hx := BB9.exec
  have hb := BB9.bytes
  have hr := BB9.returns
  have hts : ∀ w ∈ TT, w.before _ s = true := fun w h => atoms_spec (ws := (Cond.code ⟨"CutPointsModel", "arePartedBy", "(III)Z"⟩ prog_9_method_36_code 4 (some .boolean) :: TT)) BB9.pre w (List.mem_cons_of_mem _ h)
  have hown : s.vm.findClass "CutPointsModel" = some m.cls := findClass_of_methodNamed BB9.named
  have hlocks := BB9.notSynchronized
  have hD := hD0.mine
  have hS : va_S (ow [(o, .inr (7, [.int th, .int (nI nd), .int (nI ar), .ref fF, .ref fG, .ref fT, .ref fN, .ref fW, .int be, .ref fO, .ref fB, .int bz, .ref fS, .ref fD, .int sz])), (fF, .inl (cI, 41, .inl (nF F))), (fG, .inl (cI, 41, .inl (nF G))), (fT, .inl (cZ, 41, .inl (bF P))), (fN, .inl (cI, 14, .inl N0))]) s.heap s.heap [] := va_S.rf
  have hl := lv_entry ([.ref o, .int (nI a), .int (nI b), .int go]) (n := 4) (Nat.le_of_ble_eq_true rfl)
  rw [lg_entry_eq]
  generalize (lg_sl ([.ref o, .int (nI a), .int (nI b), .int go]) ++ List.replicate (4 - (lg_sl ([.ref o, .int (nI a), .int (nI b), .int go])).length) Slot.unset).toArray = ls at hl ⊢
  have hl : lv_has ls 4 [(0, .ref o), (1, .int (nI a)), (2, .int (nI b)), (3, .int go)] := hl
  refine lv_aload_n hx hb d_MO_arePartedBy_0 rfl (lv_at hl 0 rfl) ?_
  refine lv_iconst (v := (-1)) hx hb d_MO_arePartedBy_1 (by decide) ?_
  refine lv_iconst (v := (-1)) hx hb d_MO_arePartedBy_2 (by decide) ?_
  refine lv_iload_n hx hb d_MO_arePartedBy_3 rfl (lv_at hl 3 rfl) ?_
  refine lv_iconst (v := (nI 0)) hx hb d_MO_arePartedBy_4 (by decide) ?_
  refine x_cv (k_V (n := 4) (C := R_MO) (rest := []) ⟨hx, hb, hml, hown, hts⟩ (c_MO_look l dC dI cI cJ cZ o fF fG fT fN fW fO fB fS fD th be bz sz nd ar F G P hF hG N0 (-1) (-1) go 0 (by first | assumption | omega)) wml_MO_63 wim_MO_look wsel_MO_look wini_MO wcode_MO_look (by decide +kernel) ⟨Nat.le_of_ble_eq_true rfl, Nat.le_of_ble_eq_true rfl⟩ (preV_M (q := (R_MO, F_MO, 15)) (ci := 7) (q0 := 0) (hP.sub (ws' := [(o, .inr (7, [.int th, .int (nI nd), .int (nI ar), .ref fF, .ref fG, .ref fT, .ref fN, .ref fW, .int be, .ref fO, .ref fB, .int bz, .ref fS, .ref fD, .int sz])), (fF, .inl (cI, 41, .inl (nF F))), (fG, .inl (cI, 41, .inl (nF G))), (fT, .inl (cZ, 41, .inl (bF P))), (fN, .inl (cI, 14, .inl N0))]) [0, 1, 2, 3, 4] rfl) hK (hD.sub (ws' := [(o, .inr (7, [.int th, .int (nI nd), .int (nI ar), .ref fF, .ref fG, .ref fT, .ref fN, .ref fW, .int be, .ref fO, .ref fB, .int bz, .ref fS, .ref fD, .int sz])), (fF, .inl (cI, 41, .inl (nF F))), (fG, .inl (cI, 41, .inl (nF G))), (fT, .inl (cZ, 41, .inl (bF P))), (fN, .inl (cI, 14, .inl N0))]) [0, 1, 2, 3, 4] (by decide) rfl) rfl rfl) rfl hl.1 rfl (Nat.le_of_ble_eq_true rfl) d_MO_arePartedBy_5 ⟨Nat.zero_le _, Nat.zero_le _⟩) hP hD hS [0, 1, 2, 3, 4] rfl (fun _ => rfl) (fun u_1 H locs hu_1 hP hS => ?_)
  obtain ⟨N9_1, rfl⟩ : ∃ z, z = u_1 := ⟨_, rfl⟩
  have hP : va_P (dC, dI) cls [(o, .inr (7, [.int th, .int (nI nd), .int (nI ar), .ref fF, .ref fG, .ref fT, .ref fN, .ref fW, .int be, .ref fO, .ref fB, .int bz, .ref fS, .ref fD, .int sz])), (fF, .inl (cI, 41, .inl (nF F))), (fG, .inl (cI, 41, .inl (nF G))), (fT, .inl (cZ, 41, .inl (bF P))), (fN, .inl (cI, 14, .inl N9_1))] H := hP
  have hD := hD.addr (ws' := [(o, .inr (7, [.int th, .int (nI nd), .int (nI ar), .ref fF, .ref fG, .ref fT, .ref fN, .ref fW, .int be, .ref fO, .ref fB, .int bz, .ref fS, .ref fD, .int sz])), (fF, .inl (cI, 41, .inl (nF F))), (fG, .inl (cI, 41, .inl (nF G))), (fT, .inl (cZ, 41, .inl (bF P))), (fN, .inl (cI, 14, .inl N9_1))]) rfl
  refine lv_aload_n hx hb d_MO_arePartedBy_8 rfl (lv_at hl 0 rfl) ?_
  refine lv_iconst (v := (nI 1)) hx hb d_MO_arePartedBy_9 (by decide) ?_
  refine lv_iload_n hx hb d_MO_arePartedBy_10 rfl (lv_at hl 1 rfl) ?_
  refine lv_ishl hx hb d_MO_arePartedBy_11 ?_
  refine xe_i (y := (sb a)) rfl ?_
  refine vp_callSi (va_Run.run (k_V (n := 1) (C := R_MO) (rest := []) ⟨hx, hb, hml, hown, hts⟩ (c_MO_reach l dC dI cI cJ cZ o fF fG fT fN fW fO fB fS fD th be bz sz nd ar (lkT ar 0 P (-1) (-1) go F G) F G N9_1 hu_1 (tEn_lk (mo := 0) hM) (sb a) (by first | assumption | omega)) wml_MO_60 wim_MO_reach wsel_MO_reach wini_MO wcode_MO_reach (by decide +kernel) ⟨Nat.le_of_ble_eq_true rfl, Nat.le_of_ble_eq_true rfl⟩ (preV_R (q := (R_MO, F_MO, 15)) (ci := 7) (q0 := 0) (hP.sub (ws' := [(o, .inr (7, [.int th, .int (nI nd), .int (nI ar), .ref fF, .ref fG, .ref fT, .ref fN, .ref fW, .int be, .ref fO, .ref fB, .int bz, .ref fS, .ref fD, .int sz])), (fN, .inl (cI, 14, .inl N9_1))]) [0, 4] rfl) hK rfl rfl) rfl hl.1 rfl (Nat.le_of_ble_eq_true rfl) d_MO_arePartedBy_12 ⟨Nat.zero_le _, Nat.zero_le _⟩)) (fun r_2 hr_3 => ?_)
  refine lv_iload_n hx hb d_MO_arePartedBy_15 rfl (lv_at hl 2 rfl) ?_
  refine lv_ishr hx hb d_MO_arePartedBy_16 ?_
  refine lv_iconst (v := (nI 1)) hx hb d_MO_arePartedBy_17 (by decide) ?_
  refine lv_iand hx hb d_MO_arePartedBy_18 ?_
  refine xe_i (y := (bI (bt r_2 b))) (sh1 (by omega)) ?_
  refine x_if_ne (tgt := 26) hx hb d_MO_arePartedBy_19 (by decide) (fun c_4 => ?_) (fun c_4 => ?_)
  · skip
    refine lv_iconst (v := (nI 0)) hx hb d_MO_arePartedBy_26 (by decide) ?_
    refine xe_i (y := bI false) rfl ?_
    exact W.zret (v := (bI false)) hx hb hr (bI_nar _) (fun t9 ht9 _ => ⟨⟨_, (N9_1), rfl, (by rw [dc_t.mpr ((hr_3.one (by omega) _).mp c_4)]; rfl), by show va_P (dC, dI) cls _ t9.heap; rw [ht9]; exact hP⟩, hS.F ht9⟩) hS.2.2 d_MO_arePartedBy_27
  · skip
    refine lv_iconst (v := (nI 1)) hx hb d_MO_arePartedBy_22 (by decide) ?_
    refine lv_goto (tgt := 27) hx hb d_MO_arePartedBy_23 (by decide) ?_
    refine xe_i (y := bI true) rfl ?_
    exact W.zret (v := (bI true)) hx hb hr (bI_nar _) (fun t9 ht9 _ => ⟨⟨_, (N9_1), rfl, (by rw [dc_f.mpr (fun q9 => by rw [(hr_3.one (by omega) _).mpr q9] at c_4; cases c_4)]; rfl), by show va_P (dC, dI) cls _ t9.heap; rw [ht9]; exact hP⟩, hS.F ht9⟩) hS.2.2 d_MO_arePartedBy_27

theorem d_MO_layBlock_0 : decode prog_9_method_43_code 0 = .ok (.aload_n 0, 1) := by decide +kernel
theorem d_MO_layBlock_1 : decode prog_9_method_43_code 1 = .ok (.iconst 0, 1) := by decide +kernel
theorem d_MO_layBlock_2 : decode prog_9_method_43_code 2 = .ok (.putfield 132, 3) := by decide +kernel
theorem d_MO_layBlock_5 : decode prog_9_method_43_code 5 = .ok (.iconst 0, 1) := by decide +kernel
theorem d_MO_layBlock_6 : decode prog_9_method_43_code 6 = .ok (.istore_n 2, 1) := by decide +kernel
theorem d_MO_layBlock_7 : decode prog_9_method_43_code 7 = .ok (.iload_n 2, 1) := by decide +kernel
theorem d_MO_layBlock_8 : decode prog_9_method_43_code 8 = .ok (.aload_n 0, 1) := by decide +kernel
theorem d_MO_layBlock_9 : decode prog_9_method_43_code 9 = .ok (.getfield 45, 3) := by decide +kernel
theorem d_MO_layBlock_12 : decode prog_9_method_43_code 12 = .ok (.if_icmp .ge 47, 3) := by decide +kernel
theorem d_MO_layBlock_15 : decode prog_9_method_43_code 15 = .ok (.aload_n 0, 1) := by decide +kernel
theorem d_MO_layBlock_16 : decode prog_9_method_43_code 16 = .ok (.getfield 16, 3) := by decide +kernel
theorem d_MO_layBlock_19 : decode prog_9_method_43_code 19 = .ok (.iload_n 2, 1) := by decide +kernel
theorem d_MO_layBlock_20 : decode prog_9_method_43_code 20 = .ok (.baload, 1) := by decide +kernel
theorem d_MO_layBlock_21 : decode prog_9_method_43_code 21 = .ok (.ifCond .eq 32, 3) := by decide +kernel
theorem d_MO_layBlock_24 : decode prog_9_method_43_code 24 = .ok (.aload_n 0, 1) := by decide +kernel
theorem d_MO_layBlock_25 : decode prog_9_method_43_code 25 = .ok (.iload_n 1, 1) := by decide +kernel
theorem d_MO_layBlock_26 : decode prog_9_method_43_code 26 = .ok (.iload_n 2, 1) := by decide +kernel
theorem d_MO_layBlock_27 : decode prog_9_method_43_code 27 = .ok (.invokevirtual 76, 3) := by decide +kernel
theorem d_MO_layBlock_30 : decode prog_9_method_43_code 30 = .ok (.ifCond .eq 23, 3) := by decide +kernel
theorem d_MO_layBlock_33 : decode prog_9_method_43_code 33 = .ok (.aload_n 0, 1) := by decide +kernel
theorem d_MO_layBlock_34 : decode prog_9_method_43_code 34 = .ok (.getfield 29, 3) := by decide +kernel
theorem d_MO_layBlock_37 : decode prog_9_method_43_code 37 = .ok (.aload_n 0, 1) := by decide +kernel
theorem d_MO_layBlock_38 : decode prog_9_method_43_code 38 = .ok (.getfield 132, 3) := by decide +kernel
theorem d_MO_layBlock_41 : decode prog_9_method_43_code 41 = .ok (.iload_n 2, 1) := by decide +kernel
theorem d_MO_layBlock_42 : decode prog_9_method_43_code 42 = .ok (.iastore, 1) := by decide +kernel
theorem d_MO_layBlock_43 : decode prog_9_method_43_code 43 = .ok (.aload_n 0, 1) := by decide +kernel
theorem d_MO_layBlock_44 : decode prog_9_method_43_code 44 = .ok (.dup, 1) := by decide +kernel
theorem d_MO_layBlock_45 : decode prog_9_method_43_code 45 = .ok (.getfield 132, 3) := by decide +kernel
theorem d_MO_layBlock_48 : decode prog_9_method_43_code 48 = .ok (.iconst 1, 1) := by decide +kernel
theorem d_MO_layBlock_49 : decode prog_9_method_43_code 49 = .ok (.iadd, 1) := by decide +kernel
theorem d_MO_layBlock_50 : decode prog_9_method_43_code 50 = .ok (.putfield 132, 3) := by decide +kernel
theorem d_MO_layBlock_53 : decode prog_9_method_43_code 53 = .ok (.iinc 2 1, 3) := by decide +kernel
theorem d_MO_layBlock_56 : decode prog_9_method_43_code 56 = .ok (.goto (-49), 3) := by decide +kernel
theorem d_MO_layBlock_59 : decode prog_9_method_43_code 59 = .ok (.return_, 1) := by decide +kernel
set_option maxHeartbeats 4000000 in
set_option maxRecDepth 100000 in
theorem c_MO_layBlock (l : Launch) (dC : Nat → ClassId) (dI : Nat → Nat → Nat) (cI cJ cZ : ClassId) (o fF fG fT fN fW fO fB fS fD : Nat) (th be bz sz : Int32) (nd ar : Nat) (F G : Nat → Nat) (P : Nat → Bool) (hF : ∀ k, F k < 14) (hG : ∀ k, G k < 14) (hnd : nd ≤ 14) (har : ar ≤ 40) (hM : ∀ e, e < ar → F e < nd ∧ G e < nd) (N0 : Nat → Int32) (Ob0 : Nat → Nat) (x : Nat) (hxa : x < ar) : Met l ⟨"CutPointsModel", "layBlock", "(I)V"⟩ (Cond.code ⟨"CutPointsModel", "layBlock", "(I)V"⟩ prog_9_method_43_code 3 none :: TT) (rmk 2 52) (PM dC dI cI cJ cZ [.ref o, .int (nI x)] [(o, .inr (7, [.int th, .int (nI nd), .int (nI ar), .ref fF, .ref fG, .ref fT, .ref fN, .ref fW, .int be, .ref fO, .ref fB, .int bz, .ref fS, .ref fD, .int sz])), (fF, .inl (cI, 41, .inl (nF F))), (fG, .inl (cI, 41, .inl (nF G))), (fT, .inl (cZ, 41, .inl (bF P))), (fN, .inl (cI, 14, .inl N0)), (fB, .inl (cI, 41, .inl (nF Ob0)))]) (va_Qv (S := Nat × (Nat → Int32) × (Nat → Nat)) (fun u9 => lbI (fun f => P f = true ∧ abR ar nd P F G x f) u9.2.2 u9.1 ar) (fun u9 t9 => va_P (dC, dI) cls ([(o, .inr (7, [.int th, .int (nI nd), .int (nI ar), .ref fF, .ref fG, .ref fT, .ref fN, .ref fW, .int be, .ref fO, .ref fB, .int (nI u9.1), .ref fS, .ref fD, .int sz])), (fF, .inl (cI, 41, .inl (nF F))), (fG, .inl (cI, 41, .inl (nF G))), (fT, .inl (cZ, 41, .inl (bF P))), (fN, .inl (cI, 14, .inl u9.2.1)), (fB, .inl (cI, 41, .inl (nF u9.2.2)))]) t9.heap) (ow [(o, .inr (7, [.int th, .int (nI nd), .int (nI ar), .ref fF, .ref fG, .ref fT, .ref fN, .ref fW, .int be, .ref fO, .ref fB, .int bz, .ref fS, .ref fD, .int sz])), (fF, .inl (cI, 41, .inl (nF F))), (fG, .inl (cI, 41, .inl (nF G))), (fT, .inl (cZ, 41, .inl (bF P))), (fN, .inl (cI, 14, .inl N0)), (fB, .inl (cI, 41, .inl (nF Ob0)))])) 0 0 (ow [(o, .inr (7, [.int th, .int (nI nd), .int (nI ar), .ref fF, .ref fG, .ref fT, .ref fN, .ref fW, .int be, .ref fO, .ref fB, .int bz, .ref fS, .ref fD, .int sz])), (fF, .inl (cI, 41, .inl (nF F))), (fG, .inl (cI, 41, .inl (nF G))), (fT, .inl (cZ, 41, .inl (bF P))), (fN, .inl (cI, 14, .inl N0)), (fB, .inl (cI, 41, .inl (nF Ob0)))]) := by
  refine Met.ofW (cc := prog_9_method_43_code) (maxL := 3) (ret := none) (by decide) rfl ?_
  intro p e s m args below meth c s₁ BB9 hml hv
  obtain ⟨rfl, hP, hK, hD0⟩ := hv
  have hx := BB9.exec
  have hb := BB9.bytes
  have hr := BB9.returns
  have hts : ∀ w ∈ TT, w.before _ s = true := fun w h => atoms_spec (ws := (Cond.code ⟨"CutPointsModel", "layBlock", "(I)V"⟩ prog_9_method_43_code 3 none :: TT)) BB9.pre w (List.mem_cons_of_mem _ h)
  have hown : s.vm.findClass "CutPointsModel" = some m.cls := findClass_of_methodNamed BB9.named
  have hlocks := BB9.notSynchronized
  have hD := hD0.mine
  have hS : va_S (ow [(o, .inr (7, [.int th, .int (nI nd), .int (nI ar), .ref fF, .ref fG, .ref fT, .ref fN, .ref fW, .int be, .ref fO, .ref fB, .int bz, .ref fS, .ref fD, .int sz])), (fF, .inl (cI, 41, .inl (nF F))), (fG, .inl (cI, 41, .inl (nF G))), (fT, .inl (cZ, 41, .inl (bF P))), (fN, .inl (cI, 14, .inl N0)), (fB, .inl (cI, 41, .inl (nF Ob0)))]) s.heap s.heap [] := va_S.rf
  have hl := lv_entry ([.ref o, .int (nI x)]) (n := 3) (Nat.le_of_ble_eq_true rfl)
  rw [lg_entry_eq]
  generalize (lg_sl ([.ref o, .int (nI x)]) ++ List.replicate (3 - (lg_sl ([.ref o, .int (nI x)])).length) Slot.unset).toArray = ls at hl ⊢
  have hl : lv_has ls 3 [(0, .ref o), (1, .int (nI x))] := hl
  refine lv_aload_n hx hb d_MO_layBlock_0 rfl (lv_at hl 0 rfl) ?_
  refine lv_iconst (v := (nI 0)) hx hb d_MO_layBlock_1 (by decide) ?_
  refine va_put (D := (dC, dI)) (ci := 7) (v := .int (nI 0)) (ty := .int) (C := R_MO) (T := F_MO) (N := 15) hx hb hts in_MO t_MO t_MO_ok n_MO hown hK.1 hP hD hS 0 rfl rfl 11 (by decide) (hts _ wfl_MO_132) (fun _ h9 => h9) rfl (by decide +kernel) rfl rfl (Nat.le_of_ble_eq_true rfl) d_MO_layBlock_2 (fun H locs hP hD hS => ?_)
  have hP : va_P (dC, dI) cls [(o, .inr (7, [.int th, .int (nI nd), .int (nI ar), .ref fF, .ref fG, .ref fT, .ref fN, .ref fW, .int be, .ref fO, .ref fB, .int (nI 0), .ref fS, .ref fD, .int sz])), (fF, .inl (cI, 41, .inl (nF F))), (fG, .inl (cI, 41, .inl (nF G))), (fT, .inl (cZ, 41, .inl (bF P))), (fN, .inl (cI, 14, .inl N0)), (fB, .inl (cI, 41, .inl (nF Ob0)))] H := hP
  have hD : va_D (ow [(o, .inr (7, [.int th, .int (nI nd), .int (nI ar), .ref fF, .ref fG, .ref fT, .ref fN, .ref fW, .int be, .ref fO, .ref fB, .int bz, .ref fS, .ref fD, .int sz])), (fF, .inl (cI, 41, .inl (nF F))), (fG, .inl (cI, 41, .inl (nF G))), (fT, .inl (cZ, 41, .inl (bF P))), (fN, .inl (cI, 14, .inl N0)), (fB, .inl (cI, 41, .inl (nF Ob0)))]) [(o, .inr (7, [.int th, .int (nI nd), .int (nI ar), .ref fF, .ref fG, .ref fT, .ref fN, .ref fW, .int be, .ref fO, .ref fB, .int (nI 0), .ref fS, .ref fD, .int sz])), (fF, .inl (cI, 41, .inl (nF F))), (fG, .inl (cI, 41, .inl (nF G))), (fT, .inl (cZ, 41, .inl (bF P))), (fN, .inl (cI, 14, .inl N0)), (fB, .inl (cI, 41, .inl (nF Ob0)))] := hD
  refine lv_iconst (v := (nI 0)) hx hb d_MO_layBlock_5 (by decide) ?_
  refine lv_istore_n (lv' := [(2, .int (nI 0)), (0, .ref o), (1, .int (nI x))]) hx hb d_MO_layBlock_6 rfl hl (by decide) rfl (fun ls hl => ?_)
  have L7_1 : ∀ (n : Nat) (N2 : Nat → Int32) (Ob2 : Nat → Nat) (bz2 : Nat) (i : Nat) (hn : ar - i < n) (hi : i ≤ ar) (hlb : lbI (fun f => P f = true ∧ abR ar nd P F G x f) Ob2 bz2 i) (H : Heap) (locs : List Loc) (hP : va_P (dC, dI) cls [(o, .inr (7, [.int th, .int (nI nd), .int (nI ar), .ref fF, .ref fG, .ref fT, .ref fN, .ref fW, .int be, .ref fO, .ref fB, .int (nI bz2), .ref fS, .ref fD, .int sz])), (fF, .inl (cI, 41, .inl (nF F))), (fG, .inl (cI, 41, .inl (nF G))), (fT, .inl (cZ, 41, .inl (bF P))), (fN, .inl (cI, 14, .inl N2)), (fB, .inl (cI, 41, .inl (nF Ob2)))] H) (hD : va_D (ow [(o, .inr (7, [.int th, .int (nI nd), .int (nI ar), .ref fF, .ref fG, .ref fT, .ref fN, .ref fW, .int be, .ref fO, .ref fB, .int bz, .ref fS, .ref fD, .int sz])), (fF, .inl (cI, 41, .inl (nF F))), (fG, .inl (cI, 41, .inl (nF G))), (fT, .inl (cZ, 41, .inl (bF P))), (fN, .inl (cI, 14, .inl N0)), (fB, .inl (cI, 41, .inl (nF Ob0)))]) [(o, .inr (7, [.int th, .int (nI nd), .int (nI ar), .ref fF, .ref fG, .ref fT, .ref fN, .ref fW, .int be, .ref fO, .ref fB, .int (nI bz2), .ref fS, .ref fD, .int sz])), (fF, .inl (cI, 41, .inl (nF F))), (fG, .inl (cI, 41, .inl (nF G))), (fT, .inl (cZ, 41, .inl (bF P))), (fN, .inl (cI, 14, .inl N2)), (fB, .inl (cI, 41, .inl (nF Ob2)))]) (hS : va_S (ow [(o, .inr (7, [.int th, .int (nI nd), .int (nI ar), .ref fF, .ref fG, .ref fT, .ref fN, .ref fW, .int be, .ref fO, .ref fB, .int bz, .ref fS, .ref fD, .int sz])), (fF, .inl (cI, 41, .inl (nF F))), (fG, .inl (cI, 41, .inl (nF G))), (fT, .inl (cZ, 41, .inl (bF P))), (fN, .inl (cI, 14, .inl N0)), (fB, .inl (cI, 41, .inl (nF Ob0)))]) s.heap H locs) (ls : Array Slot) (hl : lv_has ls 3 [(0, .ref o), (1, .int (nI x)), (2, .int (nI i))]), W p l e (headSpec (Cond.code ⟨"CutPointsModel", "layBlock", "(I)V"⟩ prog_9_method_43_code 3 none :: TT) (rmk 2 52)).room s m ([.ref o, .int (nI x)] : List Value).toArray below meth c H locs 0 0 (MQ below (va_Qv (S := Nat × (Nat → Int32) × (Nat → Nat)) (fun u9 => lbI (fun f => P f = true ∧ abR ar nd P F G x f) u9.2.2 u9.1 ar) (fun u9 t9 => va_P (dC, dI) cls ([(o, .inr (7, [.int th, .int (nI nd), .int (nI ar), .ref fF, .ref fG, .ref fT, .ref fN, .ref fW, .int be, .ref fO, .ref fB, .int (nI u9.1), .ref fS, .ref fD, .int sz])), (fF, .inl (cI, 41, .inl (nF F))), (fG, .inl (cI, 41, .inl (nF G))), (fT, .inl (cZ, 41, .inl (bF P))), (fN, .inl (cI, 14, .inl u9.2.1)), (fB, .inl (cI, 41, .inl (nF u9.2.2)))]) t9.heap) (ow [(o, .inr (7, [.int th, .int (nI nd), .int (nI ar), .ref fF, .ref fG, .ref fT, .ref fN, .ref fW, .int be, .ref fO, .ref fB, .int bz, .ref fS, .ref fD, .int sz])), (fF, .inl (cI, 41, .inl (nF F))), (fG, .inl (cI, 41, .inl (nF G))), (fT, .inl (cZ, 41, .inl (bF P))), (fN, .inl (cI, 14, .inl N0)), (fB, .inl (cI, 41, .inl (nF Ob0)))])) ([.ref o, .int (nI x)] : List Value).toArray s 0 0 (ow [(o, .inr (7, [.int th, .int (nI nd), .int (nI ar), .ref fF, .ref fG, .ref fT, .ref fN, .ref fW, .int be, .ref fO, .ref fB, .int bz, .ref fS, .ref fD, .int sz])), (fF, .inl (cI, 41, .inl (nF F))), (fG, .inl (cI, 41, .inl (nF G))), (fT, .inl (cZ, 41, .inl (bF P))), (fN, .inl (cI, 14, .inl N0)), (fB, .inl (cI, 41, .inl (nF Ob0)))])) (F0 m 7 ls []) := by
    intro n_7
    induction n_7 with
    | zero =>
      intro N2 Ob2 bz2 i hn_7
      exact absurd hn_7 (Nat.not_lt_zero _)
    | succ n_7 ih_7 =>
      intro N2 Ob2 bz2 i hn_7 hi hlb H locs hP hD hS ls hl
      have hbz := hlb.2.2.2
      refine lv_iload_n hx hb d_MO_layBlock_7 rfl (lv_at hl 2 rfl) ?_
      refine lv_aload_n hx hb d_MO_layBlock_8 rfl (lv_at hl 0 rfl) ?_
      refine va_get (D := (dC, dI)) (ci := 7) (v := .int (nI ar)) (C := R_MO) (T := F_MO) (N := 15) hx hb hts in_MO hown hK.1 hP 0 rfl rfl 2 (by decide) (hts _ wfl_MO_45) (fun _ h9 => h9) rfl d_MO_layBlock_9 ?_
      refine x_cmp_ge (a := i) (b := ar) (tgt := 59) hx hb (by omega) (by omega) d_MO_layBlock_12 (by decide) (fun c_2 => ?_) (fun c_2 => ?_)
      · skip
        exact W.vret hx hb hr (fun t9 ht9 _ => ⟨⟨(bz2, N2, Ob2), rfl, (by have e9 : i = ar := (by omega); subst e9; exact hlb), by show va_P (dC, dI) cls _ t9.heap; rw [ht9]; exact hP⟩, hS.F ht9⟩) hS.2.2 d_MO_layBlock_59
      · skip
        refine lv_aload_n hx hb d_MO_layBlock_15 rfl (lv_at hl 0 rfl) ?_
        refine va_get (D := (dC, dI)) (ci := 7) (v := .ref fT) (C := R_MO) (T := F_MO) (N := 15) hx hb hts in_MO hown hK.1 hP 0 rfl rfl 5 (by decide) (hts _ wfl_MO_16) (fun _ h9 => h9) rfl d_MO_layBlock_16 ?_
        refine lv_iload_n hx hb d_MO_layBlock_19 rfl (lv_at hl 2 rfl) ?_
        refine x_zald (n := 41) (f := (bF P)) (j := i) hx hb hK.1 hP 3 2 rfl rfl (by omega) (by omega) d_MO_layBlock_20 ?_
        refine xe_i (y := (bI (P i))) rfl ?_
        refine x_if_eq (tgt := 53) hx hb d_MO_layBlock_21 (by decide) (fun c_3 => ?_) (fun c_3 => ?_)
        · skip
          refine lv_iinc (v := (nI (i + 1))) (lv' := [(2, .int (nI (i + 1))), (0, .ref o), (1, .int (nI x))]) hx hb d_MO_layBlock_53 hl (k := 2) rfl (nI_1 _) (by decide) rfl (fun ls hl => ?_)
          refine lv_goto (tgt := 7) hx hb d_MO_layBlock_56 (by decide) ?_
          exact ih_7 N2 Ob2 bz2 (i + 1) (by omega) (by first | assumption | omega) (lbI_f hlb (fun q9 => by have z9 := q9.1; rw [c_3] at z9; cases z9)) _ _ hP hD hS ls (lv_sub hl [1, 2, 0] rfl)
        · skip
          refine lv_aload_n hx hb d_MO_layBlock_24 rfl (lv_at hl 0 rfl) ?_
          refine lv_iload_n hx hb d_MO_layBlock_25 rfl (lv_at hl 1 rfl) ?_
          refine lv_iload_n hx hb d_MO_layBlock_26 rfl (lv_at hl 2 rfl) ?_
          refine x_ci (k_V (n := 2) (C := R_MO) (rest := []) ⟨hx, hb, hml, hown, hts⟩ (c_MO_areBlock l dC dI cI cJ cZ o fF fG fT fN fW fO fB fS fD th be (nI bz2) sz nd ar F G P hF hG (by first | assumption | omega) (by first | assumption | omega) hM N2 x i (by first | assumption | omega) (by first | assumption | omega)) wml_MO_76 wim_MO_areBlock wsel_MO_areBlock wini_MO wcode_MO_areBlock (by decide +kernel) ⟨Nat.le_of_ble_eq_true rfl, Nat.le_of_ble_eq_true rfl⟩ (preV_M (q := (R_MO, F_MO, 15)) (ci := 7) (q0 := 0) (hP.sub (ws' := [(o, .inr (7, [.int th, .int (nI nd), .int (nI ar), .ref fF, .ref fG, .ref fT, .ref fN, .ref fW, .int be, .ref fO, .ref fB, .int (nI bz2), .ref fS, .ref fD, .int sz])), (fF, .inl (cI, 41, .inl (nF F))), (fG, .inl (cI, 41, .inl (nF G))), (fT, .inl (cZ, 41, .inl (bF P))), (fN, .inl (cI, 14, .inl N2))]) [0, 1, 2, 3, 4] rfl) hK (hD.sub (ws' := [(o, .inr (7, [.int th, .int (nI nd), .int (nI ar), .ref fF, .ref fG, .ref fT, .ref fN, .ref fW, .int be, .ref fO, .ref fB, .int (nI bz2), .ref fS, .ref fD, .int sz])), (fF, .inl (cI, 41, .inl (nF F))), (fG, .inl (cI, 41, .inl (nF G))), (fT, .inl (cZ, 41, .inl (bF P))), (fN, .inl (cI, 14, .inl N2))]) [0, 1, 2, 3, 4] (by decide) rfl) rfl rfl) rfl hl.1 rfl (Nat.le_of_ble_eq_true rfl) d_MO_layBlock_27 ⟨Nat.zero_le _, Nat.zero_le _⟩) hP hD hS [0, 1, 2, 3, 4] rfl (fun _ => rfl) (fun r_4 u_4 H locs hu_4 hP hS => ?_)
          obtain ⟨N9_4, rfl⟩ : ∃ z, z = u_4 := ⟨_, rfl⟩
          have hP : va_P (dC, dI) cls [(o, .inr (7, [.int th, .int (nI nd), .int (nI ar), .ref fF, .ref fG, .ref fT, .ref fN, .ref fW, .int be, .ref fO, .ref fB, .int (nI bz2), .ref fS, .ref fD, .int sz])), (fF, .inl (cI, 41, .inl (nF F))), (fG, .inl (cI, 41, .inl (nF G))), (fT, .inl (cZ, 41, .inl (bF P))), (fN, .inl (cI, 14, .inl N9_4)), (fB, .inl (cI, 41, .inl (nF Ob2)))] H := hP
          have hD := hD.addr (ws' := [(o, .inr (7, [.int th, .int (nI nd), .int (nI ar), .ref fF, .ref fG, .ref fT, .ref fN, .ref fW, .int be, .ref fO, .ref fB, .int (nI bz2), .ref fS, .ref fD, .int sz])), (fF, .inl (cI, 41, .inl (nF F))), (fG, .inl (cI, 41, .inl (nF G))), (fT, .inl (cZ, 41, .inl (bF P))), (fN, .inl (cI, 14, .inl N9_4)), (fB, .inl (cI, 41, .inl (nF Ob2)))]) rfl
          refine xe_i (y := (bI (dc (abR ar nd P F G x i)))) hu_4 ?_
          refine x_if_eq (tgt := 53) hx hb d_MO_layBlock_30 (by decide) (fun c_5 => ?_) (fun c_5 => ?_)
          · skip
            refine lv_iinc (v := (nI (i + 1))) (lv' := [(2, .int (nI (i + 1))), (0, .ref o), (1, .int (nI x))]) hx hb d_MO_layBlock_53 hl (k := 2) rfl (nI_1 _) (by decide) rfl (fun ls hl => ?_)
            refine lv_goto (tgt := 7) hx hb d_MO_layBlock_56 (by decide) ?_
            exact ih_7 N9_4 Ob2 bz2 (i + 1) (by omega) (by first | assumption | omega) (lbI_f hlb (fun q9 => dc_f.mp c_5 q9.2)) _ _ hP hD hS ls (lv_sub hl [1, 2, 0] rfl)
          · skip
            refine lv_aload_n hx hb d_MO_layBlock_33 rfl (lv_at hl 0 rfl) ?_
            refine va_get (D := (dC, dI)) (ci := 7) (v := .ref fB) (C := R_MO) (T := F_MO) (N := 15) hx hb hts in_MO hown hK.1 hP 0 rfl rfl 10 (by decide) (hts _ wfl_MO_29) (fun _ h9 => h9) rfl d_MO_layBlock_34 ?_
            refine lv_aload_n hx hb d_MO_layBlock_37 rfl (lv_at hl 0 rfl) ?_
            refine va_get (D := (dC, dI)) (ci := 7) (v := .int (nI bz2)) (C := R_MO) (T := F_MO) (N := 15) hx hb hts in_MO hown hK.1 hP 0 rfl rfl 11 (by decide) (hts _ wfl_MO_132) (fun _ h9 => h9) rfl d_MO_layBlock_38 ?_
            refine lv_iload_n hx hb d_MO_layBlock_41 rfl (lv_at hl 2 rfl) ?_
            refine x_iast (g := (nF (va_up Ob2 bz2 i))) hx hb hK.1 hP hD hS 5 0 rfl rfl (nF_up _ _ _) (by omega) (by omega) d_MO_layBlock_42 (fun H locs hP hD hS => ?_)
            have hP : va_P (dC, dI) cls [(o, .inr (7, [.int th, .int (nI nd), .int (nI ar), .ref fF, .ref fG, .ref fT, .ref fN, .ref fW, .int be, .ref fO, .ref fB, .int (nI bz2), .ref fS, .ref fD, .int sz])), (fF, .inl (cI, 41, .inl (nF F))), (fG, .inl (cI, 41, .inl (nF G))), (fT, .inl (cZ, 41, .inl (bF P))), (fN, .inl (cI, 14, .inl N9_4)), (fB, .inl (cI, 41, .inl (nF (va_up Ob2 bz2 i))))] H := hP
            have hD : va_D (ow [(o, .inr (7, [.int th, .int (nI nd), .int (nI ar), .ref fF, .ref fG, .ref fT, .ref fN, .ref fW, .int be, .ref fO, .ref fB, .int bz, .ref fS, .ref fD, .int sz])), (fF, .inl (cI, 41, .inl (nF F))), (fG, .inl (cI, 41, .inl (nF G))), (fT, .inl (cZ, 41, .inl (bF P))), (fN, .inl (cI, 14, .inl N0)), (fB, .inl (cI, 41, .inl (nF Ob0)))]) [(o, .inr (7, [.int th, .int (nI nd), .int (nI ar), .ref fF, .ref fG, .ref fT, .ref fN, .ref fW, .int be, .ref fO, .ref fB, .int (nI bz2), .ref fS, .ref fD, .int sz])), (fF, .inl (cI, 41, .inl (nF F))), (fG, .inl (cI, 41, .inl (nF G))), (fT, .inl (cZ, 41, .inl (bF P))), (fN, .inl (cI, 14, .inl N9_4)), (fB, .inl (cI, 41, .inl (nF (va_up Ob2 bz2 i))))] := hD
            refine lv_aload_n hx hb d_MO_layBlock_43 rfl (lv_at hl 0 rfl) ?_
            refine lv_dup hx hb d_MO_layBlock_44 rfl ?_
            refine va_get (D := (dC, dI)) (ci := 7) (v := .int (nI bz2)) (C := R_MO) (T := F_MO) (N := 15) hx hb hts in_MO hown hK.1 hP 0 rfl rfl 11 (by decide) (hts _ wfl_MO_132) (fun _ h9 => h9) rfl d_MO_layBlock_45 ?_
            refine lv_iconst (v := (nI 1)) hx hb d_MO_layBlock_48 (by decide) ?_
            refine lv_iadd hx hb d_MO_layBlock_49 ?_
            refine xe_i (nI_add _ _) ?_
            refine va_put (D := (dC, dI)) (ci := 7) (v := .int (nI (bz2 + 1))) (ty := .int) (C := R_MO) (T := F_MO) (N := 15) hx hb hts in_MO t_MO t_MO_ok n_MO hown hK.1 hP hD hS 0 rfl rfl 11 (by decide) (hts _ wfl_MO_132) (fun _ h9 => h9) rfl (by decide +kernel) rfl rfl (Nat.le_of_ble_eq_true rfl) d_MO_layBlock_50 (fun H locs hP hD hS => ?_)
            have hP : va_P (dC, dI) cls [(o, .inr (7, [.int th, .int (nI nd), .int (nI ar), .ref fF, .ref fG, .ref fT, .ref fN, .ref fW, .int be, .ref fO, .ref fB, .int (nI (bz2 + 1)), .ref fS, .ref fD, .int sz])), (fF, .inl (cI, 41, .inl (nF F))), (fG, .inl (cI, 41, .inl (nF G))), (fT, .inl (cZ, 41, .inl (bF P))), (fN, .inl (cI, 14, .inl N9_4)), (fB, .inl (cI, 41, .inl (nF (va_up Ob2 bz2 i))))] H := hP
            have hD : va_D (ow [(o, .inr (7, [.int th, .int (nI nd), .int (nI ar), .ref fF, .ref fG, .ref fT, .ref fN, .ref fW, .int be, .ref fO, .ref fB, .int bz, .ref fS, .ref fD, .int sz])), (fF, .inl (cI, 41, .inl (nF F))), (fG, .inl (cI, 41, .inl (nF G))), (fT, .inl (cZ, 41, .inl (bF P))), (fN, .inl (cI, 14, .inl N0)), (fB, .inl (cI, 41, .inl (nF Ob0)))]) [(o, .inr (7, [.int th, .int (nI nd), .int (nI ar), .ref fF, .ref fG, .ref fT, .ref fN, .ref fW, .int be, .ref fO, .ref fB, .int (nI (bz2 + 1)), .ref fS, .ref fD, .int sz])), (fF, .inl (cI, 41, .inl (nF F))), (fG, .inl (cI, 41, .inl (nF G))), (fT, .inl (cZ, 41, .inl (bF P))), (fN, .inl (cI, 14, .inl N9_4)), (fB, .inl (cI, 41, .inl (nF (va_up Ob2 bz2 i))))] := hD
            refine lv_iinc (v := (nI (i + 1))) (lv' := [(2, .int (nI (i + 1))), (0, .ref o), (1, .int (nI x))]) hx hb d_MO_layBlock_53 hl (k := 2) rfl (nI_1 _) (by decide) rfl (fun ls hl => ?_)
            refine lv_goto (tgt := 7) hx hb d_MO_layBlock_56 (by decide) ?_
            exact ih_7 N9_4 (va_up Ob2 bz2 i) (bz2 + 1) (i + 1) (by omega) (by first | assumption | omega) (lbI_t hlb ⟨c_3, dc_t.mp c_5⟩) _ _ hP hD hS ls (lv_sub hl [1, 2, 0] rfl)
  exact L7_1 ((ar - 0) + 1) N0 Ob0 0 0 (Nat.lt_succ_self _) (by first | assumption | omega) (lbI_0 _ _) _ _ hP hD hS ls (lv_sub hl [1, 2, 0] rfl)

theorem d_MO_touched_0 : decode prog_9_method_44_code 0 = .ok (.iconst 0, 1) := by decide +kernel
theorem d_MO_touched_1 : decode prog_9_method_44_code 1 = .ok (.istore_n 2, 1) := by decide +kernel
theorem d_MO_touched_2 : decode prog_9_method_44_code 2 = .ok (.iconst 0, 1) := by decide +kernel
theorem d_MO_touched_3 : decode prog_9_method_44_code 3 = .ok (.istore_n 3, 1) := by decide +kernel
theorem d_MO_touched_4 : decode prog_9_method_44_code 4 = .ok (.iload_n 3, 1) := by decide +kernel
theorem d_MO_touched_5 : decode prog_9_method_44_code 5 = .ok (.aload_n 0, 1) := by decide +kernel
theorem d_MO_touched_6 : decode prog_9_method_44_code 6 = .ok (.getfield 132, 3) := by decide +kernel
theorem d_MO_touched_9 : decode prog_9_method_44_code 9 = .ok (.if_icmp .ge 52, 3) := by decide +kernel
theorem d_MO_touched_12 : decode prog_9_method_44_code 12 = .ok (.iload_n 1, 1) := by decide +kernel
theorem d_MO_touched_13 : decode prog_9_method_44_code 13 = .ok (.iload_n 3, 1) := by decide +kernel
theorem d_MO_touched_14 : decode prog_9_method_44_code 14 = .ok (.ishr, 1) := by decide +kernel
theorem d_MO_touched_15 : decode prog_9_method_44_code 15 = .ok (.iconst 1, 1) := by decide +kernel
theorem d_MO_touched_16 : decode prog_9_method_44_code 16 = .ok (.iand, 1) := by decide +kernel
theorem d_MO_touched_17 : decode prog_9_method_44_code 17 = .ok (.iconst 1, 1) := by decide +kernel
theorem d_MO_touched_18 : decode prog_9_method_44_code 18 = .ok (.if_icmp .ne 35, 3) := by decide +kernel
theorem d_MO_touched_21 : decode prog_9_method_44_code 21 = .ok (.iload_n 2, 1) := by decide +kernel
theorem d_MO_touched_22 : decode prog_9_method_44_code 22 = .ok (.iconst 1, 1) := by decide +kernel
theorem d_MO_touched_23 : decode prog_9_method_44_code 23 = .ok (.aload_n 0, 1) := by decide +kernel
theorem d_MO_touched_24 : decode prog_9_method_44_code 24 = .ok (.getfield 7, 3) := by decide +kernel
theorem d_MO_touched_27 : decode prog_9_method_44_code 27 = .ok (.aload_n 0, 1) := by decide +kernel
theorem d_MO_touched_28 : decode prog_9_method_44_code 28 = .ok (.getfield 29, 3) := by decide +kernel
theorem d_MO_touched_31 : decode prog_9_method_44_code 31 = .ok (.iload_n 3, 1) := by decide +kernel
theorem d_MO_touched_32 : decode prog_9_method_44_code 32 = .ok (.iaload, 1) := by decide +kernel
theorem d_MO_touched_33 : decode prog_9_method_44_code 33 = .ok (.iaload, 1) := by decide +kernel
theorem d_MO_touched_34 : decode prog_9_method_44_code 34 = .ok (.ishl, 1) := by decide +kernel
theorem d_MO_touched_35 : decode prog_9_method_44_code 35 = .ok (.ior, 1) := by decide +kernel
theorem d_MO_touched_36 : decode prog_9_method_44_code 36 = .ok (.iconst 1, 1) := by decide +kernel
theorem d_MO_touched_37 : decode prog_9_method_44_code 37 = .ok (.aload_n 0, 1) := by decide +kernel
theorem d_MO_touched_38 : decode prog_9_method_44_code 38 = .ok (.getfield 13, 3) := by decide +kernel
theorem d_MO_touched_41 : decode prog_9_method_44_code 41 = .ok (.aload_n 0, 1) := by decide +kernel
theorem d_MO_touched_42 : decode prog_9_method_44_code 42 = .ok (.getfield 29, 3) := by decide +kernel
theorem d_MO_touched_45 : decode prog_9_method_44_code 45 = .ok (.iload_n 3, 1) := by decide +kernel
theorem d_MO_touched_46 : decode prog_9_method_44_code 46 = .ok (.iaload, 1) := by decide +kernel
theorem d_MO_touched_47 : decode prog_9_method_44_code 47 = .ok (.iaload, 1) := by decide +kernel
theorem d_MO_touched_48 : decode prog_9_method_44_code 48 = .ok (.ishl, 1) := by decide +kernel
theorem d_MO_touched_49 : decode prog_9_method_44_code 49 = .ok (.ior, 1) := by decide +kernel
theorem d_MO_touched_50 : decode prog_9_method_44_code 50 = .ok (.goto 4, 3) := by decide +kernel
theorem d_MO_touched_53 : decode prog_9_method_44_code 53 = .ok (.iload_n 2, 1) := by decide +kernel
theorem d_MO_touched_54 : decode prog_9_method_44_code 54 = .ok (.istore_n 2, 1) := by decide +kernel
theorem d_MO_touched_55 : decode prog_9_method_44_code 55 = .ok (.iinc 3 1, 3) := by decide +kernel
theorem d_MO_touched_58 : decode prog_9_method_44_code 58 = .ok (.goto (-54), 3) := by decide +kernel
theorem d_MO_touched_61 : decode prog_9_method_44_code 61 = .ok (.iload_n 2, 1) := by decide +kernel
theorem d_MO_touched_62 : decode prog_9_method_44_code 62 = .ok (.ireturn, 1) := by decide +kernel
set_option maxHeartbeats 4000000 in
set_option maxRecDepth 100000 in
theorem c_MO_touched (l : Launch) (dC : Nat → ClassId) (dI : Nat → Nat → Nat) (cI cJ cZ : ClassId) (o fF fG fT fN fW fO fB fS fD : Nat) (th be sz : Int32) (nd ar bz : Nat) (F G : Nat → Nat) (hF : ∀ k, F k < 14) (hG : ∀ k, G k < 14) (Ob : Nat → Nat) (hOb : ∀ k, k < bz → Ob k < 41) (st : Int32) (hbz : bz ≤ 14) : Met l ⟨"CutPointsModel", "touched", "(I)I"⟩ (Cond.code ⟨"CutPointsModel", "touched", "(I)I"⟩ prog_9_method_44_code 4 (some .int) :: TT) (rmk 0 0) (PR dC dI cI cJ cZ [.ref o, .int st] [(o, .inr (7, [.int th, .int (nI nd), .int (nI ar), .ref fF, .ref fG, .ref fT, .ref fN, .ref fW, .int be, .ref fO, .ref fB, .int (nI bz), .ref fS, .ref fD, .int sz])), (fF, .inl (cI, 41, .inl (nF F))), (fG, .inl (cI, 41, .inl (nF G))), (fB, .inl (cI, 41, .inl (nF Ob)))]) (vp_Si (fun y => tcI F G Ob st y bz)) 0 0 (fun _ => False) := by
  refine Met.ofW (cc := prog_9_method_44_code) (maxL := 4) (ret := (some .int)) (by decide) rfl ?_
  intro p e s m args below meth c s₁ BB9 hml hv
  obtain ⟨rfl, hP, hK⟩ := hv
  have hx := BB9.exec
  have hb := BB9.bytes
  have hr := BB9.returns
  have hts : ∀ w ∈ TT, w.before _ s = true := fun w h => atoms_spec (ws := (Cond.code ⟨"CutPointsModel", "touched", "(I)I"⟩ prog_9_method_44_code 4 (some .int) :: TT)) BB9.pre w (List.mem_cons_of_mem _ h)
  have hown : s.vm.findClass "CutPointsModel" = some m.cls := findClass_of_methodNamed BB9.named
  have hlocks := BB9.notSynchronized
  have hl := lv_entry ([.ref o, .int st]) (n := 4) (Nat.le_of_ble_eq_true rfl)
  rw [lg_entry_eq]
  generalize (lg_sl ([.ref o, .int st]) ++ List.replicate (4 - (lg_sl ([.ref o, .int st])).length) Slot.unset).toArray = ls at hl ⊢
  have hl : lv_has ls 4 [(0, .ref o), (1, .int st)] := hl
  refine lv_iconst (v := (nI 0)) hx hb d_MO_touched_0 (by decide) ?_
  refine lv_istore_n (lv' := [(2, .int (nI 0)), (0, .ref o), (1, .int st)]) hx hb d_MO_touched_1 rfl hl (by decide) rfl (fun ls hl => ?_)
  refine lv_iconst (v := (nI 0)) hx hb d_MO_touched_2 (by decide) ?_
  refine lv_istore_n (lv' := [(3, .int (nI 0)), (2, .int (nI 0)), (0, .ref o), (1, .int st)]) hx hb d_MO_touched_3 rfl hl (by decide) rfl (fun ls hl => ?_)
  have L4_1 : ∀ (n : Nat) (x : Int32) (i : Nat) (hn : bz - i < n) (hi : i ≤ bz) (htc : tcI F G Ob st x i) (ls : Array Slot) (hl : lv_has ls 4 [(0, .ref o), (1, .int st), (2, .int x), (3, .int (nI i))]), W p l e (headSpec (Cond.code ⟨"CutPointsModel", "touched", "(I)I"⟩ prog_9_method_44_code 4 (some .int) :: TT) (rmk 0 0)).room s m ([.ref o, .int st] : List Value).toArray below meth c s.heap [] 0 0 (MQ below (vp_Si (fun y => tcI F G Ob st y bz)) ([.ref o, .int st] : List Value).toArray s 0 0 (fun _ => False)) (F0 m 4 ls []) := by
    intro n_4
    induction n_4 with
    | zero =>
      intro x i hn_4
      exact absurd hn_4 (Nat.not_lt_zero _)
    | succ n_4 ih_4 =>
      intro x i hn_4 hi htc ls hl
      refine lv_iload_n hx hb d_MO_touched_4 rfl (lv_at hl 3 rfl) ?_
      refine lv_aload_n hx hb d_MO_touched_5 rfl (lv_at hl 0 rfl) ?_
      refine va_get (D := (dC, dI)) (ci := 7) (v := .int (nI bz)) (C := R_MO) (T := F_MO) (N := 15) hx hb hts in_MO hown hK.1 hP 0 rfl rfl 11 (by decide) (hts _ wfl_MO_132) (fun _ h9 => h9) rfl d_MO_touched_6 ?_
      refine x_cmp_ge (a := i) (b := bz) (tgt := 61) hx hb (by omega) (by omega) d_MO_touched_9 (by decide) (fun c_2 => ?_) (fun c_2 => ?_)
      · skip
        refine lv_iload_n hx hb d_MO_touched_61 rfl (lv_at hl 2 rfl) ?_
        exact W.iret (v := x) hx hb hr (fun t9 ht9 _ => ⟨_, rfl, (by have e9 : i = bz := (by omega); subst e9; exact htc), ht9⟩) t_nil d_MO_touched_62
      · skip
        refine lv_iload_n hx hb d_MO_touched_12 rfl (lv_at hl 1 rfl) ?_
        refine lv_iload_n hx hb d_MO_touched_13 rfl (lv_at hl 3 rfl) ?_
        refine lv_ishr hx hb d_MO_touched_14 ?_
        refine lv_iconst (v := (nI 1)) hx hb d_MO_touched_15 (by decide) ?_
        refine lv_iand hx hb d_MO_touched_16 ?_
        refine xe_i (y := (bI (bt st i))) (sh1 (by omega)) ?_
        refine lv_iconst (v := (nI 1)) hx hb d_MO_touched_17 (by decide) ?_
        refine x_cmp1_ne (tgt := 53) hx hb d_MO_touched_18 (by decide) (fun c_3 => ?_) (fun c_3 => ?_)
        · skip
          refine lv_iload_n hx hb d_MO_touched_53 rfl (lv_at hl 2 rfl) ?_
          refine lv_istore_n (lv' := [(2, .int x), (0, .ref o), (1, .int st), (3, .int (nI i))]) hx hb d_MO_touched_54 rfl hl (by decide) rfl (fun ls hl => ?_)
          refine lv_iinc (v := (nI (i + 1))) (lv' := [(3, .int (nI (i + 1))), (2, .int x), (0, .ref o), (1, .int st)]) hx hb d_MO_touched_55 hl (k := 3) rfl (nI_1 _) (by decide) rfl (fun ls hl => ?_)
          refine lv_goto (tgt := 4) hx hb d_MO_touched_58 (by decide) ?_
          exact ih_4 x (i + 1) (by omega) (by first | assumption | omega) (tcI_f htc c_3) ls (lv_sub hl [2, 3, 1, 0] rfl)
        · skip
          refine lv_iload_n hx hb d_MO_touched_21 rfl (lv_at hl 2 rfl) ?_
          refine lv_iconst (v := (nI 1)) hx hb d_MO_touched_22 (by decide) ?_
          refine lv_aload_n hx hb d_MO_touched_23 rfl (lv_at hl 0 rfl) ?_
          refine va_get (D := (dC, dI)) (ci := 7) (v := .ref fF) (C := R_MO) (T := F_MO) (N := 15) hx hb hts in_MO hown hK.1 hP 0 rfl rfl 3 (by decide) (hts _ wfl_MO_7) (fun _ h9 => h9) rfl d_MO_touched_24 ?_
          refine lv_aload_n hx hb d_MO_touched_27 rfl (lv_at hl 0 rfl) ?_
          refine va_get (D := (dC, dI)) (ci := 7) (v := .ref fB) (C := R_MO) (T := F_MO) (N := 15) hx hb hts in_MO hown hK.1 hP 0 rfl rfl 10 (by decide) (hts _ wfl_MO_29) (fun _ h9 => h9) rfl d_MO_touched_28 ?_
          refine lv_iload_n hx hb d_MO_touched_31 rfl (lv_at hl 3 rfl) ?_
          refine x_iald (n := 41) (f := (nF Ob)) (j := i) hx hb hK.1 hP 3 0 rfl rfl (by omega) (by omega) d_MO_touched_32 ?_
          refine xe_i (y := (nI (Ob i))) rfl ?_
          refine x_iald (n := 41) (f := (nF F)) (j := (Ob i)) hx hb hK.1 hP 1 0 rfl rfl (hOb _ (by assumption)) (by omega) d_MO_touched_33 ?_
          refine xe_i (y := (nI (F (Ob i)))) rfl ?_
          refine lv_ishl hx hb d_MO_touched_34 ?_
          refine xe_i (y := (sb (F (Ob i)))) rfl ?_
          refine lv_ior hx hb d_MO_touched_35 ?_
          refine lv_iconst (v := (nI 1)) hx hb d_MO_touched_36 (by decide) ?_
          refine lv_aload_n hx hb d_MO_touched_37 rfl (lv_at hl 0 rfl) ?_
          refine va_get (D := (dC, dI)) (ci := 7) (v := .ref fG) (C := R_MO) (T := F_MO) (N := 15) hx hb hts in_MO hown hK.1 hP 0 rfl rfl 4 (by decide) (hts _ wfl_MO_13) (fun _ h9 => h9) rfl d_MO_touched_38 ?_
          refine lv_aload_n hx hb d_MO_touched_41 rfl (lv_at hl 0 rfl) ?_
          refine va_get (D := (dC, dI)) (ci := 7) (v := .ref fB) (C := R_MO) (T := F_MO) (N := 15) hx hb hts in_MO hown hK.1 hP 0 rfl rfl 10 (by decide) (hts _ wfl_MO_29) (fun _ h9 => h9) rfl d_MO_touched_42 ?_
          refine lv_iload_n hx hb d_MO_touched_45 rfl (lv_at hl 3 rfl) ?_
          refine x_iald (n := 41) (f := (nF Ob)) (j := i) hx hb hK.1 hP 3 0 rfl rfl (by omega) (by omega) d_MO_touched_46 ?_
          refine xe_i (y := (nI (Ob i))) rfl ?_
          refine x_iald (n := 41) (f := (nF G)) (j := (Ob i)) hx hb hK.1 hP 2 0 rfl rfl (hOb _ (by assumption)) (by omega) d_MO_touched_47 ?_
          refine xe_i (y := (nI (G (Ob i)))) rfl ?_
          refine lv_ishl hx hb d_MO_touched_48 ?_
          refine xe_i (y := (sb (G (Ob i)))) rfl ?_
          refine lv_ior hx hb d_MO_touched_49 ?_
          refine lv_goto (tgt := 54) hx hb d_MO_touched_50 (by decide) ?_
          refine lv_istore_n (lv' := [(2, .int ((x ||| (sb (F (Ob i)))) ||| (sb (G (Ob i))))), (0, .ref o), (1, .int st), (3, .int (nI i))]) hx hb d_MO_touched_54 rfl hl (by decide) rfl (fun ls hl => ?_)
          refine lv_iinc (v := (nI (i + 1))) (lv' := [(3, .int (nI (i + 1))), (2, .int ((x ||| (sb (F (Ob i)))) ||| (sb (G (Ob i))))), (0, .ref o), (1, .int st)]) hx hb d_MO_touched_55 hl (k := 3) rfl (nI_1 _) (by decide) rfl (fun ls hl => ?_)
          refine lv_goto (tgt := 4) hx hb d_MO_touched_58 (by decide) ?_
          exact ih_4 ((x ||| (sb (F (Ob i)))) ||| (sb (G (Ob i)))) (i + 1) (by omega) (by first | assumption | omega) (tcI_t hF hG htc c_3) ls (lv_sub hl [2, 3, 1, 0] rfl)
  exact L4_1 ((bz - 0) + 1) (nI 0) 0 (Nat.lt_succ_self _) (by first | assumption | omega) (tcI_0 F G Ob st) ls (lv_sub hl [2, 3, 1, 0] rfl)
