theorem d_SK_loneArcs_0 : decode prog_6_method_6_code 0 = .ok (.lconst 0, 1) := by decide +kernel
theorem d_SK_loneArcs_1 : decode prog_6_method_6_code 1 = .ok (.lstore_n 1, 1) := by decide +kernel
theorem d_SK_loneArcs_2 : decode prog_6_method_6_code 2 = .ok (.iconst 0, 1) := by decide +kernel
theorem d_SK_loneArcs_3 : decode prog_6_method_6_code 3 = .ok (.istore_n 3, 1) := by decide +kernel
theorem d_SK_loneArcs_4 : decode prog_6_method_6_code 4 = .ok (.iload_n 3, 1) := by decide +kernel
theorem d_SK_loneArcs_5 : decode prog_6_method_6_code 5 = .ok (.aload_n 0, 1) := by decide +kernel
theorem d_SK_loneArcs_6 : decode prog_6_method_6_code 6 = .ok (.getfield 28, 3) := by decide +kernel
theorem d_SK_loneArcs_9 : decode prog_6_method_6_code 9 = .ok (.getfield 96, 3) := by decide +kernel
theorem d_SK_loneArcs_12 : decode prog_6_method_6_code 12 = .ok (.if_icmp .ge 37, 3) := by decide +kernel
theorem d_SK_loneArcs_15 : decode prog_6_method_6_code 15 = .ok (.aload_n 0, 1) := by decide +kernel
theorem d_SK_loneArcs_16 : decode prog_6_method_6_code 16 = .ok (.getfield 28, 3) := by decide +kernel
theorem d_SK_loneArcs_19 : decode prog_6_method_6_code 19 = .ok (.getfield 99, 3) := by decide +kernel
theorem d_SK_loneArcs_22 : decode prog_6_method_6_code 22 = .ok (.iload_n 3, 1) := by decide +kernel
theorem d_SK_loneArcs_23 : decode prog_6_method_6_code 23 = .ok (.laload, 1) := by decide +kernel
theorem d_SK_loneArcs_24 : decode prog_6_method_6_code 24 = .ok (.invokestatic 102, 3) := by decide +kernel
theorem d_SK_loneArcs_27 : decode prog_6_method_6_code 27 = .ok (.iconst 1, 1) := by decide +kernel
theorem d_SK_loneArcs_28 : decode prog_6_method_6_code 28 = .ok (.if_icmp .ne 15, 3) := by decide +kernel
theorem d_SK_loneArcs_31 : decode prog_6_method_6_code 31 = .ok (.lload_n 1, 1) := by decide +kernel
theorem d_SK_loneArcs_32 : decode prog_6_method_6_code 32 = .ok (.aload_n 0, 1) := by decide +kernel
theorem d_SK_loneArcs_33 : decode prog_6_method_6_code 33 = .ok (.getfield 28, 3) := by decide +kernel
theorem d_SK_loneArcs_36 : decode prog_6_method_6_code 36 = .ok (.getfield 99, 3) := by decide +kernel
theorem d_SK_loneArcs_39 : decode prog_6_method_6_code 39 = .ok (.iload_n 3, 1) := by decide +kernel
theorem d_SK_loneArcs_40 : decode prog_6_method_6_code 40 = .ok (.laload, 1) := by decide +kernel
theorem d_SK_loneArcs_41 : decode prog_6_method_6_code 41 = .ok (.lor, 1) := by decide +kernel
theorem d_SK_loneArcs_42 : decode prog_6_method_6_code 42 = .ok (.lstore_n 1, 1) := by decide +kernel
theorem d_SK_loneArcs_43 : decode prog_6_method_6_code 43 = .ok (.iinc 3 1, 3) := by decide +kernel
theorem d_SK_loneArcs_46 : decode prog_6_method_6_code 46 = .ok (.goto (-42), 3) := by decide +kernel
theorem d_SK_loneArcs_49 : decode prog_6_method_6_code 49 = .ok (.lload_n 1, 1) := by decide +kernel
theorem d_SK_loneArcs_50 : decode prog_6_method_6_code 50 = .ok (.lreturn, 1) := by decide +kernel
set_option maxHeartbeats 4000000 in
set_option maxRecDepth 100000 in
theorem c_SK_loneArcs (l : Launch) (dC : Nat → ClassId) (dI : Nat → Nat → Nat) (cI cJ cZ : ClassId) (k nr fr rs at_ h : Nat) (al : Int32) (br : Int64) (b1 z : Nat) (Se : Nat → Int64) (hz : z ≤ 41) : Met l ⟨"CutPoints$Sketch", "loneArcs", "()J"⟩ (Cond.code ⟨"CutPoints$Sketch", "loneArcs", "()J"⟩ prog_6_method_6_code 4 (some .long) :: TT) (rmk 1 21) (PR dC dI cI cJ cZ [.ref k] [(k, .inr (2, [.ref nr, .ref fr, .ref rs, .ref at_, .ref h, .int al, .long br])), (h, .inr (3, [.ref b1, .int (nI z)])), (b1, .inl (cJ, 41, .inr (.inl Se)))]) (vp_Sl (fun x => LnR Se x z)) 0 0 (fun _ => False) := by
  refine Met.ofW (cc := prog_6_method_6_code) (maxL := 4) (ret := (some .long)) (by decide) rfl ?_
  intro p e s m args below meth c s₁ B hml hv
  obtain ⟨rfl, hP, hK⟩ := hv
  have hx := B.exec
  have hb := B.bytes
  have hr := B.returns
  have hts : ∀ w ∈ TT, w.before _ s = true := fun w h => atoms_spec (ws := (Cond.code ⟨"CutPoints$Sketch", "loneArcs", "()J"⟩ prog_6_method_6_code 4 (some .long) :: TT)) B.pre w (List.mem_cons_of_mem _ h)
  have hown : s.vm.findClass "CutPoints$Sketch" = some m.cls := findClass_of_methodNamed B.named
  have hlocks := B.notSynchronized
  have hl := lv_entry ([.ref k]) (n := 4) (Nat.le_of_ble_eq_true rfl)
  rw [lg_entry_eq]
  generalize (lg_sl ([.ref k]) ++ List.replicate (4 - (lg_sl ([.ref k])).length) Slot.unset).toArray = ls at hl ⊢
  have hl : lv_has ls 4 [(0, .ref k)] := hl
  refine lv_lconst (v := 0) hx hb d_SK_loneArcs_0 rfl ?_
  refine lv_lstore_n (lv' := [(1, .long 0), (0, .ref k)]) hx hb d_SK_loneArcs_1 rfl hl (by decide) rfl (fun ls hl => ?_)
  refine lv_iconst (v := (nI 0)) hx hb d_SK_loneArcs_2 (by decide) ?_
  refine lv_istore_n (lv' := [(3, .int (nI 0)), (1, .long 0), (0, .ref k)]) hx hb d_SK_loneArcs_3 rfl hl (by decide) rfl (fun ls hl => ?_)
  have L4_1 : ∀ (n : Nat) (x : Int64) (i : Nat) (hn : z - i < n) (hi : i ≤ z) (hn : LnR Se x i) (ls : Array Slot) (hl : lv_has ls 4 [(0, .ref k), (1, .long x), (3, .int (nI i))]), W p l e (headSpec (Cond.code ⟨"CutPoints$Sketch", "loneArcs", "()J"⟩ prog_6_method_6_code 4 (some .long) :: TT) (rmk 1 21)).room s m ([.ref k] : List Value).toArray below meth c s.heap [] 0 0 (MQ below (vp_Sl (fun x => LnR Se x z)) ([.ref k] : List Value).toArray s 0 0 (fun _ => False)) (F0 m 4 ls []) := by
    intro n_4
    induction n_4 with
    | zero =>
      intro x i hn_4
      exact absurd hn_4 (Nat.not_lt_zero _)
    | succ n_4 ih_4 =>
      intro x i hn_4 hi hn ls hl
      refine lv_iload_n hx hb d_SK_loneArcs_4 rfl (lv_at hl 2 rfl) ?_
      refine lv_aload_n hx hb d_SK_loneArcs_5 rfl (lv_at hl 0 rfl) ?_
      refine va_get (D := (dC, dI)) (ci := 2) (v := .ref h) (C := R_SK) (T := F_SK) (N := 7) hx hb hts in_SK hown hK.1 hP 0 rfl rfl 4 (by decide) (hts _ wfl_SK_28) (fun _ h9 => h9) rfl d_SK_loneArcs_6 ?_
      refine va_get (D := (dC, dI)) (ci := 3) (v := .int (nI z)) (C := R_GP) (T := F_GP) (N := 2) hx hb hts in_GP hown hK.1 hP 1 rfl rfl 1 (by decide) (hts _ wfl_SK_96) (fun _ h9 => h9) rfl d_SK_loneArcs_9 ?_
      refine x_cmp_ge (a := i) (b := z) (tgt := 49) hx hb (by omega) (by omega) d_SK_loneArcs_12 (by decide) (fun c_2 => ?_) (fun c_2 => ?_)
      · skip
        refine lv_lload_n hx hb d_SK_loneArcs_49 rfl (lv_at hl 1 rfl) ?_
        exact W.lret (v := x) hx hb hr (fun t ht _ => ⟨_, rfl, (by have e9 : i = z := (by omega); subst e9; exact hn), ht⟩) t_nil d_SK_loneArcs_50
      · skip
        refine lv_aload_n hx hb d_SK_loneArcs_15 rfl (lv_at hl 0 rfl) ?_
        refine va_get (D := (dC, dI)) (ci := 2) (v := .ref h) (C := R_SK) (T := F_SK) (N := 7) hx hb hts in_SK hown hK.1 hP 0 rfl rfl 4 (by decide) (hts _ wfl_SK_28) (fun _ h9 => h9) rfl d_SK_loneArcs_16 ?_
        refine va_get (D := (dC, dI)) (ci := 3) (v := .ref b1) (C := R_GP) (T := F_GP) (N := 2) hx hb hts in_GP hown hK.1 hP 1 rfl rfl 0 (by decide) (hts _ wfl_SK_99) (fun _ h9 => h9) rfl d_SK_loneArcs_19 ?_
        refine lv_iload_n hx hb d_SK_loneArcs_22 rfl (lv_at hl 2 rfl) ?_
        refine x_lald (n := 41) (f := Se) (j := i) hx hb hK.1 hP 2 1 rfl rfl (by omega) (by omega) d_SK_loneArcs_23 ?_
        refine vp_callSi (va_Run.run (k_S (n := 1) (rest := []) ⟨hx, hb, hml, hown, hts⟩ (c_JL_bitCount l dC dI cI cJ cZ (Se i)) wml_SK_102 wst_JL_bitCount wini_JL wcode_JL_bitCount (by decide +kernel) ⟨Nat.le_of_ble_eq_true rfl, Nat.le_of_ble_eq_true rfl⟩ (pre_R (hP.sub (ws' := []) [] rfl) hK) rfl hl.1 rfl (Nat.le_of_ble_eq_true rfl) d_SK_loneArcs_24 ⟨Nat.zero_le _, Nat.zero_le _⟩)) (fun r_3 hr_4 => ?_)
        refine xe_i (y := (nI (cn (lb (Se i)) 64))) hr_4 ?_
        refine lv_iconst (v := (nI 1)) hx hb d_SK_loneArcs_27 (by decide) ?_
        refine x_cmp_ne (a := (cn (lb (Se i)) 64)) (b := 1) (tgt := 43) hx hb (Nat.lt_of_le_of_lt (cn_le _ _) (by decide)) (by omega) d_SK_loneArcs_28 (by decide) (fun c_5 => ?_) (fun c_5 => ?_)
        · skip
          refine lv_iinc (v := (nI (i + 1))) (lv' := [(3, .int (nI (i + 1))), (0, .ref k), (1, .long x)]) hx hb d_SK_loneArcs_43 hl (k := 2) rfl (nI_1 _) (by decide) rfl (fun ls hl => ?_)
          refine lv_goto (tgt := 4) hx hb d_SK_loneArcs_46 (by decide) ?_
          exact ih_4 x (i + 1) (by omega) (by first | assumption | omega) (LnR_f hn c_5) ls (lv_sub hl [1, 2, 0] rfl)
        · skip
          refine lv_lload_n hx hb d_SK_loneArcs_31 rfl (lv_at hl 1 rfl) ?_
          refine lv_aload_n hx hb d_SK_loneArcs_32 rfl (lv_at hl 0 rfl) ?_
          refine va_get (D := (dC, dI)) (ci := 2) (v := .ref h) (C := R_SK) (T := F_SK) (N := 7) hx hb hts in_SK hown hK.1 hP 0 rfl rfl 4 (by decide) (hts _ wfl_SK_28) (fun _ h9 => h9) rfl d_SK_loneArcs_33 ?_
          refine va_get (D := (dC, dI)) (ci := 3) (v := .ref b1) (C := R_GP) (T := F_GP) (N := 2) hx hb hts in_GP hown hK.1 hP 1 rfl rfl 0 (by decide) (hts _ wfl_SK_99) (fun _ h9 => h9) rfl d_SK_loneArcs_36 ?_
          refine lv_iload_n hx hb d_SK_loneArcs_39 rfl (lv_at hl 2 rfl) ?_
          refine x_lald (n := 41) (f := Se) (j := i) hx hb hK.1 hP 2 1 rfl rfl (by omega) (by omega) d_SK_loneArcs_40 ?_
          refine lv_lor hx hb d_SK_loneArcs_41 ?_
          refine lv_lstore_n (lv' := [(1, .long (x ||| (Se i))), (0, .ref k), (3, .int (nI i))]) hx hb d_SK_loneArcs_42 rfl hl (by decide) rfl (fun ls hl => ?_)
          refine lv_iinc (v := (nI (i + 1))) (lv' := [(3, .int (nI (i + 1))), (1, .long (x ||| (Se i))), (0, .ref k)]) hx hb d_SK_loneArcs_43 hl (k := 2) rfl (nI_1 _) (by decide) rfl (fun ls hl => ?_)
          refine lv_goto (tgt := 4) hx hb d_SK_loneArcs_46 (by decide) ?_
          exact ih_4 (x ||| (Se i)) (i + 1) (by omega) (by first | assumption | omega) (LnR_t hn c_5) ls (lv_sub hl [2, 1, 0] rfl)
  exact L4_1 ((z - 0) + 1) 0 0 (Nat.lt_succ_self _) (by first | assumption | omega) (LnR_0 Se) ls (lv_sub hl [2, 1, 0] rfl)

theorem d_SK_countBetween_0 : decode prog_6_method_14_code 0 = .ok (.iconst 0, 1) := by decide +kernel
theorem d_SK_countBetween_1 : decode prog_6_method_14_code 1 = .ok (.istore_n 3, 1) := by decide +kernel
theorem d_SK_countBetween_2 : decode prog_6_method_14_code 2 = .ok (.iconst 0, 1) := by decide +kernel
theorem d_SK_countBetween_3 : decode prog_6_method_14_code 3 = .ok (.istore 4, 2) := by decide +kernel
theorem d_SK_countBetween_5 : decode prog_6_method_14_code 5 = .ok (.iload 4, 2) := by decide +kernel
theorem d_SK_countBetween_7 : decode prog_6_method_14_code 7 = .ok (.bipush 14, 2) := by decide +kernel
theorem d_SK_countBetween_9 : decode prog_6_method_14_code 9 = .ok (.if_icmp .ge 76, 3) := by decide +kernel
theorem d_SK_countBetween_12 : decode prog_6_method_14_code 12 = .ok (.aload_n 0, 1) := by decide +kernel
theorem d_SK_countBetween_13 : decode prog_6_method_14_code 13 = .ok (.getfield 38, 3) := by decide +kernel
theorem d_SK_countBetween_16 : decode prog_6_method_14_code 16 = .ok (.i2l, 1) := by decide +kernel
theorem d_SK_countBetween_17 : decode prog_6_method_14_code 17 = .ok (.iload 4, 2) := by decide +kernel
theorem d_SK_countBetween_19 : decode prog_6_method_14_code 19 = .ok (.invokestatic 68, 3) := by decide +kernel
theorem d_SK_countBetween_22 : decode prog_6_method_14_code 22 = .ok (.ifCond .eq 19, 3) := by decide +kernel
theorem d_SK_countBetween_25 : decode prog_6_method_14_code 25 = .ok (.iload 4, 2) := by decide +kernel
theorem d_SK_countBetween_27 : decode prog_6_method_14_code 27 = .ok (.iload_n 1, 1) := by decide +kernel
theorem d_SK_countBetween_28 : decode prog_6_method_14_code 28 = .ok (.if_icmp .eq 13, 3) := by decide +kernel
theorem d_SK_countBetween_31 : decode prog_6_method_14_code 31 = .ok (.iload 4, 2) := by decide +kernel
theorem d_SK_countBetween_33 : decode prog_6_method_14_code 33 = .ok (.iload_n 2, 1) := by decide +kernel
theorem d_SK_countBetween_34 : decode prog_6_method_14_code 34 = .ok (.if_icmp .eq 7, 3) := by decide +kernel
theorem d_SK_countBetween_37 : decode prog_6_method_14_code 37 = .ok (.iconst 1, 1) := by decide +kernel
theorem d_SK_countBetween_38 : decode prog_6_method_14_code 38 = .ok (.goto 4, 3) := by decide +kernel
theorem d_SK_countBetween_41 : decode prog_6_method_14_code 41 = .ok (.iconst 0, 1) := by decide +kernel
theorem d_SK_countBetween_42 : decode prog_6_method_14_code 42 = .ok (.istore 5, 2) := by decide +kernel
theorem d_SK_countBetween_44 : decode prog_6_method_14_code 44 = .ok (.iload 5, 2) := by decide +kernel
theorem d_SK_countBetween_46 : decode prog_6_method_14_code 46 = .ok (.ifCond .eq 33, 3) := by decide +kernel
theorem d_SK_countBetween_49 : decode prog_6_method_14_code 49 = .ok (.aload_n 0, 1) := by decide +kernel
theorem d_SK_countBetween_50 : decode prog_6_method_14_code 50 = .ok (.getfield 9, 3) := by decide +kernel
theorem d_SK_countBetween_53 : decode prog_6_method_14_code 53 = .ok (.iload_n 1, 1) := by decide +kernel
theorem d_SK_countBetween_54 : decode prog_6_method_14_code 54 = .ok (.aload_n 0, 1) := by decide +kernel
theorem d_SK_countBetween_55 : decode prog_6_method_14_code 55 = .ok (.getfield 38, 3) := by decide +kernel
theorem d_SK_countBetween_58 : decode prog_6_method_14_code 58 = .ok (.iconst 1, 1) := by decide +kernel
theorem d_SK_countBetween_59 : decode prog_6_method_14_code 59 = .ok (.iload 4, 2) := by decide +kernel
theorem d_SK_countBetween_61 : decode prog_6_method_14_code 61 = .ok (.ishl, 1) := by decide +kernel
theorem d_SK_countBetween_62 : decode prog_6_method_14_code 62 = .ok (.iconst (-1), 1) := by decide +kernel
theorem d_SK_countBetween_63 : decode prog_6_method_14_code 63 = .ok (.ixor, 1) := by decide +kernel
theorem d_SK_countBetween_64 : decode prog_6_method_14_code 64 = .ok (.iand, 1) := by decide +kernel
theorem d_SK_countBetween_65 : decode prog_6_method_14_code 65 = .ok (.invokestatic 84, 3) := by decide +kernel
theorem d_SK_countBetween_68 : decode prog_6_method_14_code 68 = .ok (.i2l, 1) := by decide +kernel
theorem d_SK_countBetween_69 : decode prog_6_method_14_code 69 = .ok (.iload_n 2, 1) := by decide +kernel
theorem d_SK_countBetween_70 : decode prog_6_method_14_code 70 = .ok (.invokestatic 68, 3) := by decide +kernel
theorem d_SK_countBetween_73 : decode prog_6_method_14_code 73 = .ok (.ifCond .ne 6, 3) := by decide +kernel
theorem d_SK_countBetween_76 : decode prog_6_method_14_code 76 = .ok (.iinc 3 1, 3) := by decide +kernel
theorem d_SK_countBetween_79 : decode prog_6_method_14_code 79 = .ok (.iinc 4 1, 3) := by decide +kernel
theorem d_SK_countBetween_82 : decode prog_6_method_14_code 82 = .ok (.goto (-77), 3) := by decide +kernel
theorem d_SK_countBetween_85 : decode prog_6_method_14_code 85 = .ok (.iload_n 3, 1) := by decide +kernel
theorem d_SK_countBetween_86 : decode prog_6_method_14_code 86 = .ok (.ireturn, 1) := by decide +kernel
set_option maxHeartbeats 4000000 in
set_option maxRecDepth 100000 in
theorem c_SK_countBetween (l : Launch) (dC : Nat → ClassId) (dI : Nat → Nat → Nat) (cI cJ cZ : ClassId) (k nr fr rs at_ h : Nat) (al : Int32) (br : Int64) (N : Nat → Int32) (hr14 : ∀ a b, a < 14 → bt (N a) b = true → b < 14) (a b : Nat) (ha14 : a < 14) (hb14 : b < 14) : Met l ⟨"CutPoints$Sketch", "countBetween", "(II)I"⟩ (Cond.code ⟨"CutPoints$Sketch", "countBetween", "(II)I"⟩ prog_6_method_14_code 6 (some .int) :: TT) (rmk 2 48) (PR dC dI cI cJ cZ [.ref k, .int (nI a), .int (nI b)] [(k, .inr (2, [.ref nr, .ref fr, .ref rs, .ref at_, .ref h, .int al, .long br])), (nr, .inl (cI, 14, .inl N))]) (vp_Si (fun y => y = nI (cn (btwB N al a b) 14))) 0 0 (fun _ => False) := by
  refine Met.ofW (cc := prog_6_method_14_code) (maxL := 6) (ret := (some .int)) (by decide) rfl ?_
  intro p e s m args below meth c s₁ B hml hv
  obtain ⟨rfl, hP, hK⟩ := hv
  have hx := B.exec
  have hb := B.bytes
  have hr := B.returns
  have hts : ∀ w ∈ TT, w.before _ s = true := fun w h => atoms_spec (ws := (Cond.code ⟨"CutPoints$Sketch", "countBetween", "(II)I"⟩ prog_6_method_14_code 6 (some .int) :: TT)) B.pre w (List.mem_cons_of_mem _ h)
  have hown : s.vm.findClass "CutPoints$Sketch" = some m.cls := findClass_of_methodNamed B.named
  have hlocks := B.notSynchronized
  have hl := lv_entry ([.ref k, .int (nI a), .int (nI b)]) (n := 6) (Nat.le_of_ble_eq_true rfl)
  rw [lg_entry_eq]
  generalize (lg_sl ([.ref k, .int (nI a), .int (nI b)]) ++ List.replicate (6 - (lg_sl ([.ref k, .int (nI a), .int (nI b)])).length) Slot.unset).toArray = ls at hl ⊢
  have hl : lv_has ls 6 [(0, .ref k), (1, .int (nI a)), (2, .int (nI b))] := hl
  refine lv_iconst (v := (nI 0)) hx hb d_SK_countBetween_0 (by decide) ?_
  refine lv_istore_n (lv' := [(3, .int (nI 0)), (0, .ref k), (1, .int (nI a)), (2, .int (nI b))]) hx hb d_SK_countBetween_1 rfl hl (by decide) rfl (fun ls hl => ?_)
  refine lv_iconst (v := (nI 0)) hx hb d_SK_countBetween_2 (by decide) ?_
  refine lv_istore (lv' := [(4, .int (nI 0)), (3, .int (nI 0)), (0, .ref k), (1, .int (nI a)), (2, .int (nI b))]) hx hb d_SK_countBetween_3 hl (by decide) rfl (fun ls hl => ?_)
  have L5_1 : ∀ (n : Nat) (q : Nat) (i : Nat) (hn : 14 - i < n) (hi : i ≤ 14) (hq : q = cn (btwB N al a b) i) (ls : Array Slot) (hl : lv_has ls 6 [(0, .ref k), (1, .int (nI a)), (2, .int (nI b)), (3, .int (nI q)), (4, .int (nI i))]), W p l e (headSpec (Cond.code ⟨"CutPoints$Sketch", "countBetween", "(II)I"⟩ prog_6_method_14_code 6 (some .int) :: TT) (rmk 2 48)).room s m ([.ref k, .int (nI a), .int (nI b)] : List Value).toArray below meth c s.heap [] 0 0 (MQ below (vp_Si (fun y => y = nI (cn (btwB N al a b) 14))) ([.ref k, .int (nI a), .int (nI b)] : List Value).toArray s 0 0 (fun _ => False)) (F0 m 5 ls []) := by
    intro n_5
    induction n_5 with
    | zero =>
      intro q i hn_5
      exact absurd hn_5 (Nat.not_lt_zero _)
    | succ n_5 ih_5 =>
      intro q i hn_5 hi hq ls hl
      refine lv_iload hx hb d_SK_countBetween_5 (lv_at hl 4 rfl) ?_
      refine lv_bipush (v := (nI 14)) hx hb d_SK_countBetween_7 (by decide) ?_
      refine x_cmp_ge (a := i) (b := 14) (tgt := 85) hx hb (by omega) (by omega) d_SK_countBetween_9 (by decide) (fun c_2 => ?_) (fun c_2 => ?_)
      · skip
        refine lv_iload_n hx hb d_SK_countBetween_85 rfl (lv_at hl 3 rfl) ?_
        exact W.iret (v := (nI q)) hx hb hr (fun t ht _ => ⟨_, rfl, (by have e9 : i = 14 := (by omega); subst e9; rw [hq]), ht⟩) t_nil d_SK_countBetween_86
      · skip
        refine lv_aload_n hx hb d_SK_countBetween_12 rfl (lv_at hl 0 rfl) ?_
        refine va_get (D := (dC, dI)) (ci := 2) (v := .int al) (C := R_SK) (T := F_SK) (N := 7) hx hb hts in_SK hown hK.1 hP 0 rfl rfl 5 (by decide) (hts _ wfl_SK_38) (fun _ h9 => h9) rfl d_SK_countBetween_13 ?_
        refine lv_i2l (v := al.toInt64) hx hb d_SK_countBetween_16 rfl ?_
        refine lv_iload hx hb d_SK_countBetween_17 (lv_at hl 4 rfl) ?_
        refine vp_callSi (va_Run.run (k_SN (n := 2) (rest := []) ⟨hx, hb, hml, hown, hts⟩ (c_CP_hasBit l dC dI cI cJ cZ al.toInt64 i (by first | assumption | omega)) hK wmn_SK_68 wst_CP_hasBit wini_CP wcode_CP_hasBit (by decide +kernel) ⟨Nat.le_of_ble_eq_true rfl, Nat.le_of_ble_eq_true rfl⟩ (pre_R (hP.sub (ws' := []) [] rfl) hK) rfl hl.1 rfl (Nat.le_of_ble_eq_true rfl) d_SK_countBetween_19 ⟨Nat.zero_le _, Nat.zero_le _⟩)) (fun r_3 hr_4 => ?_)
        refine xe_i (y := (bI (lb al.toInt64 i))) hr_4 ?_
        refine xe_i (y := (bI (bt al i))) (by rw [lb_i2l _ (by omega)]) ?_
        refine x_if_eq (tgt := 41) hx hb d_SK_countBetween_22 (by decide) (fun c_5 => ?_) (fun c_5 => ?_)
        · skip
          refine lv_iconst (v := (nI 0)) hx hb d_SK_countBetween_41 (by decide) ?_
          refine lv_istore (lv' := [(5, .int (nI 0)), (0, .ref k), (1, .int (nI a)), (2, .int (nI b)), (3, .int (nI q)), (4, .int (nI i))]) hx hb d_SK_countBetween_42 hl (by decide) rfl (fun ls hl => ?_)
          refine lv_iload hx hb d_SK_countBetween_44 (lv_at hl 0 rfl) ?_
          refine lv_if_eq (tgt := 79) hx hb d_SK_countBetween_46 (by decide) (fun _ => ?_) (fun c9 => absurd (by decide : (nI 0) = 0) c9)
          refine lv_iinc (v := (nI (i + 1))) (lv' := [(4, .int (nI (i + 1))), (5, .int (nI 0)), (0, .ref k), (1, .int (nI a)), (2, .int (nI b)), (3, .int (nI q))]) hx hb d_SK_countBetween_79 hl (k := 5) rfl (nI_1 _) (by decide) rfl (fun ls hl => ?_)
          refine lv_goto (tgt := 5) hx hb d_SK_countBetween_82 (by decide) ?_
          exact ih_5 q (i + 1) (by omega) (by first | assumption | omega) (cn_f hq (dc_f.mpr (fun q9 => by rw [c_5] at q9; cases q9.1))) ls (lv_sub hl [2, 3, 4, 5, 0] rfl)
        · skip
          refine lv_iload hx hb d_SK_countBetween_25 (lv_at hl 4 rfl) ?_
          refine lv_iload_n hx hb d_SK_countBetween_27 rfl (lv_at hl 1 rfl) ?_
          refine x_cmp_eq (a := i) (b := a) (tgt := 41) hx hb (by omega) (by omega) d_SK_countBetween_28 (by decide) (fun c_7 => ?_) (fun c_7 => ?_)
          · skip
            refine lv_iconst (v := (nI 0)) hx hb d_SK_countBetween_41 (by decide) ?_
            refine lv_istore (lv' := [(5, .int (nI 0)), (0, .ref k), (1, .int (nI a)), (2, .int (nI b)), (3, .int (nI q)), (4, .int (nI i))]) hx hb d_SK_countBetween_42 hl (by decide) rfl (fun ls hl => ?_)
            refine lv_iload hx hb d_SK_countBetween_44 (lv_at hl 0 rfl) ?_
            refine lv_if_eq (tgt := 79) hx hb d_SK_countBetween_46 (by decide) (fun _ => ?_) (fun c9 => absurd (by decide : (nI 0) = 0) c9)
            refine lv_iinc (v := (nI (i + 1))) (lv' := [(4, .int (nI (i + 1))), (5, .int (nI 0)), (0, .ref k), (1, .int (nI a)), (2, .int (nI b)), (3, .int (nI q))]) hx hb d_SK_countBetween_79 hl (k := 5) rfl (nI_1 _) (by decide) rfl (fun ls hl => ?_)
            refine lv_goto (tgt := 5) hx hb d_SK_countBetween_82 (by decide) ?_
            exact ih_5 q (i + 1) (by omega) (by first | assumption | omega) (cn_f hq (dc_f.mpr (fun q9 => q9.2.1 c_7))) ls (lv_sub hl [2, 3, 4, 5, 0] rfl)
          · skip
            refine lv_iload hx hb d_SK_countBetween_31 (lv_at hl 4 rfl) ?_
            refine lv_iload_n hx hb d_SK_countBetween_33 rfl (lv_at hl 2 rfl) ?_
            refine x_cmp_eq (a := i) (b := b) (tgt := 41) hx hb (by omega) (by omega) d_SK_countBetween_34 (by decide) (fun c_9 => ?_) (fun c_9 => ?_)
            · skip
              refine lv_iconst (v := (nI 0)) hx hb d_SK_countBetween_41 (by decide) ?_
              refine lv_istore (lv' := [(5, .int (nI 0)), (0, .ref k), (1, .int (nI a)), (2, .int (nI b)), (3, .int (nI q)), (4, .int (nI i))]) hx hb d_SK_countBetween_42 hl (by decide) rfl (fun ls hl => ?_)
              refine lv_iload hx hb d_SK_countBetween_44 (lv_at hl 0 rfl) ?_
              refine lv_if_eq (tgt := 79) hx hb d_SK_countBetween_46 (by decide) (fun _ => ?_) (fun c9 => absurd (by decide : (nI 0) = 0) c9)
              refine lv_iinc (v := (nI (i + 1))) (lv' := [(4, .int (nI (i + 1))), (5, .int (nI 0)), (0, .ref k), (1, .int (nI a)), (2, .int (nI b)), (3, .int (nI q))]) hx hb d_SK_countBetween_79 hl (k := 5) rfl (nI_1 _) (by decide) rfl (fun ls hl => ?_)
              refine lv_goto (tgt := 5) hx hb d_SK_countBetween_82 (by decide) ?_
              exact ih_5 q (i + 1) (by omega) (by first | assumption | omega) (cn_f hq (dc_f.mpr (fun q9 => q9.2.2.1 c_9))) ls (lv_sub hl [2, 3, 4, 5, 0] rfl)
            · skip
              refine lv_iconst (v := (nI 1)) hx hb d_SK_countBetween_37 (by decide) ?_
              refine lv_goto (tgt := 42) hx hb d_SK_countBetween_38 (by decide) ?_
              refine lv_istore (lv' := [(5, .int (nI 1)), (0, .ref k), (1, .int (nI a)), (2, .int (nI b)), (3, .int (nI q)), (4, .int (nI i))]) hx hb d_SK_countBetween_42 hl (by decide) rfl (fun ls hl => ?_)
              refine lv_iload hx hb d_SK_countBetween_44 (lv_at hl 0 rfl) ?_
              refine lv_if_eq (tgt := 79) hx hb d_SK_countBetween_46 (by decide) (fun c9 => absurd c9 (by decide : ¬ (nI 1) = 0)) (fun _ => ?_)
              refine lv_aload_n hx hb d_SK_countBetween_49 rfl (lv_at hl 1 rfl) ?_
              refine va_get (D := (dC, dI)) (ci := 2) (v := .ref nr) (C := R_SK) (T := F_SK) (N := 7) hx hb hts in_SK hown hK.1 hP 0 rfl rfl 0 (by decide) (hts _ wfl_SK_9) (fun _ h9 => h9) rfl d_SK_countBetween_50 ?_
              refine lv_iload_n hx hb d_SK_countBetween_53 rfl (lv_at hl 2 rfl) ?_
              refine lv_aload_n hx hb d_SK_countBetween_54 rfl (lv_at hl 1 rfl) ?_
              refine va_get (D := (dC, dI)) (ci := 2) (v := .int al) (C := R_SK) (T := F_SK) (N := 7) hx hb hts in_SK hown hK.1 hP 0 rfl rfl 5 (by decide) (hts _ wfl_SK_38) (fun _ h9 => h9) rfl d_SK_countBetween_55 ?_
              refine lv_iconst (v := (nI 1)) hx hb d_SK_countBetween_58 (by decide) ?_
              refine lv_iload hx hb d_SK_countBetween_59 (lv_at hl 5 rfl) ?_
              refine lv_ishl hx hb d_SK_countBetween_61 ?_
              refine xe_i (y := (sb i)) rfl ?_
              refine lv_iconst (v := (-1)) hx hb d_SK_countBetween_62 (by decide) ?_
              refine lv_ixor hx hb d_SK_countBetween_63 ?_
              refine lv_iand hx hb d_SK_countBetween_64 ?_
              refine vp_callSi (va_Run.run (k_SN (n := 3) (rest := []) ⟨hx, hb, hml, hown, hts⟩ (c_CP_spread l dC dI cI cJ cZ nr N a (al &&& ((sb i) ^^^ (-1))) (by first | assumption | omega) (fun a b h => hr14 a b h.1 h.2.1)) hK wmn_SK_84 wst_CP_spread wini_CP wcode_CP_spread (by decide +kernel) ⟨Nat.le_of_ble_eq_true rfl, Nat.le_of_ble_eq_true rfl⟩ (pre_R (hP.sub (ws' := [(nr, .inl (cI, 14, .inl N))]) [1] rfl) hK) rfl hl.1 rfl (Nat.le_of_ble_eq_true rfl) d_SK_countBetween_65 ⟨Nat.zero_le _, Nat.zero_le _⟩)) (fun r_12 hr_13 => ?_)
              refine lv_i2l (v := r_12.toInt64) hx hb d_SK_countBetween_68 rfl ?_
              refine lv_iload_n hx hb d_SK_countBetween_69 rfl (lv_at hl 3 rfl) ?_
              refine vp_callSi (va_Run.run (k_SN (n := 2) (rest := []) ⟨hx, hb, hml, hown, hts⟩ (c_CP_hasBit l dC dI cI cJ cZ r_12.toInt64 b (by first | assumption | omega)) hK wmn_SK_68 wst_CP_hasBit wini_CP wcode_CP_hasBit (by decide +kernel) ⟨Nat.le_of_ble_eq_true rfl, Nat.le_of_ble_eq_true rfl⟩ (pre_R (hP.sub (ws' := []) [] rfl) hK) rfl hl.1 rfl (Nat.le_of_ble_eq_true rfl) d_SK_countBetween_70 ⟨Nat.zero_le _, Nat.zero_le _⟩)) (fun r_14 hr_15 => ?_)
              refine xe_i (y := (bI (lb r_12.toInt64 b))) hr_15 ?_
              refine xe_i (y := (bI (bt r_12 b))) (by rw [lb_i2l _ (by omega)]) ?_
              refine x_if_ne (tgt := 79) hx hb d_SK_countBetween_73 (by decide) (fun c_16 => ?_) (fun c_16 => ?_)
              · skip
                refine lv_iinc (v := (nI (i + 1))) (lv' := [(4, .int (nI (i + 1))), (5, .int (nI 1)), (0, .ref k), (1, .int (nI a)), (2, .int (nI b)), (3, .int (nI q))]) hx hb d_SK_countBetween_79 hl (k := 5) rfl (nI_1 _) (by decide) rfl (fun ls hl => ?_)
                refine lv_goto (tgt := 5) hx hb d_SK_countBetween_82 (by decide) ?_
                exact ih_5 q (i + 1) (by omega) (by first | assumption | omega) (cn_f hq (dc_f.mpr (fun q9 => q9.2.2.2 ((hr_13 _).mp c_16)))) ls (lv_sub hl [2, 3, 4, 5, 0] rfl)
              · skip
                refine lv_iinc (v := (nI (q + 1))) (lv' := [(3, .int (nI (q + 1))), (5, .int (nI 1)), (0, .ref k), (1, .int (nI a)), (2, .int (nI b)), (4, .int (nI i))]) hx hb d_SK_countBetween_76 hl (k := 4) rfl (nI_1 _) (by decide) rfl (fun ls hl => ?_)
                refine lv_iinc (v := (nI (i + 1))) (lv' := [(4, .int (nI (i + 1))), (3, .int (nI (q + 1))), (5, .int (nI 1)), (0, .ref k), (1, .int (nI a)), (2, .int (nI b))]) hx hb d_SK_countBetween_79 hl (k := 5) rfl (nI_1 _) (by decide) rfl (fun ls hl => ?_)
                refine lv_goto (tgt := 5) hx hb d_SK_countBetween_82 (by decide) ?_
                exact ih_5 (q + 1) (i + 1) (by omega) (by first | assumption | omega) (cn_t hq (dc_t.mpr ⟨c_5, c_7, c_9, fun q9 => by rw [(hr_13 _).mpr q9] at c_16; cases c_16⟩)) ls (lv_sub hl [3, 4, 5, 1, 0] rfl)
  exact L5_1 ((14 - 0) + 1) 0 0 (Nat.lt_succ_self _) (by first | assumption | omega) rfl ls (lv_sub hl [2, 3, 4, 1, 0] rfl)

theorem d_SK_countNeeded_0 : decode prog_6_method_15_code 0 = .ok (.aload_n 0, 1) := by decide +kernel
theorem d_SK_countNeeded_1 : decode prog_6_method_15_code 1 = .ok (.getfield 38, 3) := by decide +kernel
theorem d_SK_countNeeded_4 : decode prog_6_method_15_code 4 = .ok (.istore_n 1, 1) := by decide +kernel
theorem d_SK_countNeeded_5 : decode prog_6_method_15_code 5 = .ok (.iconst 0, 1) := by decide +kernel
theorem d_SK_countNeeded_6 : decode prog_6_method_15_code 6 = .ok (.istore_n 2, 1) := by decide +kernel
theorem d_SK_countNeeded_7 : decode prog_6_method_15_code 7 = .ok (.iconst 0, 1) := by decide +kernel
theorem d_SK_countNeeded_8 : decode prog_6_method_15_code 8 = .ok (.istore_n 3, 1) := by decide +kernel
theorem d_SK_countNeeded_9 : decode prog_6_method_15_code 9 = .ok (.iconst 0, 1) := by decide +kernel
theorem d_SK_countNeeded_10 : decode prog_6_method_15_code 10 = .ok (.istore 4, 2) := by decide +kernel
theorem d_SK_countNeeded_12 : decode prog_6_method_15_code 12 = .ok (.iload 4, 2) := by decide +kernel
theorem d_SK_countNeeded_14 : decode prog_6_method_15_code 14 = .ok (.bipush 14, 2) := by decide +kernel
theorem d_SK_countNeeded_16 : decode prog_6_method_15_code 16 = .ok (.if_icmp .ge 60, 3) := by decide +kernel
theorem d_SK_countNeeded_19 : decode prog_6_method_15_code 19 = .ok (.iload_n 1, 1) := by decide +kernel
theorem d_SK_countNeeded_20 : decode prog_6_method_15_code 20 = .ok (.i2l, 1) := by decide +kernel
theorem d_SK_countNeeded_21 : decode prog_6_method_15_code 21 = .ok (.iload 4, 2) := by decide +kernel
theorem d_SK_countNeeded_23 : decode prog_6_method_15_code 23 = .ok (.invokestatic 68, 3) := by decide +kernel
theorem d_SK_countNeeded_26 : decode prog_6_method_15_code 26 = .ok (.ifCond .eq 44, 3) := by decide +kernel
theorem d_SK_countNeeded_29 : decode prog_6_method_15_code 29 = .ok (.aload_n 0, 1) := by decide +kernel
theorem d_SK_countNeeded_30 : decode prog_6_method_15_code 30 = .ok (.iload 4, 2) := by decide +kernel
theorem d_SK_countNeeded_32 : decode prog_6_method_15_code 32 = .ok (.invokevirtual 119, 3) := by decide +kernel
theorem d_SK_countNeeded_35 : decode prog_6_method_15_code 35 = .ok (.istore 5, 2) := by decide +kernel
theorem d_SK_countNeeded_37 : decode prog_6_method_15_code 37 = .ok (.iload_n 1, 1) := by decide +kernel
theorem d_SK_countNeeded_38 : decode prog_6_method_15_code 38 = .ok (.iload 5, 2) := by decide +kernel
theorem d_SK_countNeeded_40 : decode prog_6_method_15_code 40 = .ok (.iconst (-1), 1) := by decide +kernel
theorem d_SK_countNeeded_41 : decode prog_6_method_15_code 41 = .ok (.ixor, 1) := by decide +kernel
theorem d_SK_countNeeded_42 : decode prog_6_method_15_code 42 = .ok (.iand, 1) := by decide +kernel
theorem d_SK_countNeeded_43 : decode prog_6_method_15_code 43 = .ok (.istore_n 1, 1) := by decide +kernel
theorem d_SK_countNeeded_44 : decode prog_6_method_15_code 44 = .ok (.iinc 2 1, 3) := by decide +kernel
theorem d_SK_countNeeded_47 : decode prog_6_method_15_code 47 = .ok (.iload_n 3, 1) := by decide +kernel
theorem d_SK_countNeeded_48 : decode prog_6_method_15_code 48 = .ok (.iconst 0, 1) := by decide +kernel
theorem d_SK_countNeeded_49 : decode prog_6_method_15_code 49 = .ok (.iconst 2, 1) := by decide +kernel
theorem d_SK_countNeeded_50 : decode prog_6_method_15_code 50 = .ok (.aload_n 0, 1) := by decide +kernel
theorem d_SK_countNeeded_51 : decode prog_6_method_15_code 51 = .ok (.iload 5, 2) := by decide +kernel
theorem d_SK_countNeeded_53 : decode prog_6_method_15_code 53 = .ok (.invokevirtual 88, 3) := by decide +kernel
theorem d_SK_countNeeded_56 : decode prog_6_method_15_code 56 = .ok (.aload_n 0, 1) := by decide +kernel
theorem d_SK_countNeeded_57 : decode prog_6_method_15_code 57 = .ok (.getfield 56, 3) := by decide +kernel
theorem d_SK_countNeeded_60 : decode prog_6_method_15_code 60 = .ok (.land, 1) := by decide +kernel
theorem d_SK_countNeeded_61 : decode prog_6_method_15_code 61 = .ok (.invokestatic 102, 3) := by decide +kernel
theorem d_SK_countNeeded_64 : decode prog_6_method_15_code 64 = .ok (.isub, 1) := by decide +kernel
theorem d_SK_countNeeded_65 : decode prog_6_method_15_code 65 = .ok (.invokestatic 122, 3) := by decide +kernel
theorem d_SK_countNeeded_68 : decode prog_6_method_15_code 68 = .ok (.iadd, 1) := by decide +kernel
theorem d_SK_countNeeded_69 : decode prog_6_method_15_code 69 = .ok (.istore_n 3, 1) := by decide +kernel
theorem d_SK_countNeeded_70 : decode prog_6_method_15_code 70 = .ok (.iinc 4 1, 3) := by decide +kernel
theorem d_SK_countNeeded_73 : decode prog_6_method_15_code 73 = .ok (.goto (-61), 3) := by decide +kernel
theorem d_SK_countNeeded_76 : decode prog_6_method_15_code 76 = .ok (.iload_n 2, 1) := by decide +kernel
theorem d_SK_countNeeded_77 : decode prog_6_method_15_code 77 = .ok (.iconst 1, 1) := by decide +kernel
theorem d_SK_countNeeded_78 : decode prog_6_method_15_code 78 = .ok (.if_icmp .le 11, 3) := by decide +kernel
theorem d_SK_countNeeded_81 : decode prog_6_method_15_code 81 = .ok (.iload_n 3, 1) := by decide +kernel
theorem d_SK_countNeeded_82 : decode prog_6_method_15_code 82 = .ok (.iconst 1, 1) := by decide +kernel
theorem d_SK_countNeeded_83 : decode prog_6_method_15_code 83 = .ok (.iadd, 1) := by decide +kernel
theorem d_SK_countNeeded_84 : decode prog_6_method_15_code 84 = .ok (.iconst 2, 1) := by decide +kernel
theorem d_SK_countNeeded_85 : decode prog_6_method_15_code 85 = .ok (.idiv, 1) := by decide +kernel
theorem d_SK_countNeeded_86 : decode prog_6_method_15_code 86 = .ok (.goto 4, 3) := by decide +kernel
theorem d_SK_countNeeded_89 : decode prog_6_method_15_code 89 = .ok (.iconst 0, 1) := by decide +kernel
theorem d_SK_countNeeded_90 : decode prog_6_method_15_code 90 = .ok (.ireturn, 1) := by decide +kernel
set_option maxHeartbeats 4000000 in
set_option maxRecDepth 100000 in
theorem c_SK_countNeeded (l : Launch) (dC : Nat → ClassId) (dI : Nat → Nat → Nat) (cI cJ cZ : ClassId) (k nr fr rs at_ h : Nat) (al : Int32) (br : Int64) (Fm : Nat → Int32) (A : Nat → Int64) (hrw : ∀ a b, rE Fm al a b → b < 14) : Met l ⟨"CutPoints$Sketch", "countNeeded", "()I"⟩ (Cond.code ⟨"CutPoints$Sketch", "countNeeded", "()I"⟩ prog_6_method_15_code 6 (some .int) :: TT) (rmk 3 69) (PR dC dI cI cJ cZ [.ref k] [(k, .inr (2, [.ref nr, .ref fr, .ref rs, .ref at_, .ref h, .int al, .long br])), (fr, .inl (cI, 14, .inl Fm)), (at_, .inl (cJ, 14, .inr (.inl A)))]) (vp_Si (fun y => y = nI (need Fm al A br))) 0 0 (fun _ => False) := by
  refine Met.ofW (cc := prog_6_method_15_code) (maxL := 6) (ret := (some .int)) (by decide) rfl ?_
  intro p e s m args below meth c s₁ B hml hv
  obtain ⟨rfl, hP, hK⟩ := hv
  have hx := B.exec
  have hb := B.bytes
  have hr := B.returns
  have hts : ∀ w ∈ TT, w.before _ s = true := fun w h => atoms_spec (ws := (Cond.code ⟨"CutPoints$Sketch", "countNeeded", "()I"⟩ prog_6_method_15_code 6 (some .int) :: TT)) B.pre w (List.mem_cons_of_mem _ h)
  have hown : s.vm.findClass "CutPoints$Sketch" = some m.cls := findClass_of_methodNamed B.named
  have hlocks := B.notSynchronized
  have hl := lv_entry ([.ref k]) (n := 6) (Nat.le_of_ble_eq_true rfl)
  rw [lg_entry_eq]
  generalize (lg_sl ([.ref k]) ++ List.replicate (6 - (lg_sl ([.ref k])).length) Slot.unset).toArray = ls at hl ⊢
  have hl : lv_has ls 6 [(0, .ref k)] := hl
  refine lv_aload_n hx hb d_SK_countNeeded_0 rfl (lv_at hl 0 rfl) ?_
  refine va_get (D := (dC, dI)) (ci := 2) (v := .int al) (C := R_SK) (T := F_SK) (N := 7) hx hb hts in_SK hown hK.1 hP 0 rfl rfl 5 (by decide) (hts _ wfl_SK_38) (fun _ h9 => h9) rfl d_SK_countNeeded_1 ?_
  refine lv_istore_n (lv' := [(1, .int al), (0, .ref k)]) hx hb d_SK_countNeeded_4 rfl hl (by decide) rfl (fun ls hl => ?_)
  refine lv_iconst (v := (nI 0)) hx hb d_SK_countNeeded_5 (by decide) ?_
  refine lv_istore_n (lv' := [(2, .int (nI 0)), (1, .int al), (0, .ref k)]) hx hb d_SK_countNeeded_6 rfl hl (by decide) rfl (fun ls hl => ?_)
  refine lv_iconst (v := (nI 0)) hx hb d_SK_countNeeded_7 (by decide) ?_
  refine lv_istore_n (lv' := [(3, .int (nI 0)), (2, .int (nI 0)), (1, .int al), (0, .ref k)]) hx hb d_SK_countNeeded_8 rfl hl (by decide) rfl (fun ls hl => ?_)
  refine lv_iconst (v := (nI 0)) hx hb d_SK_countNeeded_9 (by decide) ?_
  refine lv_istore (lv' := [(4, .int (nI 0)), (3, .int (nI 0)), (2, .int (nI 0)), (1, .int al), (0, .ref k)]) hx hb d_SK_countNeeded_10 hl (by decide) rfl (fun ls hl => ?_)
  have L12_1 : ∀ (n : Nat) (lf : Int32) (q : Nat) (en : Nat) (i : Nat) (hn : 14 - i < n) (hi : i ≤ 14) (hj : lfI Fm al lf i) (hq : q = cn (lead Fm al) i) (hs : en = sm (wnt Fm al A br) i) (ls : Array Slot) (hl : lv_has ls 6 [(0, .ref k), (1, .int lf), (2, .int (nI q)), (3, .int (nI en)), (4, .int (nI i))]), W p l e (headSpec (Cond.code ⟨"CutPoints$Sketch", "countNeeded", "()I"⟩ prog_6_method_15_code 6 (some .int) :: TT) (rmk 3 69)).room s m ([.ref k] : List Value).toArray below meth c s.heap [] 0 0 (MQ below (vp_Si (fun y => y = nI (need Fm al A br))) ([.ref k] : List Value).toArray s 0 0 (fun _ => False)) (F0 m 12 ls []) := by
    intro n_12
    induction n_12 with
    | zero =>
      intro lf q en i hn_12
      exact absurd hn_12 (Nat.not_lt_zero _)
    | succ n_12 ih_12 =>
      intro lf q en i hn_12 hi hj hq hs ls hl
      have hq14 := cn_le (lead Fm al) i
      have hs14 := sm_le (wnt_le Fm al A br) i
      refine lv_iload hx hb d_SK_countNeeded_12 (lv_at hl 4 rfl) ?_
      refine lv_bipush (v := (nI 14)) hx hb d_SK_countNeeded_14 (by decide) ?_
      refine x_cmp_ge (a := i) (b := 14) (tgt := 76) hx hb (by omega) (by omega) d_SK_countNeeded_16 (by decide) (fun c_2 => ?_) (fun c_2 => ?_)
      · skip
        refine lv_iload_n hx hb d_SK_countNeeded_76 rfl (lv_at hl 2 rfl) ?_
        refine lv_iconst (v := (nI 1)) hx hb d_SK_countNeeded_77 (by decide) ?_
        refine x_cmp_le (a := q) (b := 1) (tgt := 89) hx hb (by omega) (by omega) d_SK_countNeeded_78 (by decide) (fun c_3 => ?_) (fun c_3 => ?_)
        · skip
          refine lv_iconst (v := (nI 0)) hx hb d_SK_countNeeded_89 (by decide) ?_
          exact W.iret (v := (nI 0)) hx hb hr (fun t ht _ => ⟨_, rfl, (by have e9 : i = 14 := (by omega); subst e9; unfold need; rw [← hq, ← hs, if_neg (by omega)]), ht⟩) t_nil d_SK_countNeeded_90
        · skip
          refine lv_iload_n hx hb d_SK_countNeeded_81 rfl (lv_at hl 3 rfl) ?_
          refine lv_iconst (v := (nI 1)) hx hb d_SK_countNeeded_82 (by decide) ?_
          refine lv_iadd hx hb d_SK_countNeeded_83 ?_
          refine xe_i (nI_add _ _) ?_
          refine lv_iconst (v := (nI 2)) hx hb d_SK_countNeeded_84 (by decide) ?_
          refine lv_idiv hx hb d_SK_countNeeded_85 (by decide) ?_
          refine xe_i (pk_div (by omega) (by omega) (by omega)) ?_
          refine lv_goto (tgt := 90) hx hb d_SK_countNeeded_86 (by decide) ?_
          exact W.iret (v := (nI ((en + 1) / 2))) hx hb hr (fun t ht _ => ⟨_, rfl, (by have e9 : i = 14 := (by omega); subst e9; unfold need; rw [← hq, ← hs, if_pos (by omega)]), ht⟩) t_nil d_SK_countNeeded_90
      · skip
        refine lv_iload_n hx hb d_SK_countNeeded_19 rfl (lv_at hl 1 rfl) ?_
        refine lv_i2l (v := lf.toInt64) hx hb d_SK_countNeeded_20 rfl ?_
        refine lv_iload hx hb d_SK_countNeeded_21 (lv_at hl 4 rfl) ?_
        refine vp_callSi (va_Run.run (k_SN (n := 2) (rest := []) ⟨hx, hb, hml, hown, hts⟩ (c_CP_hasBit l dC dI cI cJ cZ lf.toInt64 i (by first | assumption | omega)) hK wmn_SK_68 wst_CP_hasBit wini_CP wcode_CP_hasBit (by decide +kernel) ⟨Nat.le_of_ble_eq_true rfl, Nat.le_of_ble_eq_true rfl⟩ (pre_R (hP.sub (ws' := []) [] rfl) hK) rfl hl.1 rfl (Nat.le_of_ble_eq_true rfl) d_SK_countNeeded_23 ⟨Nat.zero_le _, Nat.zero_le _⟩)) (fun r_4 hr_5 => ?_)
        refine xe_i (y := (bI (lb lf.toInt64 i))) hr_5 ?_
        refine xe_i (y := (bI (bt lf i))) (by rw [lb_i2l _ (by omega)]) ?_
        refine x_if_eq (tgt := 70) hx hb d_SK_countNeeded_26 (by decide) (fun c_6 => ?_) (fun c_6 => ?_)
        · skip
          refine lv_iinc (v := (nI (i + 1))) (lv' := [(4, .int (nI (i + 1))), (0, .ref k), (1, .int lf), (2, .int (nI q)), (3, .int (nI en))]) hx hb d_SK_countNeeded_70 hl (k := 4) rfl (nI_1 _) (by decide) rfl (fun ls hl => ?_)
          refine lv_goto (tgt := 12) hx hb d_SK_countNeeded_73 (by decide) ?_
          exact ih_12 lf q en (i + 1) (by omega) (by first | assumption | omega) (lfI_f hj c_6) (cn_f hq (by rw [lfI_l hj]; exact c_6)) (sm_0 hs (by unfold wnt; rw [lfI_l hj, c_6]; rfl)) ls (lv_sub hl [1, 2, 3, 4, 0] rfl)
        · skip
          refine lv_aload_n hx hb d_SK_countNeeded_29 rfl (lv_at hl 0 rfl) ?_
          refine lv_iload hx hb d_SK_countNeeded_30 (lv_at hl 4 rfl) ?_
          refine vp_callSi (va_Run.run (k_V (n := 1) (C := R_SK) (rest := []) ⟨hx, hb, hml, hown, hts⟩ (c_SK_twinsOf l dC dI cI cJ cZ k nr fr rs at_ h al br Fm hrw i (by first | assumption | omega)) wml_SK_119 wim_SK_twinsOf wsel_SK_twinsOf wini_SK wcode_SK_twinsOf (by decide +kernel) ⟨Nat.le_of_ble_eq_true rfl, Nat.le_of_ble_eq_true rfl⟩ (preV_R (q := (R_SK, F_SK, 7)) (ci := 2) (q0 := 0) (hP.sub (ws' := [(k, .inr (2, [.ref nr, .ref fr, .ref rs, .ref at_, .ref h, .int al, .long br])), (fr, .inl (cI, 14, .inl Fm))]) [0, 1] rfl) hK rfl rfl) rfl hl.1 rfl (Nat.le_of_ble_eq_true rfl) d_SK_countNeeded_32 ⟨Nat.zero_le _, Nat.zero_le _⟩)) (fun r_7 hr_8 => ?_)
          refine lv_istore (lv' := [(5, .int r_7), (0, .ref k), (1, .int lf), (2, .int (nI q)), (3, .int (nI en)), (4, .int (nI i))]) hx hb d_SK_countNeeded_35 hl (by decide) rfl (fun ls hl => ?_)
          refine lv_iload_n hx hb d_SK_countNeeded_37 rfl (lv_at hl 2 rfl) ?_
          refine lv_iload hx hb d_SK_countNeeded_38 (lv_at hl 0 rfl) ?_
          refine lv_iconst (v := (-1)) hx hb d_SK_countNeeded_40 (by decide) ?_
          refine lv_ixor hx hb d_SK_countNeeded_41 ?_
          refine lv_iand hx hb d_SK_countNeeded_42 ?_
          refine lv_istore_n (lv' := [(1, .int (lf &&& (r_7 ^^^ (-1)))), (5, .int r_7), (0, .ref k), (2, .int (nI q)), (3, .int (nI en)), (4, .int (nI i))]) hx hb d_SK_countNeeded_43 rfl hl (by decide) rfl (fun ls hl => ?_)
          refine lv_iinc (v := (nI (q + 1))) (lv' := [(2, .int (nI (q + 1))), (1, .int (lf &&& (r_7 ^^^ (-1)))), (5, .int r_7), (0, .ref k), (3, .int (nI en)), (4, .int (nI i))]) hx hb d_SK_countNeeded_44 hl (k := 3) rfl (nI_1 _) (by decide) rfl (fun ls hl => ?_)
          refine lv_iload_n hx hb d_SK_countNeeded_47 rfl (lv_at hl 4 rfl) ?_
          refine lv_iconst (v := (nI 0)) hx hb d_SK_countNeeded_48 (by decide) ?_
          refine lv_iconst (v := (nI 2)) hx hb d_SK_countNeeded_49 (by decide) ?_
          refine lv_aload_n hx hb d_SK_countNeeded_50 rfl (lv_at hl 3 rfl) ?_
          refine lv_iload hx hb d_SK_countNeeded_51 (lv_at hl 2 rfl) ?_
          refine vp_callSl (va_Run.run (k_V (n := 1) (C := R_SK) (rest := [.int (nI 2), .int (nI 0), .int (nI en)]) ⟨hx, hb, hml, hown, hts⟩ (c_SK_arcsAt l dC dI cI cJ cZ k nr fr rs at_ h al br A r_7) wml_SK_88 wim_SK_arcsAt wsel_SK_arcsAt wini_SK wcode_SK_arcsAt (by decide +kernel) ⟨Nat.le_of_ble_eq_true rfl, Nat.le_of_ble_eq_true rfl⟩ (preV_R (q := (R_SK, F_SK, 7)) (ci := 2) (q0 := 0) (hP.sub (ws' := [(k, .inr (2, [.ref nr, .ref fr, .ref rs, .ref at_, .ref h, .int al, .long br])), (at_, .inl (cJ, 14, .inr (.inl A)))]) [0, 2] rfl) hK rfl rfl) rfl hl.1 rfl (Nat.le_of_ble_eq_true rfl) d_SK_countNeeded_53 ⟨Nat.zero_le _, Nat.zero_le _⟩)) (fun r_9 hr_10 => ?_)
          refine lv_aload_n hx hb d_SK_countNeeded_56 rfl (lv_at hl 3 rfl) ?_
          refine va_get (D := (dC, dI)) (ci := 2) (v := .long br) (C := R_SK) (T := F_SK) (N := 7) hx hb hts in_SK hown hK.1 hP 0 rfl rfl 6 (by decide) (hts _ wfl_SK_56) (fun _ h9 => h9) rfl d_SK_countNeeded_57 ?_
          refine lv_land hx hb d_SK_countNeeded_60 ?_
          refine vp_callSi (va_Run.run (k_S (n := 1) (rest := [.int (nI 2), .int (nI 0), .int (nI en)]) ⟨hx, hb, hml, hown, hts⟩ (c_JL_bitCount l dC dI cI cJ cZ (r_9 &&& br)) wml_SK_102 wst_JL_bitCount wini_JL wcode_JL_bitCount (by decide +kernel) ⟨Nat.le_of_ble_eq_true rfl, Nat.le_of_ble_eq_true rfl⟩ (pre_R (hP.sub (ws' := []) [] rfl) hK) rfl hl.1 rfl (Nat.le_of_ble_eq_true rfl) d_SK_countNeeded_61 ⟨Nat.zero_le _, Nat.zero_le _⟩)) (fun r_11 hr_12 => ?_)
          refine xe_i (y := (nI (cn (lb (r_9 &&& br)) 64))) hr_12 ?_
          refine lv_isub hx hb d_SK_countNeeded_64 ?_
          refine va_mmax hx hb (hml.trans hl.1.symm) hown (hts _ wml_SK_122) (hts _ wst_JM_max) (hts _ wini_JM) (hts _ wcode_JM_max) (Nat.le_of_ble_eq_true rfl) (Nat.le_of_ble_eq_true rfl) (Nat.zero_le _) (Nat.zero_le _) d_SK_countNeeded_65 ?_
          refine xe_i (y := (nI (2 - (cn (lb (r_9 &&& br)) 64)))) (mx2 _ (Nat.lt_of_le_of_lt (cn_le _ _) (by decide))) ?_
          refine lv_iadd hx hb d_SK_countNeeded_68 ?_
          refine xe_i (nI_add _ _) ?_
          refine lv_istore_n (lv' := [(3, .int (nI (en + (2 - (cn (lb (r_9 &&& br)) 64))))), (2, .int (nI (q + 1))), (1, .int (lf &&& (r_7 ^^^ (-1)))), (5, .int r_7), (0, .ref k), (4, .int (nI i))]) hx hb d_SK_countNeeded_69 rfl hl (by decide) rfl (fun ls hl => ?_)
          refine lv_iinc (v := (nI (i + 1))) (lv' := [(4, .int (nI (i + 1))), (3, .int (nI (en + (2 - (cn (lb (r_9 &&& br)) 64))))), (2, .int (nI (q + 1))), (1, .int (lf &&& (r_7 ^^^ (-1)))), (5, .int r_7), (0, .ref k)]) hx hb d_SK_countNeeded_70 hl (k := 5) rfl (nI_1 _) (by decide) rfl (fun ls hl => ?_)
          refine lv_goto (tgt := 12) hx hb d_SK_countNeeded_73 (by decide) ?_
          exact ih_12 (lf &&& (r_7 ^^^ (-1))) (q + 1) (en + (2 - (cn (lb (r_9 &&& br)) 64))) (i + 1) (by omega) (by first | assumption | omega) (lfI_t hj c_6 hr_8) (cn_t hq (by rw [lfI_l hj]; exact c_6)) (sm_s hs (by unfold wnt; rw [lfI_l hj, c_6, dg_eq hr_8 hr_10]; rfl)) ls (lv_sub hl [5, 3, 2, 1, 0] rfl)
  exact L12_1 ((14 - 0) + 1) al 0 0 0 (Nat.lt_succ_self _) (by first | assumption | omega) (lfI_0 Fm al) rfl rfl ls (lv_sub hl [4, 3, 2, 1, 0] rfl)

theorem d_SK_thinNode_0 : decode prog_6_method_17_code 0 = .ok (.iconst 0, 1) := by decide +kernel
theorem d_SK_thinNode_1 : decode prog_6_method_17_code 1 = .ok (.istore_n 2, 1) := by decide +kernel
theorem d_SK_thinNode_2 : decode prog_6_method_17_code 2 = .ok (.iload_n 2, 1) := by decide +kernel
theorem d_SK_thinNode_3 : decode prog_6_method_17_code 3 = .ok (.bipush 14, 2) := by decide +kernel
theorem d_SK_thinNode_5 : decode prog_6_method_17_code 5 = .ok (.if_icmp .ge 35, 3) := by decide +kernel
theorem d_SK_thinNode_8 : decode prog_6_method_17_code 8 = .ok (.iload_n 1, 1) := by decide +kernel
theorem d_SK_thinNode_9 : decode prog_6_method_17_code 9 = .ok (.i2l, 1) := by decide +kernel
theorem d_SK_thinNode_10 : decode prog_6_method_17_code 10 = .ok (.iload_n 2, 1) := by decide +kernel
theorem d_SK_thinNode_11 : decode prog_6_method_17_code 11 = .ok (.invokestatic 68, 3) := by decide +kernel
theorem d_SK_thinNode_14 : decode prog_6_method_17_code 14 = .ok (.ifCond .eq 20, 3) := by decide +kernel
theorem d_SK_thinNode_17 : decode prog_6_method_17_code 17 = .ok (.aload_n 0, 1) := by decide +kernel
theorem d_SK_thinNode_18 : decode prog_6_method_17_code 18 = .ok (.getfield 18, 3) := by decide +kernel
theorem d_SK_thinNode_21 : decode prog_6_method_17_code 21 = .ok (.iload_n 2, 1) := by decide +kernel
theorem d_SK_thinNode_22 : decode prog_6_method_17_code 22 = .ok (.iaload, 1) := by decide +kernel
theorem d_SK_thinNode_23 : decode prog_6_method_17_code 23 = .ok (.iload_n 1, 1) := by decide +kernel
theorem d_SK_thinNode_24 : decode prog_6_method_17_code 24 = .ok (.iand, 1) := by decide +kernel
theorem d_SK_thinNode_25 : decode prog_6_method_17_code 25 = .ok (.invokestatic 141, 3) := by decide +kernel
theorem d_SK_thinNode_28 : decode prog_6_method_17_code 28 = .ok (.iconst 2, 1) := by decide +kernel
theorem d_SK_thinNode_29 : decode prog_6_method_17_code 29 = .ok (.if_icmp .gt 5, 3) := by decide +kernel
theorem d_SK_thinNode_32 : decode prog_6_method_17_code 32 = .ok (.iload_n 2, 1) := by decide +kernel
theorem d_SK_thinNode_33 : decode prog_6_method_17_code 33 = .ok (.ireturn, 1) := by decide +kernel
theorem d_SK_thinNode_34 : decode prog_6_method_17_code 34 = .ok (.iinc 2 1, 3) := by decide +kernel
theorem d_SK_thinNode_37 : decode prog_6_method_17_code 37 = .ok (.goto (-35), 3) := by decide +kernel
theorem d_SK_thinNode_40 : decode prog_6_method_17_code 40 = .ok (.iconst (-1), 1) := by decide +kernel
theorem d_SK_thinNode_41 : decode prog_6_method_17_code 41 = .ok (.ireturn, 1) := by decide +kernel
set_option maxHeartbeats 4000000 in
set_option maxRecDepth 100000 in
theorem c_SK_thinNode (l : Launch) (dC : Nat → ClassId) (dI : Nat → Nat → Nat) (cI cJ cZ : ClassId) (k nr fr rs at_ h : Nat) (al : Int32) (br : Int64) (R : Nat → Int32) (lf : Int32) : Met l ⟨"CutPoints$Sketch", "thinNode", "(I)I"⟩ (Cond.code ⟨"CutPoints$Sketch", "thinNode", "(I)I"⟩ prog_6_method_17_code 3 (some .int) :: TT) (rmk 1 22) (PR dC dI cI cJ cZ [.ref k, .int lf] [(k, .inr (2, [.ref nr, .ref fr, .ref rs, .ref at_, .ref h, .int al, .long br])), (rs, .inl (cI, 14, .inl R))]) (vp_Si (fun y => (y = -1 ∧ thI lf R 14) ∨ ∃ v, v < 14 ∧ y = nI v ∧ bt lf v = true ∧ cn (bt (R v &&& lf)) 32 ≤ 2)) 0 0 (fun _ => False) := by
  refine Met.ofW (cc := prog_6_method_17_code) (maxL := 3) (ret := (some .int)) (by decide) rfl ?_
  intro p e s m args below meth c s₁ B hml hv
  obtain ⟨rfl, hP, hK⟩ := hv
  have hx := B.exec
  have hb := B.bytes
  have hr := B.returns
  have hts : ∀ w ∈ TT, w.before _ s = true := fun w h => atoms_spec (ws := (Cond.code ⟨"CutPoints$Sketch", "thinNode", "(I)I"⟩ prog_6_method_17_code 3 (some .int) :: TT)) B.pre w (List.mem_cons_of_mem _ h)
  have hown : s.vm.findClass "CutPoints$Sketch" = some m.cls := findClass_of_methodNamed B.named
  have hlocks := B.notSynchronized
  have hl := lv_entry ([.ref k, .int lf]) (n := 3) (Nat.le_of_ble_eq_true rfl)
  rw [lg_entry_eq]
  generalize (lg_sl ([.ref k, .int lf]) ++ List.replicate (3 - (lg_sl ([.ref k, .int lf])).length) Slot.unset).toArray = ls at hl ⊢
  have hl : lv_has ls 3 [(0, .ref k), (1, .int lf)] := hl
  refine lv_iconst (v := (nI 0)) hx hb d_SK_thinNode_0 (by decide) ?_
  refine lv_istore_n (lv' := [(2, .int (nI 0)), (0, .ref k), (1, .int lf)]) hx hb d_SK_thinNode_1 rfl hl (by decide) rfl (fun ls hl => ?_)
  have L2_1 : ∀ (n : Nat) (i : Nat) (hn : 14 - i < n) (hi : i ≤ 14) (hn : thI lf R i) (ls : Array Slot) (hl : lv_has ls 3 [(0, .ref k), (1, .int lf), (2, .int (nI i))]), W p l e (headSpec (Cond.code ⟨"CutPoints$Sketch", "thinNode", "(I)I"⟩ prog_6_method_17_code 3 (some .int) :: TT) (rmk 1 22)).room s m ([.ref k, .int lf] : List Value).toArray below meth c s.heap [] 0 0 (MQ below (vp_Si (fun y => (y = -1 ∧ thI lf R 14) ∨ ∃ v, v < 14 ∧ y = nI v ∧ bt lf v = true ∧ cn (bt (R v &&& lf)) 32 ≤ 2)) ([.ref k, .int lf] : List Value).toArray s 0 0 (fun _ => False)) (F0 m 2 ls []) := by
    intro n_2
    induction n_2 with
    | zero =>
      intro i hn_2
      exact absurd hn_2 (Nat.not_lt_zero _)
    | succ n_2 ih_2 =>
      intro i hn_2 hi hn ls hl
      refine lv_iload_n hx hb d_SK_thinNode_2 rfl (lv_at hl 2 rfl) ?_
      refine lv_bipush (v := (nI 14)) hx hb d_SK_thinNode_3 (by decide) ?_
      refine x_cmp_ge (a := i) (b := 14) (tgt := 40) hx hb (by omega) (by omega) d_SK_thinNode_5 (by decide) (fun c_2 => ?_) (fun c_2 => ?_)
      · skip
        refine lv_iconst (v := (-1)) hx hb d_SK_thinNode_40 (by decide) ?_
        exact W.iret (v := (-1)) hx hb hr (fun t ht _ => ⟨_, rfl, (Or.inl ⟨rfl, by have e9 : i = 14 := (by omega); subst e9; exact hn⟩), ht⟩) t_nil d_SK_thinNode_41
      · skip
        refine lv_iload_n hx hb d_SK_thinNode_8 rfl (lv_at hl 1 rfl) ?_
        refine lv_i2l (v := lf.toInt64) hx hb d_SK_thinNode_9 rfl ?_
        refine lv_iload_n hx hb d_SK_thinNode_10 rfl (lv_at hl 2 rfl) ?_
        refine vp_callSi (va_Run.run (k_SN (n := 2) (rest := []) ⟨hx, hb, hml, hown, hts⟩ (c_CP_hasBit l dC dI cI cJ cZ lf.toInt64 i (by first | assumption | omega)) hK wmn_SK_68 wst_CP_hasBit wini_CP wcode_CP_hasBit (by decide +kernel) ⟨Nat.le_of_ble_eq_true rfl, Nat.le_of_ble_eq_true rfl⟩ (pre_R (hP.sub (ws' := []) [] rfl) hK) rfl hl.1 rfl (Nat.le_of_ble_eq_true rfl) d_SK_thinNode_11 ⟨Nat.zero_le _, Nat.zero_le _⟩)) (fun r_3 hr_4 => ?_)
        refine xe_i (y := (bI (lb lf.toInt64 i))) hr_4 ?_
        refine xe_i (y := (bI (bt lf i))) (by rw [lb_i2l _ (by omega)]) ?_
        refine x_if_eq (tgt := 34) hx hb d_SK_thinNode_14 (by decide) (fun c_5 => ?_) (fun c_5 => ?_)
        · skip
          refine lv_iinc (v := (nI (i + 1))) (lv' := [(2, .int (nI (i + 1))), (0, .ref k), (1, .int lf)]) hx hb d_SK_thinNode_34 hl (k := 2) rfl (nI_1 _) (by decide) rfl (fun ls hl => ?_)
          refine lv_goto (tgt := 2) hx hb d_SK_thinNode_37 (by decide) ?_
          exact ih_2 (i + 1) (by omega) (by first | assumption | omega) (lt_s hn (fun q9 => by rw [c_5] at q9; cases q9.1)) ls (lv_sub hl [1, 2, 0] rfl)
        · skip
          refine lv_aload_n hx hb d_SK_thinNode_17 rfl (lv_at hl 0 rfl) ?_
          refine va_get (D := (dC, dI)) (ci := 2) (v := .ref rs) (C := R_SK) (T := F_SK) (N := 7) hx hb hts in_SK hown hK.1 hP 0 rfl rfl 2 (by decide) (hts _ wfl_SK_18) (fun _ h9 => h9) rfl d_SK_thinNode_18 ?_
          refine lv_iload_n hx hb d_SK_thinNode_21 rfl (lv_at hl 2 rfl) ?_
          refine x_iald (n := 14) (f := R) (j := i) hx hb hK.1 hP 1 0 rfl rfl (by omega) (by omega) d_SK_thinNode_22 ?_
          refine lv_iload_n hx hb d_SK_thinNode_23 rfl (lv_at hl 1 rfl) ?_
          refine lv_iand hx hb d_SK_thinNode_24 ?_
          refine vp_callSi (va_Run.run (k_S (n := 1) (rest := []) ⟨hx, hb, hml, hown, hts⟩ (c_JI_bitCount l dC dI cI cJ cZ ((R i) &&& lf)) wml_SK_141 wst_JI_bitCount wini_JI wcode_JI_bitCount (by decide +kernel) ⟨Nat.le_of_ble_eq_true rfl, Nat.le_of_ble_eq_true rfl⟩ (pre_R (hP.sub (ws' := []) [] rfl) hK) rfl hl.1 rfl (Nat.le_of_ble_eq_true rfl) d_SK_thinNode_25 ⟨Nat.zero_le _, Nat.zero_le _⟩)) (fun r_6 hr_7 => ?_)
          refine xe_i (y := (nI (cn (bt ((R i) &&& lf)) 32))) hr_7 ?_
          refine lv_iconst (v := (nI 2)) hx hb d_SK_thinNode_28 (by decide) ?_
          refine x_cmp_gt (a := (cn (bt ((R i) &&& lf)) 32)) (b := 2) (tgt := 34) hx hb (Nat.lt_of_le_of_lt (cn_le _ _) (by decide)) (by omega) d_SK_thinNode_29 (by decide) (fun c_8 => ?_) (fun c_8 => ?_)
          · skip
            refine lv_iinc (v := (nI (i + 1))) (lv' := [(2, .int (nI (i + 1))), (0, .ref k), (1, .int lf)]) hx hb d_SK_thinNode_34 hl (k := 2) rfl (nI_1 _) (by decide) rfl (fun ls hl => ?_)
            refine lv_goto (tgt := 2) hx hb d_SK_thinNode_37 (by decide) ?_
            exact ih_2 (i + 1) (by omega) (by first | assumption | omega) (lt_s hn (fun q9 => absurd q9.2 (by omega))) ls (lv_sub hl [1, 2, 0] rfl)
          · skip
            refine lv_iload_n hx hb d_SK_thinNode_32 rfl (lv_at hl 2 rfl) ?_
            exact W.iret (v := (nI i)) hx hb hr (fun t ht _ => ⟨_, rfl, (Or.inr ⟨i, by omega, rfl, c_5, by omega⟩), ht⟩) t_nil d_SK_thinNode_33
  exact L2_1 ((14 - 0) + 1) 0 (Nat.lt_succ_self _) (by first | assumption | omega) (fun v hv => absurd hv (Nat.not_lt_zero _)) ls (lv_sub hl [1, 2, 0] rfl)

theorem d_SK_linkAll_0 : decode prog_6_method_18_code 0 = .ok (.iconst 0, 1) := by decide +kernel
theorem d_SK_linkAll_1 : decode prog_6_method_18_code 1 = .ok (.istore_n 2, 1) := by decide +kernel
theorem d_SK_linkAll_2 : decode prog_6_method_18_code 2 = .ok (.iload_n 2, 1) := by decide +kernel
theorem d_SK_linkAll_3 : decode prog_6_method_18_code 3 = .ok (.bipush 14, 2) := by decide +kernel
theorem d_SK_linkAll_5 : decode prog_6_method_18_code 5 = .ok (.if_icmp .ge 34, 3) := by decide +kernel
theorem d_SK_linkAll_8 : decode prog_6_method_18_code 8 = .ok (.iload_n 1, 1) := by decide +kernel
theorem d_SK_linkAll_9 : decode prog_6_method_18_code 9 = .ok (.i2l, 1) := by decide +kernel
theorem d_SK_linkAll_10 : decode prog_6_method_18_code 10 = .ok (.iload_n 2, 1) := by decide +kernel
theorem d_SK_linkAll_11 : decode prog_6_method_18_code 11 = .ok (.invokestatic 68, 3) := by decide +kernel
theorem d_SK_linkAll_14 : decode prog_6_method_18_code 14 = .ok (.ifCond .eq 19, 3) := by decide +kernel
theorem d_SK_linkAll_17 : decode prog_6_method_18_code 17 = .ok (.aload_n 0, 1) := by decide +kernel
theorem d_SK_linkAll_18 : decode prog_6_method_18_code 18 = .ok (.getfield 18, 3) := by decide +kernel
theorem d_SK_linkAll_21 : decode prog_6_method_18_code 21 = .ok (.iload_n 2, 1) := by decide +kernel
theorem d_SK_linkAll_22 : decode prog_6_method_18_code 22 = .ok (.dup2, 1) := by decide +kernel
theorem d_SK_linkAll_23 : decode prog_6_method_18_code 23 = .ok (.iaload, 1) := by decide +kernel
theorem d_SK_linkAll_24 : decode prog_6_method_18_code 24 = .ok (.iload_n 1, 1) := by decide +kernel
theorem d_SK_linkAll_25 : decode prog_6_method_18_code 25 = .ok (.iconst 1, 1) := by decide +kernel
theorem d_SK_linkAll_26 : decode prog_6_method_18_code 26 = .ok (.iload_n 2, 1) := by decide +kernel
theorem d_SK_linkAll_27 : decode prog_6_method_18_code 27 = .ok (.ishl, 1) := by decide +kernel
theorem d_SK_linkAll_28 : decode prog_6_method_18_code 28 = .ok (.iconst (-1), 1) := by decide +kernel
theorem d_SK_linkAll_29 : decode prog_6_method_18_code 29 = .ok (.ixor, 1) := by decide +kernel
theorem d_SK_linkAll_30 : decode prog_6_method_18_code 30 = .ok (.iand, 1) := by decide +kernel
theorem d_SK_linkAll_31 : decode prog_6_method_18_code 31 = .ok (.ior, 1) := by decide +kernel
theorem d_SK_linkAll_32 : decode prog_6_method_18_code 32 = .ok (.iastore, 1) := by decide +kernel
theorem d_SK_linkAll_33 : decode prog_6_method_18_code 33 = .ok (.iinc 2 1, 3) := by decide +kernel
theorem d_SK_linkAll_36 : decode prog_6_method_18_code 36 = .ok (.goto (-34), 3) := by decide +kernel
theorem d_SK_linkAll_39 : decode prog_6_method_18_code 39 = .ok (.return_, 1) := by decide +kernel
set_option maxHeartbeats 4000000 in
set_option maxRecDepth 100000 in
theorem c_SK_linkAll (l : Launch) (dC : Nat → ClassId) (dI : Nat → Nat → Nat) (cI cJ cZ : ClassId) (k nr fr rs at_ h : Nat) (al : Int32) (br : Int64) (R : Nat → Int32) (so : Int32) : Met l ⟨"CutPoints$Sketch", "linkAll", "(I)V"⟩ (Cond.code ⟨"CutPoints$Sketch", "linkAll", "(I)V"⟩ prog_6_method_18_code 3 none :: TT) (rmk 1 22) (PM dC dI cI cJ cZ [.ref k, .int so] [(k, .inr (2, [.ref nr, .ref fr, .ref rs, .ref at_, .ref h, .int al, .long br])), (rs, .inl (cI, 14, .inl R))]) (va_Qv (S := Nat → Int32) (fun u => lkI R so u 14) (fun u t => va_P (dC, dI) cls ([(k, .inr (2, [.ref nr, .ref fr, .ref rs, .ref at_, .ref h, .int al, .long br])), (rs, .inl (cI, 14, .inl u))]) t.heap) (ow [(k, .inr (2, [.ref nr, .ref fr, .ref rs, .ref at_, .ref h, .int al, .long br])), (rs, .inl (cI, 14, .inl R))])) 0 0 (ow [(k, .inr (2, [.ref nr, .ref fr, .ref rs, .ref at_, .ref h, .int al, .long br])), (rs, .inl (cI, 14, .inl R))]) := by
  refine Met.ofW (cc := prog_6_method_18_code) (maxL := 3) (ret := none) (by decide) rfl ?_
  intro p e s m args below meth c s₁ B hml hv
  obtain ⟨rfl, hP, hK, hD0⟩ := hv
  have hx := B.exec
  have hb := B.bytes
  have hr := B.returns
  have hts : ∀ w ∈ TT, w.before _ s = true := fun w h => atoms_spec (ws := (Cond.code ⟨"CutPoints$Sketch", "linkAll", "(I)V"⟩ prog_6_method_18_code 3 none :: TT)) B.pre w (List.mem_cons_of_mem _ h)
  have hown : s.vm.findClass "CutPoints$Sketch" = some m.cls := findClass_of_methodNamed B.named
  have hlocks := B.notSynchronized
  have hD := hD0.mine
  have hS : va_S (ow [(k, .inr (2, [.ref nr, .ref fr, .ref rs, .ref at_, .ref h, .int al, .long br])), (rs, .inl (cI, 14, .inl R))]) s.heap s.heap [] := va_S.rf
  have hl := lv_entry ([.ref k, .int so]) (n := 3) (Nat.le_of_ble_eq_true rfl)
  rw [lg_entry_eq]
  generalize (lg_sl ([.ref k, .int so]) ++ List.replicate (3 - (lg_sl ([.ref k, .int so])).length) Slot.unset).toArray = ls at hl ⊢
  have hl : lv_has ls 3 [(0, .ref k), (1, .int so)] := hl
  refine lv_iconst (v := (nI 0)) hx hb d_SK_linkAll_0 (by decide) ?_
  refine lv_istore_n (lv' := [(2, .int (nI 0)), (0, .ref k), (1, .int so)]) hx hb d_SK_linkAll_1 rfl hl (by decide) rfl (fun ls hl => ?_)
  have L2_1 : ∀ (n : Nat) (R2 : Nat → Int32) (i : Nat) (hn : 14 - i < n) (hi : i ≤ 14) (hn : lkI R so R2 i) (H : Heap) (locs : List Loc) (hP : va_P (dC, dI) cls [(k, .inr (2, [.ref nr, .ref fr, .ref rs, .ref at_, .ref h, .int al, .long br])), (rs, .inl (cI, 14, .inl R2))] H) (hD : va_D (ow [(k, .inr (2, [.ref nr, .ref fr, .ref rs, .ref at_, .ref h, .int al, .long br])), (rs, .inl (cI, 14, .inl R))]) [(k, .inr (2, [.ref nr, .ref fr, .ref rs, .ref at_, .ref h, .int al, .long br])), (rs, .inl (cI, 14, .inl R2))]) (hS : va_S (ow [(k, .inr (2, [.ref nr, .ref fr, .ref rs, .ref at_, .ref h, .int al, .long br])), (rs, .inl (cI, 14, .inl R))]) s.heap H locs) (ls : Array Slot) (hl : lv_has ls 3 [(0, .ref k), (1, .int so), (2, .int (nI i))]), W p l e (headSpec (Cond.code ⟨"CutPoints$Sketch", "linkAll", "(I)V"⟩ prog_6_method_18_code 3 none :: TT) (rmk 1 22)).room s m ([.ref k, .int so] : List Value).toArray below meth c H locs 0 0 (MQ below (va_Qv (S := Nat → Int32) (fun u => lkI R so u 14) (fun u t => va_P (dC, dI) cls ([(k, .inr (2, [.ref nr, .ref fr, .ref rs, .ref at_, .ref h, .int al, .long br])), (rs, .inl (cI, 14, .inl u))]) t.heap) (ow [(k, .inr (2, [.ref nr, .ref fr, .ref rs, .ref at_, .ref h, .int al, .long br])), (rs, .inl (cI, 14, .inl R))])) ([.ref k, .int so] : List Value).toArray s 0 0 (ow [(k, .inr (2, [.ref nr, .ref fr, .ref rs, .ref at_, .ref h, .int al, .long br])), (rs, .inl (cI, 14, .inl R))])) (F0 m 2 ls []) := by
    intro n_2
    induction n_2 with
    | zero =>
      intro R2 i hn_2
      exact absurd hn_2 (Nat.not_lt_zero _)
    | succ n_2 ih_2 =>
      intro R2 i hn_2 hi hn H locs hP hD hS ls hl
      refine lv_iload_n hx hb d_SK_linkAll_2 rfl (lv_at hl 2 rfl) ?_
      refine lv_bipush (v := (nI 14)) hx hb d_SK_linkAll_3 (by decide) ?_
      refine x_cmp_ge (a := i) (b := 14) (tgt := 39) hx hb (by omega) (by omega) d_SK_linkAll_5 (by decide) (fun c_2 => ?_) (fun c_2 => ?_)
      · skip
        exact W.vret hx hb hr (fun t ht _ => ⟨⟨(R2), rfl, (by have e9 : i = 14 := (by omega); subst e9; exact hn), by show va_P (dC, dI) cls _ t.heap; rw [ht]; exact hP⟩, hS.F ht⟩) hS.2.2 d_SK_linkAll_39
      · skip
        refine lv_iload_n hx hb d_SK_linkAll_8 rfl (lv_at hl 1 rfl) ?_
        refine lv_i2l (v := so.toInt64) hx hb d_SK_linkAll_9 rfl ?_
        refine lv_iload_n hx hb d_SK_linkAll_10 rfl (lv_at hl 2 rfl) ?_
        refine vp_callSi (va_Run.run (k_SN (n := 2) (rest := []) ⟨hx, hb, hml, hown, hts⟩ (c_CP_hasBit l dC dI cI cJ cZ so.toInt64 i (by first | assumption | omega)) hK wmn_SK_68 wst_CP_hasBit wini_CP wcode_CP_hasBit (by decide +kernel) ⟨Nat.le_of_ble_eq_true rfl, Nat.le_of_ble_eq_true rfl⟩ (pre_R (hP.sub (ws' := []) [] rfl) hK) rfl hl.1 rfl (Nat.le_of_ble_eq_true rfl) d_SK_linkAll_11 ⟨Nat.zero_le _, Nat.zero_le _⟩)) (fun r_3 hr_4 => ?_)
        refine xe_i (y := (bI (lb so.toInt64 i))) hr_4 ?_
        refine xe_i (y := (bI (bt so i))) (by rw [lb_i2l _ (by omega)]) ?_
        refine x_if_eq (tgt := 33) hx hb d_SK_linkAll_14 (by decide) (fun c_5 => ?_) (fun c_5 => ?_)
        · skip
          refine lv_iinc (v := (nI (i + 1))) (lv' := [(2, .int (nI (i + 1))), (0, .ref k), (1, .int so)]) hx hb d_SK_linkAll_33 hl (k := 2) rfl (nI_1 _) (by decide) rfl (fun ls hl => ?_)
          refine lv_goto (tgt := 2) hx hb d_SK_linkAll_36 (by decide) ?_
          exact ih_2 R2 (i + 1) (by omega) (by first | assumption | omega) (lkI_f hn c_5) _ _ hP hD hS ls (lv_sub hl [1, 2, 0] rfl)
        · skip
          refine lv_aload_n hx hb d_SK_linkAll_17 rfl (lv_at hl 0 rfl) ?_
          refine va_get (D := (dC, dI)) (ci := 2) (v := .ref rs) (C := R_SK) (T := F_SK) (N := 7) hx hb hts in_SK hown hK.1 hP 0 rfl rfl 2 (by decide) (hts _ wfl_SK_18) (fun _ h9 => h9) rfl d_SK_linkAll_18 ?_
          refine lv_iload_n hx hb d_SK_linkAll_21 rfl (lv_at hl 2 rfl) ?_
          refine lv_dup2_11 hx hb d_SK_linkAll_22 rfl rfl ?_
          refine x_iald (n := 14) (f := R2) (j := i) hx hb hK.1 hP 1 0 rfl rfl (by omega) (by omega) d_SK_linkAll_23 ?_
          refine lv_iload_n hx hb d_SK_linkAll_24 rfl (lv_at hl 1 rfl) ?_
          refine lv_iconst (v := (nI 1)) hx hb d_SK_linkAll_25 (by decide) ?_
          refine lv_iload_n hx hb d_SK_linkAll_26 rfl (lv_at hl 2 rfl) ?_
          refine lv_ishl hx hb d_SK_linkAll_27 ?_
          refine xe_i (y := (sb i)) rfl ?_
          refine lv_iconst (v := (-1)) hx hb d_SK_linkAll_28 (by decide) ?_
          refine lv_ixor hx hb d_SK_linkAll_29 ?_
          refine lv_iand hx hb d_SK_linkAll_30 ?_
          refine lv_ior hx hb d_SK_linkAll_31 ?_
          refine x_iast (g := (va_up R2 i ((R2 i) ||| (so &&& ((sb i) ^^^ (-1)))))) hx hb hK.1 hP hD hS 1 0 rfl rfl rfl (by omega) (by omega) d_SK_linkAll_32 (fun H locs hP hD hS => ?_)
          have hP : va_P (dC, dI) cls [(k, .inr (2, [.ref nr, .ref fr, .ref rs, .ref at_, .ref h, .int al, .long br])), (rs, .inl (cI, 14, .inl (va_up R2 i ((R2 i) ||| (so &&& ((sb i) ^^^ (-1)))))))] H := hP
          have hD : va_D (ow [(k, .inr (2, [.ref nr, .ref fr, .ref rs, .ref at_, .ref h, .int al, .long br])), (rs, .inl (cI, 14, .inl R))]) [(k, .inr (2, [.ref nr, .ref fr, .ref rs, .ref at_, .ref h, .int al, .long br])), (rs, .inl (cI, 14, .inl (va_up R2 i ((R2 i) ||| (so &&& ((sb i) ^^^ (-1)))))))] := hD
          refine lv_iinc (v := (nI (i + 1))) (lv' := [(2, .int (nI (i + 1))), (0, .ref k), (1, .int so)]) hx hb d_SK_linkAll_33 hl (k := 2) rfl (nI_1 _) (by decide) rfl (fun ls hl => ?_)
          refine lv_goto (tgt := 2) hx hb d_SK_linkAll_36 (by decide) ?_
          exact ih_2 (va_up R2 i ((R2 i) ||| (so &&& ((sb i) ^^^ (-1))))) (i + 1) (by omega) (by first | assumption | omega) (lkI_t (by assumption) hn c_5) _ _ hP hD hS ls (lv_sub hl [1, 2, 0] rfl)
  exact L2_1 ((14 - 0) + 1) R 0 (Nat.lt_succ_self _) (by first | assumption | omega) (lkI_0 R so) _ _ hP hD hS ls (lv_sub hl [1, 2, 0] rfl)
