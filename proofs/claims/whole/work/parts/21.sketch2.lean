theorem d_CP_countPieces_0 : decode prog_1_method_25_code 0 = .ok (.iload_n 1, 1) := by decide +kernel
theorem d_CP_countPieces_1 : decode prog_1_method_25_code 1 = .ok (.istore_n 2, 1) := by decide +kernel
theorem d_CP_countPieces_2 : decode prog_1_method_25_code 2 = .ok (.iconst 0, 1) := by decide +kernel
theorem d_CP_countPieces_3 : decode prog_1_method_25_code 3 = .ok (.istore_n 3, 1) := by decide +kernel
theorem d_CP_countPieces_4 : decode prog_1_method_25_code 4 = .ok (.iconst 0, 1) := by decide +kernel
theorem d_CP_countPieces_5 : decode prog_1_method_25_code 5 = .ok (.istore 4, 2) := by decide +kernel
theorem d_CP_countPieces_7 : decode prog_1_method_25_code 7 = .ok (.iload 4, 2) := by decide +kernel
theorem d_CP_countPieces_9 : decode prog_1_method_25_code 9 = .ok (.aload_n 0, 1) := by decide +kernel
theorem d_CP_countPieces_10 : decode prog_1_method_25_code 10 = .ok (.arraylength, 1) := by decide +kernel
theorem d_CP_countPieces_11 : decode prog_1_method_25_code 11 = .ok (.if_icmp .ge 34, 3) := by decide +kernel
theorem d_CP_countPieces_14 : decode prog_1_method_25_code 14 = .ok (.iload_n 2, 1) := by decide +kernel
theorem d_CP_countPieces_15 : decode prog_1_method_25_code 15 = .ok (.i2l, 1) := by decide +kernel
theorem d_CP_countPieces_16 : decode prog_1_method_25_code 16 = .ok (.iload 4, 2) := by decide +kernel
theorem d_CP_countPieces_18 : decode prog_1_method_25_code 18 = .ok (.invokestatic 124, 3) := by decide +kernel
theorem d_CP_countPieces_21 : decode prog_1_method_25_code 21 = .ok (.ifCond .eq 18, 3) := by decide +kernel
theorem d_CP_countPieces_24 : decode prog_1_method_25_code 24 = .ok (.iload_n 2, 1) := by decide +kernel
theorem d_CP_countPieces_25 : decode prog_1_method_25_code 25 = .ok (.aload_n 0, 1) := by decide +kernel
theorem d_CP_countPieces_26 : decode prog_1_method_25_code 26 = .ok (.iload 4, 2) := by decide +kernel
theorem d_CP_countPieces_28 : decode prog_1_method_25_code 28 = .ok (.iload_n 1, 1) := by decide +kernel
theorem d_CP_countPieces_29 : decode prog_1_method_25_code 29 = .ok (.invokestatic 190, 3) := by decide +kernel
theorem d_CP_countPieces_32 : decode prog_1_method_25_code 32 = .ok (.iconst (-1), 1) := by decide +kernel
theorem d_CP_countPieces_33 : decode prog_1_method_25_code 33 = .ok (.ixor, 1) := by decide +kernel
theorem d_CP_countPieces_34 : decode prog_1_method_25_code 34 = .ok (.iand, 1) := by decide +kernel
theorem d_CP_countPieces_35 : decode prog_1_method_25_code 35 = .ok (.istore_n 2, 1) := by decide +kernel
theorem d_CP_countPieces_36 : decode prog_1_method_25_code 36 = .ok (.iinc 3 1, 3) := by decide +kernel
theorem d_CP_countPieces_39 : decode prog_1_method_25_code 39 = .ok (.iinc 4 1, 3) := by decide +kernel
theorem d_CP_countPieces_42 : decode prog_1_method_25_code 42 = .ok (.goto (-35), 3) := by decide +kernel
theorem d_CP_countPieces_45 : decode prog_1_method_25_code 45 = .ok (.iload_n 3, 1) := by decide +kernel
theorem d_CP_countPieces_46 : decode prog_1_method_25_code 46 = .ok (.ireturn, 1) := by decide +kernel
set_option maxHeartbeats 4000000 in
set_option maxRecDepth 100000 in
theorem c_CP_countPieces (l : Launch) (dC : Nat → ClassId) (dI : Nat → Nat → Nat) (cI cJ cZ : ClassId) (a : Nat) (r : Nat → Int32) (w : Int32) (hrw : ∀ a b, rE r w a b → b < 14) : Met l ⟨"CutPoints", "countPieces", "([II)I"⟩ (Cond.code ⟨"CutPoints", "countPieces", "([II)I"⟩ prog_1_method_25_code 5 (some .int) :: TT) (rmk 2 48) (PR dC dI cI cJ cZ [.ref a, .int w] [(a, .inl (cI, 14, .inl r))]) (vp_Si (fun x => x = nI (cn (lead r w) 14))) 0 0 (fun _ => False) := by
  refine Met.ofW (cc := prog_1_method_25_code) (maxL := 5) (ret := (some .int)) (by decide) rfl ?_
  intro p e s m args below meth c s₁ B hml hv
  obtain ⟨rfl, hP, hK⟩ := hv
  have hx := B.exec
  have hb := B.bytes
  have hr := B.returns
  have hts : ∀ w ∈ TT, w.before _ s = true := fun w h => atoms_spec (ws := (Cond.code ⟨"CutPoints", "countPieces", "([II)I"⟩ prog_1_method_25_code 5 (some .int) :: TT)) B.pre w (List.mem_cons_of_mem _ h)
  have hown : s.vm.findClass "CutPoints" = some m.cls := findClass_of_methodNamed B.named
  have hlocks := B.notSynchronized
  have hl := lv_entry ([.ref a, .int w]) (n := 5) (Nat.le_of_ble_eq_true rfl)
  rw [lg_entry_eq]
  generalize (lg_sl ([.ref a, .int w]) ++ List.replicate (5 - (lg_sl ([.ref a, .int w])).length) Slot.unset).toArray = ls at hl ⊢
  have hl : lv_has ls 5 [(0, .ref a), (1, .int w)] := hl
  refine lv_iload_n hx hb d_CP_countPieces_0 rfl (lv_at hl 1 rfl) ?_
  refine lv_istore_n (lv' := [(2, .int w), (0, .ref a), (1, .int w)]) hx hb d_CP_countPieces_1 rfl hl (by decide) rfl (fun ls hl => ?_)
  refine lv_iconst (v := (nI 0)) hx hb d_CP_countPieces_2 (by decide) ?_
  refine lv_istore_n (lv' := [(3, .int (nI 0)), (2, .int w), (0, .ref a), (1, .int w)]) hx hb d_CP_countPieces_3 rfl hl (by decide) rfl (fun ls hl => ?_)
  refine lv_iconst (v := (nI 0)) hx hb d_CP_countPieces_4 (by decide) ?_
  refine lv_istore (lv' := [(4, .int (nI 0)), (3, .int (nI 0)), (2, .int w), (0, .ref a), (1, .int w)]) hx hb d_CP_countPieces_5 hl (by decide) rfl (fun ls hl => ?_)
  have L7_1 : ∀ (n : Nat) (lf : Int32) (q : Nat) (i : Nat) (hn : 14 - i < n) (hi : i ≤ 14) (hj : lfI r w lf i) (hq : q = cn (lead r w) i) (ls : Array Slot) (hl : lv_has ls 5 [(0, .ref a), (1, .int w), (2, .int lf), (3, .int (nI q)), (4, .int (nI i))]), W p l e (headSpec (Cond.code ⟨"CutPoints", "countPieces", "([II)I"⟩ prog_1_method_25_code 5 (some .int) :: TT) (rmk 2 48)).room s m ([.ref a, .int w] : List Value).toArray below meth c s.heap [] 0 0 (MQ below (vp_Si (fun x => x = nI (cn (lead r w) 14))) ([.ref a, .int w] : List Value).toArray s 0 0 (fun _ => False)) (F0 m 7 ls []) := by
    intro n_7
    induction n_7 with
    | zero =>
      intro lf q i hn_7
      exact absurd hn_7 (Nat.not_lt_zero _)
    | succ n_7 ih_7 =>
      intro lf q i hn_7 hi hj hq ls hl
      refine lv_iload hx hb d_CP_countPieces_7 (lv_at hl 4 rfl) ?_
      refine lv_aload_n hx hb d_CP_countPieces_9 rfl (lv_at hl 0 rfl) ?_
      refine va_alen (v := nI 14) hx hb hK.1 hP 0 0 rfl rfl rfl d_CP_countPieces_10 ?_
      refine x_cmp_ge (a := i) (b := 14) (tgt := 45) hx hb (by omega) (by omega) d_CP_countPieces_11 (by decide) (fun c_2 => ?_) (fun c_2 => ?_)
      · skip
        refine lv_iload_n hx hb d_CP_countPieces_45 rfl (lv_at hl 3 rfl) ?_
        exact W.iret (v := (nI q)) hx hb hr (fun t ht _ => ⟨_, rfl, (by have e9 : i = 14 := (by omega); subst e9; rw [hq]), ht⟩) t_nil d_CP_countPieces_46
      · skip
        refine lv_iload_n hx hb d_CP_countPieces_14 rfl (lv_at hl 2 rfl) ?_
        refine lv_i2l (v := lf.toInt64) hx hb d_CP_countPieces_15 rfl ?_
        refine lv_iload hx hb d_CP_countPieces_16 (lv_at hl 4 rfl) ?_
        refine vp_callSi (va_Run.run (k_S (n := 2) (rest := []) ⟨hx, hb, hml, hown, hts⟩ (c_CP_hasBit l dC dI cI cJ cZ lf.toInt64 i (by first | assumption | omega)) wml_CP_124 wst_CP_hasBit wini_CP wcode_CP_hasBit (by decide +kernel) ⟨Nat.le_of_ble_eq_true rfl, Nat.le_of_ble_eq_true rfl⟩ (pre_R (hP.sub (ws' := []) [] rfl) hK) rfl hl.1 rfl (Nat.le_of_ble_eq_true rfl) d_CP_countPieces_18 ⟨Nat.zero_le _, Nat.zero_le _⟩)) (fun r_3 hr_4 => ?_)
        refine xe_i (y := (bI (lb lf.toInt64 i))) hr_4 ?_
        refine xe_i (y := (bI (bt lf i))) (by rw [lb_i2l _ (by omega)]) ?_
        refine x_if_eq (tgt := 39) hx hb d_CP_countPieces_21 (by decide) (fun c_5 => ?_) (fun c_5 => ?_)
        · skip
          refine lv_iinc (v := (nI (i + 1))) (lv' := [(4, .int (nI (i + 1))), (0, .ref a), (1, .int w), (2, .int lf), (3, .int (nI q))]) hx hb d_CP_countPieces_39 hl (k := 4) rfl (nI_1 _) (by decide) rfl (fun ls hl => ?_)
          refine lv_goto (tgt := 7) hx hb d_CP_countPieces_42 (by decide) ?_
          exact ih_7 lf q (i + 1) (by omega) (by first | assumption | omega) (lfI_f hj c_5) (cn_f hq (by rw [lfI_l hj]; exact c_5)) ls (lv_sub hl [1, 2, 3, 4, 0] rfl)
        · skip
          refine lv_iload_n hx hb d_CP_countPieces_24 rfl (lv_at hl 2 rfl) ?_
          refine lv_aload_n hx hb d_CP_countPieces_25 rfl (lv_at hl 0 rfl) ?_
          refine lv_iload hx hb d_CP_countPieces_26 (lv_at hl 4 rfl) ?_
          refine lv_iload_n hx hb d_CP_countPieces_28 rfl (lv_at hl 1 rfl) ?_
          refine vp_callSi (va_Run.run (k_S (n := 3) (rest := [.int lf]) ⟨hx, hb, hml, hown, hts⟩ (c_CP_spread l dC dI cI cJ cZ a r i w (by first | assumption | omega) hrw) wml_CP_190 wst_CP_spread wini_CP wcode_CP_spread (by decide +kernel) ⟨Nat.le_of_ble_eq_true rfl, Nat.le_of_ble_eq_true rfl⟩ (pre_R (hP.sub (ws' := [(a, .inl (cI, 14, .inl r))]) [0] rfl) hK) rfl hl.1 rfl (Nat.le_of_ble_eq_true rfl) d_CP_countPieces_29 ⟨Nat.zero_le _, Nat.zero_le _⟩)) (fun r_6 hr_7 => ?_)
          refine lv_iconst (v := (-1)) hx hb d_CP_countPieces_32 (by decide) ?_
          refine lv_ixor hx hb d_CP_countPieces_33 ?_
          refine lv_iand hx hb d_CP_countPieces_34 ?_
          refine lv_istore_n (lv' := [(2, .int (lf &&& (r_6 ^^^ (-1)))), (0, .ref a), (1, .int w), (3, .int (nI q)), (4, .int (nI i))]) hx hb d_CP_countPieces_35 rfl hl (by decide) rfl (fun ls hl => ?_)
          refine lv_iinc (v := (nI (q + 1))) (lv' := [(3, .int (nI (q + 1))), (2, .int (lf &&& (r_6 ^^^ (-1)))), (0, .ref a), (1, .int w), (4, .int (nI i))]) hx hb d_CP_countPieces_36 hl (k := 3) rfl (nI_1 _) (by decide) rfl (fun ls hl => ?_)
          refine lv_iinc (v := (nI (i + 1))) (lv' := [(4, .int (nI (i + 1))), (3, .int (nI (q + 1))), (2, .int (lf &&& (r_6 ^^^ (-1)))), (0, .ref a), (1, .int w)]) hx hb d_CP_countPieces_39 hl (k := 4) rfl (nI_1 _) (by decide) rfl (fun ls hl => ?_)
          refine lv_goto (tgt := 7) hx hb d_CP_countPieces_42 (by decide) ?_
          exact ih_7 (lf &&& (r_6 ^^^ (-1))) (q + 1) (i + 1) (by omega) (by first | assumption | omega) (lfI_t hj c_5 hr_7) (cn_t hq (by rw [lfI_l hj]; exact c_5)) ls (lv_sub hl [3, 4, 2, 1, 0] rfl)
  exact L7_1 ((14 - 0) + 1) w 0 0 (Nat.lt_succ_self _) (by first | assumption | omega) (lfI_0 r w) rfl ls (lv_sub hl [3, 4, 2, 1, 0] rfl)

theorem d_SK_partOf_0 : decode prog_6_method_8_code 0 = .ok (.aload_n 0, 1) := by decide +kernel
theorem d_SK_partOf_1 : decode prog_6_method_8_code 1 = .ok (.getfield 9, 3) := by decide +kernel
theorem d_SK_partOf_4 : decode prog_6_method_8_code 4 = .ok (.iload_n 1, 1) := by decide +kernel
theorem d_SK_partOf_5 : decode prog_6_method_8_code 5 = .ok (.aload_n 0, 1) := by decide +kernel
theorem d_SK_partOf_6 : decode prog_6_method_8_code 6 = .ok (.getfield 38, 3) := by decide +kernel
theorem d_SK_partOf_9 : decode prog_6_method_8_code 9 = .ok (.invokestatic 84, 3) := by decide +kernel
theorem d_SK_partOf_12 : decode prog_6_method_8_code 12 = .ok (.ireturn, 1) := by decide +kernel
set_option maxHeartbeats 4000000 in
set_option maxRecDepth 100000 in
theorem c_SK_partOf (l : Launch) (dC : Nat → ClassId) (dI : Nat → Nat → Nat) (cI cJ cZ : ClassId) (k nr fr rs at_ h : Nat) (al : Int32) (br : Int64) (N : Nat → Int32) (hrw : ∀ a b, rE N al a b → b < 14) (x : Nat) (hx14 : x < 14) : Met l ⟨"CutPoints$Sketch", "partOf", "(I)I"⟩ (Cond.code ⟨"CutPoints$Sketch", "partOf", "(I)I"⟩ prog_6_method_8_code 2 (some .int) :: TT) (rmk 2 48) (PR dC dI cI cJ cZ [.ref k, .int (nI x)] [(k, .inr (2, [.ref nr, .ref fr, .ref rs, .ref at_, .ref h, .int al, .long br])), (nr, .inl (cI, 14, .inl N))]) (vp_Si (fun y => SpR N x al y)) 0 0 (fun _ => False) := by
  refine Met.ofW (cc := prog_6_method_8_code) (maxL := 2) (ret := (some .int)) (by decide) rfl ?_
  intro p e s m args below meth c s₁ B hml hv
  obtain ⟨rfl, hP, hK⟩ := hv
  have hx := B.exec
  have hb := B.bytes
  have hr := B.returns
  have hts : ∀ w ∈ TT, w.before _ s = true := fun w h => atoms_spec (ws := (Cond.code ⟨"CutPoints$Sketch", "partOf", "(I)I"⟩ prog_6_method_8_code 2 (some .int) :: TT)) B.pre w (List.mem_cons_of_mem _ h)
  have hown : s.vm.findClass "CutPoints$Sketch" = some m.cls := findClass_of_methodNamed B.named
  have hlocks := B.notSynchronized
  have hl := lv_entry ([.ref k, .int (nI x)]) (n := 2) (Nat.le_of_ble_eq_true rfl)
  rw [lg_entry_eq]
  generalize (lg_sl ([.ref k, .int (nI x)]) ++ List.replicate (2 - (lg_sl ([.ref k, .int (nI x)])).length) Slot.unset).toArray = ls at hl ⊢
  have hl : lv_has ls 2 [(0, .ref k), (1, .int (nI x))] := hl
  refine lv_aload_n hx hb d_SK_partOf_0 rfl (lv_at hl 0 rfl) ?_
  refine va_get (D := (dC, dI)) (ci := 2) (v := .ref nr) (C := R_SK) (T := F_SK) (N := 7) hx hb hts in_SK hown hK.1 hP 0 rfl rfl 0 (by decide) (hts _ wfl_SK_9) (fun _ h9 => h9) rfl d_SK_partOf_1 ?_
  refine lv_iload_n hx hb d_SK_partOf_4 rfl (lv_at hl 1 rfl) ?_
  refine lv_aload_n hx hb d_SK_partOf_5 rfl (lv_at hl 0 rfl) ?_
  refine va_get (D := (dC, dI)) (ci := 2) (v := .int al) (C := R_SK) (T := F_SK) (N := 7) hx hb hts in_SK hown hK.1 hP 0 rfl rfl 5 (by decide) (hts _ wfl_SK_38) (fun _ h9 => h9) rfl d_SK_partOf_6 ?_
  refine vp_callSi (va_Run.run (k_SN (n := 3) (rest := []) ⟨hx, hb, hml, hown, hts⟩ (c_CP_spread l dC dI cI cJ cZ nr N x al (by first | assumption | omega) hrw) hK wmn_SK_84 wst_CP_spread wini_CP wcode_CP_spread (by decide +kernel) ⟨Nat.le_of_ble_eq_true rfl, Nat.le_of_ble_eq_true rfl⟩ (pre_R (hP.sub (ws' := [(nr, .inl (cI, 14, .inl N))]) [1] rfl) hK) rfl hl.1 rfl (Nat.le_of_ble_eq_true rfl) d_SK_partOf_9 ⟨Nat.zero_le _, Nat.zero_le _⟩)) (fun r_1 hr_2 => ?_)
  exact W.iret (v := r_1) hx hb hr (fun t ht _ => ⟨_, rfl, hr_2, ht⟩) t_nil d_SK_partOf_12

theorem d_SK_twinsOf_0 : decode prog_6_method_9_code 0 = .ok (.aload_n 0, 1) := by decide +kernel
theorem d_SK_twinsOf_1 : decode prog_6_method_9_code 1 = .ok (.getfield 15, 3) := by decide +kernel
theorem d_SK_twinsOf_4 : decode prog_6_method_9_code 4 = .ok (.iload_n 1, 1) := by decide +kernel
theorem d_SK_twinsOf_5 : decode prog_6_method_9_code 5 = .ok (.aload_n 0, 1) := by decide +kernel
theorem d_SK_twinsOf_6 : decode prog_6_method_9_code 6 = .ok (.getfield 38, 3) := by decide +kernel
theorem d_SK_twinsOf_9 : decode prog_6_method_9_code 9 = .ok (.invokestatic 84, 3) := by decide +kernel
theorem d_SK_twinsOf_12 : decode prog_6_method_9_code 12 = .ok (.ireturn, 1) := by decide +kernel
set_option maxHeartbeats 4000000 in
set_option maxRecDepth 100000 in
theorem c_SK_twinsOf (l : Launch) (dC : Nat → ClassId) (dI : Nat → Nat → Nat) (cI cJ cZ : ClassId) (k nr fr rs at_ h : Nat) (al : Int32) (br : Int64) (Fm : Nat → Int32) (hrw : ∀ a b, rE Fm al a b → b < 14) (x : Nat) (hx14 : x < 14) : Met l ⟨"CutPoints$Sketch", "twinsOf", "(I)I"⟩ (Cond.code ⟨"CutPoints$Sketch", "twinsOf", "(I)I"⟩ prog_6_method_9_code 2 (some .int) :: TT) (rmk 2 48) (PR dC dI cI cJ cZ [.ref k, .int (nI x)] [(k, .inr (2, [.ref nr, .ref fr, .ref rs, .ref at_, .ref h, .int al, .long br])), (fr, .inl (cI, 14, .inl Fm))]) (vp_Si (fun y => SpR Fm x al y)) 0 0 (fun _ => False) := by
  refine Met.ofW (cc := prog_6_method_9_code) (maxL := 2) (ret := (some .int)) (by decide) rfl ?_
  intro p e s m args below meth c s₁ B hml hv
  obtain ⟨rfl, hP, hK⟩ := hv
  have hx := B.exec
  have hb := B.bytes
  have hr := B.returns
  have hts : ∀ w ∈ TT, w.before _ s = true := fun w h => atoms_spec (ws := (Cond.code ⟨"CutPoints$Sketch", "twinsOf", "(I)I"⟩ prog_6_method_9_code 2 (some .int) :: TT)) B.pre w (List.mem_cons_of_mem _ h)
  have hown : s.vm.findClass "CutPoints$Sketch" = some m.cls := findClass_of_methodNamed B.named
  have hlocks := B.notSynchronized
  have hl := lv_entry ([.ref k, .int (nI x)]) (n := 2) (Nat.le_of_ble_eq_true rfl)
  rw [lg_entry_eq]
  generalize (lg_sl ([.ref k, .int (nI x)]) ++ List.replicate (2 - (lg_sl ([.ref k, .int (nI x)])).length) Slot.unset).toArray = ls at hl ⊢
  have hl : lv_has ls 2 [(0, .ref k), (1, .int (nI x))] := hl
  refine lv_aload_n hx hb d_SK_twinsOf_0 rfl (lv_at hl 0 rfl) ?_
  refine va_get (D := (dC, dI)) (ci := 2) (v := .ref fr) (C := R_SK) (T := F_SK) (N := 7) hx hb hts in_SK hown hK.1 hP 0 rfl rfl 1 (by decide) (hts _ wfl_SK_15) (fun _ h9 => h9) rfl d_SK_twinsOf_1 ?_
  refine lv_iload_n hx hb d_SK_twinsOf_4 rfl (lv_at hl 1 rfl) ?_
  refine lv_aload_n hx hb d_SK_twinsOf_5 rfl (lv_at hl 0 rfl) ?_
  refine va_get (D := (dC, dI)) (ci := 2) (v := .int al) (C := R_SK) (T := F_SK) (N := 7) hx hb hts in_SK hown hK.1 hP 0 rfl rfl 5 (by decide) (hts _ wfl_SK_38) (fun _ h9 => h9) rfl d_SK_twinsOf_6 ?_
  refine vp_callSi (va_Run.run (k_SN (n := 3) (rest := []) ⟨hx, hb, hml, hown, hts⟩ (c_CP_spread l dC dI cI cJ cZ fr Fm x al (by first | assumption | omega) hrw) hK wmn_SK_84 wst_CP_spread wini_CP wcode_CP_spread (by decide +kernel) ⟨Nat.le_of_ble_eq_true rfl, Nat.le_of_ble_eq_true rfl⟩ (pre_R (hP.sub (ws' := [(fr, .inl (cI, 14, .inl Fm))]) [1] rfl) hK) rfl hl.1 rfl (Nat.le_of_ble_eq_true rfl) d_SK_twinsOf_9 ⟨Nat.zero_le _, Nat.zero_le _⟩)) (fun r_1 hr_2 => ?_)
  exact W.iret (v := r_1) hx hb hr (fun t ht _ => ⟨_, rfl, hr_2, ht⟩) t_nil d_SK_twinsOf_12

theorem d_SK_countParts_0 : decode prog_6_method_10_code 0 = .ok (.aload_n 0, 1) := by decide +kernel
theorem d_SK_countParts_1 : decode prog_6_method_10_code 1 = .ok (.getfield 9, 3) := by decide +kernel
theorem d_SK_countParts_4 : decode prog_6_method_10_code 4 = .ok (.aload_n 0, 1) := by decide +kernel
theorem d_SK_countParts_5 : decode prog_6_method_10_code 5 = .ok (.getfield 38, 3) := by decide +kernel
theorem d_SK_countParts_8 : decode prog_6_method_10_code 8 = .ok (.invokestatic 108, 3) := by decide +kernel
theorem d_SK_countParts_11 : decode prog_6_method_10_code 11 = .ok (.ireturn, 1) := by decide +kernel
set_option maxHeartbeats 4000000 in
set_option maxRecDepth 100000 in
theorem c_SK_countParts (l : Launch) (dC : Nat → ClassId) (dI : Nat → Nat → Nat) (cI cJ cZ : ClassId) (k nr fr rs at_ h : Nat) (al : Int32) (br : Int64) (N : Nat → Int32) (hrw : ∀ a b, rE N al a b → b < 14) : Met l ⟨"CutPoints$Sketch", "countParts", "()I"⟩ (Cond.code ⟨"CutPoints$Sketch", "countParts", "()I"⟩ prog_6_method_10_code 1 (some .int) :: TT) (rmk 3 72) (PR dC dI cI cJ cZ [.ref k] [(k, .inr (2, [.ref nr, .ref fr, .ref rs, .ref at_, .ref h, .int al, .long br])), (nr, .inl (cI, 14, .inl N))]) (vp_Si (fun y => y = nI (cn (lead N al) 14))) 0 0 (fun _ => False) := by
  refine Met.ofW (cc := prog_6_method_10_code) (maxL := 1) (ret := (some .int)) (by decide) rfl ?_
  intro p e s m args below meth c s₁ B hml hv
  obtain ⟨rfl, hP, hK⟩ := hv
  have hx := B.exec
  have hb := B.bytes
  have hr := B.returns
  have hts : ∀ w ∈ TT, w.before _ s = true := fun w h => atoms_spec (ws := (Cond.code ⟨"CutPoints$Sketch", "countParts", "()I"⟩ prog_6_method_10_code 1 (some .int) :: TT)) B.pre w (List.mem_cons_of_mem _ h)
  have hown : s.vm.findClass "CutPoints$Sketch" = some m.cls := findClass_of_methodNamed B.named
  have hlocks := B.notSynchronized
  have hl := lv_entry ([.ref k]) (n := 1) (Nat.le_of_ble_eq_true rfl)
  rw [lg_entry_eq]
  generalize (lg_sl ([.ref k]) ++ List.replicate (1 - (lg_sl ([.ref k])).length) Slot.unset).toArray = ls at hl ⊢
  have hl : lv_has ls 1 [(0, .ref k)] := hl
  refine lv_aload_n hx hb d_SK_countParts_0 rfl (lv_at hl 0 rfl) ?_
  refine va_get (D := (dC, dI)) (ci := 2) (v := .ref nr) (C := R_SK) (T := F_SK) (N := 7) hx hb hts in_SK hown hK.1 hP 0 rfl rfl 0 (by decide) (hts _ wfl_SK_9) (fun _ h9 => h9) rfl d_SK_countParts_1 ?_
  refine lv_aload_n hx hb d_SK_countParts_4 rfl (lv_at hl 0 rfl) ?_
  refine va_get (D := (dC, dI)) (ci := 2) (v := .int al) (C := R_SK) (T := F_SK) (N := 7) hx hb hts in_SK hown hK.1 hP 0 rfl rfl 5 (by decide) (hts _ wfl_SK_38) (fun _ h9 => h9) rfl d_SK_countParts_5 ?_
  refine vp_callSi (va_Run.run (k_SN (n := 2) (rest := []) ⟨hx, hb, hml, hown, hts⟩ (c_CP_countPieces l dC dI cI cJ cZ nr N al hrw) hK wmn_SK_108 wst_CP_countPieces wini_CP wcode_CP_countPieces (by decide +kernel) ⟨Nat.le_of_ble_eq_true rfl, Nat.le_of_ble_eq_true rfl⟩ (pre_R (hP.sub (ws' := [(nr, .inl (cI, 14, .inl N))]) [1] rfl) hK) rfl hl.1 rfl (Nat.le_of_ble_eq_true rfl) d_SK_countParts_8 ⟨Nat.zero_le _, Nat.zero_le _⟩)) (fun r_1 hr_2 => ?_)
  refine xe_i (y := (nI (cn (lead N al) 14))) hr_2 ?_
  exact W.iret (v := (nI (cn (lead N al) 14))) hx hb hr (fun t ht _ => ⟨_, rfl, rfl, ht⟩) t_nil d_SK_countParts_11

theorem d_SK_countTwins_0 : decode prog_6_method_11_code 0 = .ok (.aload_n 0, 1) := by decide +kernel
theorem d_SK_countTwins_1 : decode prog_6_method_11_code 1 = .ok (.getfield 15, 3) := by decide +kernel
theorem d_SK_countTwins_4 : decode prog_6_method_11_code 4 = .ok (.aload_n 0, 1) := by decide +kernel
theorem d_SK_countTwins_5 : decode prog_6_method_11_code 5 = .ok (.getfield 38, 3) := by decide +kernel
theorem d_SK_countTwins_8 : decode prog_6_method_11_code 8 = .ok (.invokestatic 108, 3) := by decide +kernel
theorem d_SK_countTwins_11 : decode prog_6_method_11_code 11 = .ok (.ireturn, 1) := by decide +kernel
set_option maxHeartbeats 4000000 in
set_option maxRecDepth 100000 in
theorem c_SK_countTwins (l : Launch) (dC : Nat → ClassId) (dI : Nat → Nat → Nat) (cI cJ cZ : ClassId) (k nr fr rs at_ h : Nat) (al : Int32) (br : Int64) (Fm : Nat → Int32) (hrw : ∀ a b, rE Fm al a b → b < 14) : Met l ⟨"CutPoints$Sketch", "countTwins", "()I"⟩ (Cond.code ⟨"CutPoints$Sketch", "countTwins", "()I"⟩ prog_6_method_11_code 1 (some .int) :: TT) (rmk 3 72) (PR dC dI cI cJ cZ [.ref k] [(k, .inr (2, [.ref nr, .ref fr, .ref rs, .ref at_, .ref h, .int al, .long br])), (fr, .inl (cI, 14, .inl Fm))]) (vp_Si (fun y => y = nI (cn (lead Fm al) 14))) 0 0 (fun _ => False) := by
  refine Met.ofW (cc := prog_6_method_11_code) (maxL := 1) (ret := (some .int)) (by decide) rfl ?_
  intro p e s m args below meth c s₁ B hml hv
  obtain ⟨rfl, hP, hK⟩ := hv
  have hx := B.exec
  have hb := B.bytes
  have hr := B.returns
  have hts : ∀ w ∈ TT, w.before _ s = true := fun w h => atoms_spec (ws := (Cond.code ⟨"CutPoints$Sketch", "countTwins", "()I"⟩ prog_6_method_11_code 1 (some .int) :: TT)) B.pre w (List.mem_cons_of_mem _ h)
  have hown : s.vm.findClass "CutPoints$Sketch" = some m.cls := findClass_of_methodNamed B.named
  have hlocks := B.notSynchronized
  have hl := lv_entry ([.ref k]) (n := 1) (Nat.le_of_ble_eq_true rfl)
  rw [lg_entry_eq]
  generalize (lg_sl ([.ref k]) ++ List.replicate (1 - (lg_sl ([.ref k])).length) Slot.unset).toArray = ls at hl ⊢
  have hl : lv_has ls 1 [(0, .ref k)] := hl
  refine lv_aload_n hx hb d_SK_countTwins_0 rfl (lv_at hl 0 rfl) ?_
  refine va_get (D := (dC, dI)) (ci := 2) (v := .ref fr) (C := R_SK) (T := F_SK) (N := 7) hx hb hts in_SK hown hK.1 hP 0 rfl rfl 1 (by decide) (hts _ wfl_SK_15) (fun _ h9 => h9) rfl d_SK_countTwins_1 ?_
  refine lv_aload_n hx hb d_SK_countTwins_4 rfl (lv_at hl 0 rfl) ?_
  refine va_get (D := (dC, dI)) (ci := 2) (v := .int al) (C := R_SK) (T := F_SK) (N := 7) hx hb hts in_SK hown hK.1 hP 0 rfl rfl 5 (by decide) (hts _ wfl_SK_38) (fun _ h9 => h9) rfl d_SK_countTwins_5 ?_
  refine vp_callSi (va_Run.run (k_SN (n := 2) (rest := []) ⟨hx, hb, hml, hown, hts⟩ (c_CP_countPieces l dC dI cI cJ cZ fr Fm al hrw) hK wmn_SK_108 wst_CP_countPieces wini_CP wcode_CP_countPieces (by decide +kernel) ⟨Nat.le_of_ble_eq_true rfl, Nat.le_of_ble_eq_true rfl⟩ (pre_R (hP.sub (ws' := [(fr, .inl (cI, 14, .inl Fm))]) [1] rfl) hK) rfl hl.1 rfl (Nat.le_of_ble_eq_true rfl) d_SK_countTwins_8 ⟨Nat.zero_le _, Nat.zero_le _⟩)) (fun r_1 hr_2 => ?_)
  refine xe_i (y := (nI (cn (lead Fm al) 14))) hr_2 ?_
  exact W.iret (v := (nI (cn (lead Fm al) 14))) hx hb hr (fun t ht _ => ⟨_, rfl, rfl, ht⟩) t_nil d_SK_countTwins_11

theorem d_SK_countFalls_0 : decode prog_6_method_12_code 0 = .ok (.aload_n 0, 1) := by decide +kernel
theorem d_SK_countFalls_1 : decode prog_6_method_12_code 1 = .ok (.getfield 9, 3) := by decide +kernel
theorem d_SK_countFalls_4 : decode prog_6_method_12_code 4 = .ok (.aload_n 0, 1) := by decide +kernel
theorem d_SK_countFalls_5 : decode prog_6_method_12_code 5 = .ok (.iload_n 1, 1) := by decide +kernel
theorem d_SK_countFalls_6 : decode prog_6_method_12_code 6 = .ok (.invokevirtual 112, 3) := by decide +kernel
theorem d_SK_countFalls_9 : decode prog_6_method_12_code 9 = .ok (.iconst 1, 1) := by decide +kernel
theorem d_SK_countFalls_10 : decode prog_6_method_12_code 10 = .ok (.iload_n 1, 1) := by decide +kernel
theorem d_SK_countFalls_11 : decode prog_6_method_12_code 11 = .ok (.ishl, 1) := by decide +kernel
theorem d_SK_countFalls_12 : decode prog_6_method_12_code 12 = .ok (.iconst (-1), 1) := by decide +kernel
theorem d_SK_countFalls_13 : decode prog_6_method_12_code 13 = .ok (.ixor, 1) := by decide +kernel
theorem d_SK_countFalls_14 : decode prog_6_method_12_code 14 = .ok (.iand, 1) := by decide +kernel
theorem d_SK_countFalls_15 : decode prog_6_method_12_code 15 = .ok (.invokestatic 108, 3) := by decide +kernel
theorem d_SK_countFalls_18 : decode prog_6_method_12_code 18 = .ok (.ireturn, 1) := by decide +kernel
set_option maxHeartbeats 4000000 in
set_option maxRecDepth 100000 in
theorem c_SK_countFalls (l : Launch) (dC : Nat → ClassId) (dI : Nat → Nat → Nat) (cI cJ cZ : ClassId) (k nr fr rs at_ h : Nat) (al : Int32) (br : Int64) (N : Nat → Int32) (hr14 : ∀ a b, a < 14 → bt (N a) b = true → b < 14) (x : Nat) (hx14 : x < 14) : Met l ⟨"CutPoints$Sketch", "countFalls", "(I)I"⟩ (Cond.code ⟨"CutPoints$Sketch", "countFalls", "(I)I"⟩ prog_6_method_12_code 2 (some .int) :: TT) (rmk 3 72) (PR dC dI cI cJ cZ [.ref k, .int (nI x)] [(k, .inr (2, [.ref nr, .ref fr, .ref rs, .ref at_, .ref h, .int al, .long br])), (nr, .inl (cI, 14, .inl N))]) (vp_Si (fun y => ∃ kk, y = nI kk ∧ FallsR N al x kk)) 0 0 (fun _ => False) := by
  refine Met.ofW (cc := prog_6_method_12_code) (maxL := 2) (ret := (some .int)) (by decide) rfl ?_
  intro p e s m args below meth c s₁ B hml hv
  obtain ⟨rfl, hP, hK⟩ := hv
  have hx := B.exec
  have hb := B.bytes
  have hr := B.returns
  have hts : ∀ w ∈ TT, w.before _ s = true := fun w h => atoms_spec (ws := (Cond.code ⟨"CutPoints$Sketch", "countFalls", "(I)I"⟩ prog_6_method_12_code 2 (some .int) :: TT)) B.pre w (List.mem_cons_of_mem _ h)
  have hown : s.vm.findClass "CutPoints$Sketch" = some m.cls := findClass_of_methodNamed B.named
  have hlocks := B.notSynchronized
  have hl := lv_entry ([.ref k, .int (nI x)]) (n := 2) (Nat.le_of_ble_eq_true rfl)
  rw [lg_entry_eq]
  generalize (lg_sl ([.ref k, .int (nI x)]) ++ List.replicate (2 - (lg_sl ([.ref k, .int (nI x)])).length) Slot.unset).toArray = ls at hl ⊢
  have hl : lv_has ls 2 [(0, .ref k), (1, .int (nI x))] := hl
  refine lv_aload_n hx hb d_SK_countFalls_0 rfl (lv_at hl 0 rfl) ?_
  refine va_get (D := (dC, dI)) (ci := 2) (v := .ref nr) (C := R_SK) (T := F_SK) (N := 7) hx hb hts in_SK hown hK.1 hP 0 rfl rfl 0 (by decide) (hts _ wfl_SK_9) (fun _ h9 => h9) rfl d_SK_countFalls_1 ?_
  refine lv_aload_n hx hb d_SK_countFalls_4 rfl (lv_at hl 0 rfl) ?_
  refine lv_iload_n hx hb d_SK_countFalls_5 rfl (lv_at hl 1 rfl) ?_
  refine vp_callSi (va_Run.run (k_V (n := 1) (C := R_SK) (rest := [.ref nr]) ⟨hx, hb, hml, hown, hts⟩ (c_SK_partOf l dC dI cI cJ cZ k nr fr rs at_ h al br N (fun a b h => hr14 a b h.1 h.2.1) x (by first | assumption | omega)) wml_SK_112 wim_SK_partOf wsel_SK_partOf wini_SK wcode_SK_partOf (by decide +kernel) ⟨Nat.le_of_ble_eq_true rfl, Nat.le_of_ble_eq_true rfl⟩ (preV_R (q := (R_SK, F_SK, 7)) (ci := 2) (q0 := 0) (hP.sub (ws' := [(k, .inr (2, [.ref nr, .ref fr, .ref rs, .ref at_, .ref h, .int al, .long br])), (nr, .inl (cI, 14, .inl N))]) [0, 1] rfl) hK rfl rfl) rfl hl.1 rfl (Nat.le_of_ble_eq_true rfl) d_SK_countFalls_6 ⟨Nat.zero_le _, Nat.zero_le _⟩)) (fun r_1 hr_2 => ?_)
  refine lv_iconst (v := (nI 1)) hx hb d_SK_countFalls_9 (by decide) ?_
  refine lv_iload_n hx hb d_SK_countFalls_10 rfl (lv_at hl 1 rfl) ?_
  refine lv_ishl hx hb d_SK_countFalls_11 ?_
  refine xe_i (y := (sb x)) rfl ?_
  refine lv_iconst (v := (-1)) hx hb d_SK_countFalls_12 (by decide) ?_
  refine lv_ixor hx hb d_SK_countFalls_13 ?_
  refine lv_iand hx hb d_SK_countFalls_14 ?_
  refine vp_callSi (va_Run.run (k_SN (n := 2) (rest := []) ⟨hx, hb, hml, hown, hts⟩ (c_CP_countPieces l dC dI cI cJ cZ nr N (r_1 &&& ((sb x) ^^^ (-1))) (fun a b h => hr14 a b h.1 h.2.1)) hK wmn_SK_108 wst_CP_countPieces wini_CP wcode_CP_countPieces (by decide +kernel) ⟨Nat.le_of_ble_eq_true rfl, Nat.le_of_ble_eq_true rfl⟩ (pre_R (hP.sub (ws' := [(nr, .inl (cI, 14, .inl N))]) [1] rfl) hK) rfl hl.1 rfl (Nat.le_of_ble_eq_true rfl) d_SK_countFalls_15 ⟨Nat.zero_le _, Nat.zero_le _⟩)) (fun r_3 hr_4 => ?_)
  refine xe_i (y := (nI (cn (lead N (r_1 &&& ((sb x) ^^^ (-1)))) 14))) hr_4 ?_
  exact W.iret (v := (nI (cn (lead N (r_1 &&& ((sb x) ^^^ (-1)))) 14))) hx hb hr (fun t ht _ => ⟨_, rfl, ⟨_, rfl, _, hr_2, rfl⟩, ht⟩) t_nil d_SK_countFalls_18

theorem d_SK_countCutNodes_0 : decode prog_6_method_13_code 0 = .ok (.iconst 0, 1) := by decide +kernel
theorem d_SK_countCutNodes_1 : decode prog_6_method_13_code 1 = .ok (.istore_n 1, 1) := by decide +kernel
theorem d_SK_countCutNodes_2 : decode prog_6_method_13_code 2 = .ok (.iconst 0, 1) := by decide +kernel
theorem d_SK_countCutNodes_3 : decode prog_6_method_13_code 3 = .ok (.istore_n 2, 1) := by decide +kernel
theorem d_SK_countCutNodes_4 : decode prog_6_method_13_code 4 = .ok (.iload_n 2, 1) := by decide +kernel
theorem d_SK_countCutNodes_5 : decode prog_6_method_13_code 5 = .ok (.bipush 14, 2) := by decide +kernel
theorem d_SK_countCutNodes_7 : decode prog_6_method_13_code 7 = .ok (.if_icmp .ge 33, 3) := by decide +kernel
theorem d_SK_countCutNodes_10 : decode prog_6_method_13_code 10 = .ok (.aload_n 0, 1) := by decide +kernel
theorem d_SK_countCutNodes_11 : decode prog_6_method_13_code 11 = .ok (.getfield 38, 3) := by decide +kernel
theorem d_SK_countCutNodes_14 : decode prog_6_method_13_code 14 = .ok (.i2l, 1) := by decide +kernel
theorem d_SK_countCutNodes_15 : decode prog_6_method_13_code 15 = .ok (.iload_n 2, 1) := by decide +kernel
theorem d_SK_countCutNodes_16 : decode prog_6_method_13_code 16 = .ok (.invokestatic 68, 3) := by decide +kernel
theorem d_SK_countCutNodes_19 : decode prog_6_method_13_code 19 = .ok (.ifCond .eq 15, 3) := by decide +kernel
theorem d_SK_countCutNodes_22 : decode prog_6_method_13_code 22 = .ok (.aload_n 0, 1) := by decide +kernel
theorem d_SK_countCutNodes_23 : decode prog_6_method_13_code 23 = .ok (.iload_n 2, 1) := by decide +kernel
theorem d_SK_countCutNodes_24 : decode prog_6_method_13_code 24 = .ok (.invokevirtual 116, 3) := by decide +kernel
theorem d_SK_countCutNodes_27 : decode prog_6_method_13_code 27 = .ok (.iconst 1, 1) := by decide +kernel
theorem d_SK_countCutNodes_28 : decode prog_6_method_13_code 28 = .ok (.if_icmp .le 6, 3) := by decide +kernel
theorem d_SK_countCutNodes_31 : decode prog_6_method_13_code 31 = .ok (.iinc 1 1, 3) := by decide +kernel
theorem d_SK_countCutNodes_34 : decode prog_6_method_13_code 34 = .ok (.iinc 2 1, 3) := by decide +kernel
theorem d_SK_countCutNodes_37 : decode prog_6_method_13_code 37 = .ok (.goto (-33), 3) := by decide +kernel
theorem d_SK_countCutNodes_40 : decode prog_6_method_13_code 40 = .ok (.iload_n 1, 1) := by decide +kernel
theorem d_SK_countCutNodes_41 : decode prog_6_method_13_code 41 = .ok (.ireturn, 1) := by decide +kernel
set_option maxHeartbeats 4000000 in
set_option maxRecDepth 100000 in
theorem c_SK_countCutNodes (l : Launch) (dC : Nat → ClassId) (dI : Nat → Nat → Nat) (cI cJ cZ : ClassId) (k nr fr rs at_ h : Nat) (al : Int32) (br : Int64) (N : Nat → Int32) (hr14 : ∀ a b, a < 14 → bt (N a) b = true → b < 14) : Met l ⟨"CutPoints$Sketch", "countCutNodes", "()I"⟩ (Cond.code ⟨"CutPoints$Sketch", "countCutNodes", "()I"⟩ prog_6_method_13_code 3 (some .int) :: TT) (rmk 4 93) (PR dC dI cI cJ cZ [.ref k] [(k, .inr (2, [.ref nr, .ref fr, .ref rs, .ref at_, .ref h, .int al, .long br])), (nr, .inl (cI, 14, .inl N))]) (vp_Si (fun y => y = nI (cn (cutB N al) 14))) 0 0 (fun _ => False) := by
  refine Met.ofW (cc := prog_6_method_13_code) (maxL := 3) (ret := (some .int)) (by decide) rfl ?_
  intro p e s m args below meth c s₁ B hml hv
  obtain ⟨rfl, hP, hK⟩ := hv
  have hx := B.exec
  have hb := B.bytes
  have hr := B.returns
  have hts : ∀ w ∈ TT, w.before _ s = true := fun w h => atoms_spec (ws := (Cond.code ⟨"CutPoints$Sketch", "countCutNodes", "()I"⟩ prog_6_method_13_code 3 (some .int) :: TT)) B.pre w (List.mem_cons_of_mem _ h)
  have hown : s.vm.findClass "CutPoints$Sketch" = some m.cls := findClass_of_methodNamed B.named
  have hlocks := B.notSynchronized
  have hl := lv_entry ([.ref k]) (n := 3) (Nat.le_of_ble_eq_true rfl)
  rw [lg_entry_eq]
  generalize (lg_sl ([.ref k]) ++ List.replicate (3 - (lg_sl ([.ref k])).length) Slot.unset).toArray = ls at hl ⊢
  have hl : lv_has ls 3 [(0, .ref k)] := hl
  refine lv_iconst (v := (nI 0)) hx hb d_SK_countCutNodes_0 (by decide) ?_
  refine lv_istore_n (lv' := [(1, .int (nI 0)), (0, .ref k)]) hx hb d_SK_countCutNodes_1 rfl hl (by decide) rfl (fun ls hl => ?_)
  refine lv_iconst (v := (nI 0)) hx hb d_SK_countCutNodes_2 (by decide) ?_
  refine lv_istore_n (lv' := [(2, .int (nI 0)), (1, .int (nI 0)), (0, .ref k)]) hx hb d_SK_countCutNodes_3 rfl hl (by decide) rfl (fun ls hl => ?_)
  have L4_1 : ∀ (n : Nat) (q : Nat) (i : Nat) (hn : 14 - i < n) (hi : i ≤ 14) (hq : q = cn (cutB N al) i) (ls : Array Slot) (hl : lv_has ls 3 [(0, .ref k), (1, .int (nI q)), (2, .int (nI i))]), W p l e (headSpec (Cond.code ⟨"CutPoints$Sketch", "countCutNodes", "()I"⟩ prog_6_method_13_code 3 (some .int) :: TT) (rmk 4 93)).room s m ([.ref k] : List Value).toArray below meth c s.heap [] 0 0 (MQ below (vp_Si (fun y => y = nI (cn (cutB N al) 14))) ([.ref k] : List Value).toArray s 0 0 (fun _ => False)) (F0 m 4 ls []) := by
    intro n_4
    induction n_4 with
    | zero =>
      intro q i hn_4
      exact absurd hn_4 (Nat.not_lt_zero _)
    | succ n_4 ih_4 =>
      intro q i hn_4 hi hq ls hl
      have hq14 := cn_le (cutB N al) i
      refine lv_iload_n hx hb d_SK_countCutNodes_4 rfl (lv_at hl 2 rfl) ?_
      refine lv_bipush (v := (nI 14)) hx hb d_SK_countCutNodes_5 (by decide) ?_
      refine x_cmp_ge (a := i) (b := 14) (tgt := 40) hx hb (by omega) (by omega) d_SK_countCutNodes_7 (by decide) (fun c_2 => ?_) (fun c_2 => ?_)
      · skip
        refine lv_iload_n hx hb d_SK_countCutNodes_40 rfl (lv_at hl 1 rfl) ?_
        exact W.iret (v := (nI q)) hx hb hr (fun t ht _ => ⟨_, rfl, (by have e9 : i = 14 := (by omega); subst e9; rw [hq]), ht⟩) t_nil d_SK_countCutNodes_41
      · skip
        refine lv_aload_n hx hb d_SK_countCutNodes_10 rfl (lv_at hl 0 rfl) ?_
        refine va_get (D := (dC, dI)) (ci := 2) (v := .int al) (C := R_SK) (T := F_SK) (N := 7) hx hb hts in_SK hown hK.1 hP 0 rfl rfl 5 (by decide) (hts _ wfl_SK_38) (fun _ h9 => h9) rfl d_SK_countCutNodes_11 ?_
        refine lv_i2l (v := al.toInt64) hx hb d_SK_countCutNodes_14 rfl ?_
        refine lv_iload_n hx hb d_SK_countCutNodes_15 rfl (lv_at hl 2 rfl) ?_
        refine vp_callSi (va_Run.run (k_SN (n := 2) (rest := []) ⟨hx, hb, hml, hown, hts⟩ (c_CP_hasBit l dC dI cI cJ cZ al.toInt64 i (by first | assumption | omega)) hK wmn_SK_68 wst_CP_hasBit wini_CP wcode_CP_hasBit (by decide +kernel) ⟨Nat.le_of_ble_eq_true rfl, Nat.le_of_ble_eq_true rfl⟩ (pre_R (hP.sub (ws' := []) [] rfl) hK) rfl hl.1 rfl (Nat.le_of_ble_eq_true rfl) d_SK_countCutNodes_16 ⟨Nat.zero_le _, Nat.zero_le _⟩)) (fun r_3 hr_4 => ?_)
        refine xe_i (y := (bI (lb al.toInt64 i))) hr_4 ?_
        refine xe_i (y := (bI (bt al i))) (by rw [lb_i2l _ (by omega)]) ?_
        refine x_if_eq (tgt := 34) hx hb d_SK_countCutNodes_19 (by decide) (fun c_5 => ?_) (fun c_5 => ?_)
        · skip
          refine lv_iinc (v := (nI (i + 1))) (lv' := [(2, .int (nI (i + 1))), (0, .ref k), (1, .int (nI q))]) hx hb d_SK_countCutNodes_34 hl (k := 2) rfl (nI_1 _) (by decide) rfl (fun ls hl => ?_)
          refine lv_goto (tgt := 4) hx hb d_SK_countCutNodes_37 (by decide) ?_
          exact ih_4 q (i + 1) (by omega) (by first | assumption | omega) (cn_f hq (dc_f.mpr (fun q9 => by rw [c_5] at q9; cases q9.1))) ls (lv_sub hl [1, 2, 0] rfl)
        · skip
          refine lv_aload_n hx hb d_SK_countCutNodes_22 rfl (lv_at hl 0 rfl) ?_
          refine lv_iload_n hx hb d_SK_countCutNodes_23 rfl (lv_at hl 2 rfl) ?_
          refine vp_callSi (va_Run.run (k_V (n := 1) (C := R_SK) (rest := []) ⟨hx, hb, hml, hown, hts⟩ (c_SK_countFalls l dC dI cI cJ cZ k nr fr rs at_ h al br N hr14 i (by first | assumption | omega)) wml_SK_116 wim_SK_countFalls wsel_SK_countFalls wini_SK wcode_SK_countFalls (by decide +kernel) ⟨Nat.le_of_ble_eq_true rfl, Nat.le_of_ble_eq_true rfl⟩ (preV_R (q := (R_SK, F_SK, 7)) (ci := 2) (q0 := 0) (hP.sub (ws' := [(k, .inr (2, [.ref nr, .ref fr, .ref rs, .ref at_, .ref h, .int al, .long br])), (nr, .inl (cI, 14, .inl N))]) [0, 1] rfl) hK rfl rfl) rfl hl.1 rfl (Nat.le_of_ble_eq_true rfl) d_SK_countCutNodes_24 ⟨Nat.zero_le _, Nat.zero_le _⟩)) (fun r_6 hr_7 => ?_)
          obtain ⟨kx_8, ek_8, hk_8⟩ := hr_7
          refine xe_i (y := (nI kx_8)) ek_8 ?_
          refine lv_iconst (v := (nI 1)) hx hb d_SK_countCutNodes_27 (by decide) ?_
          refine x_cmp_le (a := kx_8) (b := 1) (tgt := 34) hx hb (Nat.lt_of_le_of_lt hk_8.le (by decide)) (by omega) d_SK_countCutNodes_28 (by decide) (fun c_9 => ?_) (fun c_9 => ?_)
          · skip
            refine lv_iinc (v := (nI (i + 1))) (lv' := [(2, .int (nI (i + 1))), (0, .ref k), (1, .int (nI q))]) hx hb d_SK_countCutNodes_34 hl (k := 2) rfl (nI_1 _) (by decide) rfl (fun ls hl => ?_)
            refine lv_goto (tgt := 4) hx hb d_SK_countCutNodes_37 (by decide) ?_
            exact ih_4 q (i + 1) (by omega) (by first | assumption | omega) (cn_f hq (dc_f.mpr (fun ⟨_, k9, h9, g9⟩ => by have e9 := h9.uniq hk_8; omega))) ls (lv_sub hl [1, 2, 0] rfl)
          · skip
            refine lv_iinc (v := (nI (q + 1))) (lv' := [(1, .int (nI (q + 1))), (0, .ref k), (2, .int (nI i))]) hx hb d_SK_countCutNodes_31 hl (k := 1) rfl (nI_1 _) (by decide) rfl (fun ls hl => ?_)
            refine lv_iinc (v := (nI (i + 1))) (lv' := [(2, .int (nI (i + 1))), (1, .int (nI (q + 1))), (0, .ref k)]) hx hb d_SK_countCutNodes_34 hl (k := 2) rfl (nI_1 _) (by decide) rfl (fun ls hl => ?_)
            refine lv_goto (tgt := 4) hx hb d_SK_countCutNodes_37 (by decide) ?_
            exact ih_4 (q + 1) (i + 1) (by omega) (by first | assumption | omega) (cn_t hq (dc_t.mpr ⟨c_5, _, hk_8, c_9⟩)) ls (lv_sub hl [2, 1, 0] rfl)
  exact L4_1 ((14 - 0) + 1) 0 0 (Nat.lt_succ_self _) (by first | assumption | omega) rfl ls (lv_sub hl [2, 1, 0] rfl)
