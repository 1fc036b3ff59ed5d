theorem d_SK_wear_0 : decode prog_6_method_16_code 0 = .ok (.aload_n 0, 1) := by decide +kernel
theorem d_SK_wear_1 : decode prog_6_method_16_code 1 = .ok (.getfield 9, 3) := by decide +kernel
theorem d_SK_wear_4 : decode prog_6_method_16_code 4 = .ok (.iconst 0, 1) := by decide +kernel
theorem d_SK_wear_5 : decode prog_6_method_16_code 5 = .ok (.aload_n 0, 1) := by decide +kernel
theorem d_SK_wear_6 : decode prog_6_method_16_code 6 = .ok (.getfield 18, 3) := by decide +kernel
theorem d_SK_wear_9 : decode prog_6_method_16_code 9 = .ok (.iconst 0, 1) := by decide +kernel
theorem d_SK_wear_10 : decode prog_6_method_16_code 10 = .ok (.bipush 14, 2) := by decide +kernel
theorem d_SK_wear_12 : decode prog_6_method_16_code 12 = .ok (.invokestatic 128, 3) := by decide +kernel
theorem d_SK_wear_15 : decode prog_6_method_16_code 15 = .ok (.aload_n 0, 1) := by decide +kernel
theorem d_SK_wear_16 : decode prog_6_method_16_code 16 = .ok (.getfield 38, 3) := by decide +kernel
theorem d_SK_wear_19 : decode prog_6_method_16_code 19 = .ok (.istore_n 1, 1) := by decide +kernel
theorem d_SK_wear_20 : decode prog_6_method_16_code 20 = .ok (.iconst 0, 1) := by decide +kernel
theorem d_SK_wear_21 : decode prog_6_method_16_code 21 = .ok (.istore_n 2, 1) := by decide +kernel
theorem d_SK_wear_22 : decode prog_6_method_16_code 22 = .ok (.iload_n 2, 1) := by decide +kernel
theorem d_SK_wear_23 : decode prog_6_method_16_code 23 = .ok (.bipush 14, 2) := by decide +kernel
theorem d_SK_wear_25 : decode prog_6_method_16_code 25 = .ok (.if_icmp .ge 42, 3) := by decide +kernel
theorem d_SK_wear_28 : decode prog_6_method_16_code 28 = .ok (.aload_n 0, 1) := by decide +kernel
theorem d_SK_wear_29 : decode prog_6_method_16_code 29 = .ok (.iload_n 1, 1) := by decide +kernel
theorem d_SK_wear_30 : decode prog_6_method_16_code 30 = .ok (.invokevirtual 134, 3) := by decide +kernel
theorem d_SK_wear_33 : decode prog_6_method_16_code 33 = .ok (.istore_n 3, 1) := by decide +kernel
theorem d_SK_wear_34 : decode prog_6_method_16_code 34 = .ok (.iload_n 3, 1) := by decide +kernel
theorem d_SK_wear_35 : decode prog_6_method_16_code 35 = .ok (.iconst (-1), 1) := by decide +kernel
theorem d_SK_wear_36 : decode prog_6_method_16_code 36 = .ok (.if_icmp .ne 5, 3) := by decide +kernel
theorem d_SK_wear_39 : decode prog_6_method_16_code 39 = .ok (.iload_n 1, 1) := by decide +kernel
theorem d_SK_wear_40 : decode prog_6_method_16_code 40 = .ok (.ireturn, 1) := by decide +kernel
theorem d_SK_wear_41 : decode prog_6_method_16_code 41 = .ok (.iload_n 1, 1) := by decide +kernel
theorem d_SK_wear_42 : decode prog_6_method_16_code 42 = .ok (.iconst 1, 1) := by decide +kernel
theorem d_SK_wear_43 : decode prog_6_method_16_code 43 = .ok (.iload_n 3, 1) := by decide +kernel
theorem d_SK_wear_44 : decode prog_6_method_16_code 44 = .ok (.ishl, 1) := by decide +kernel
theorem d_SK_wear_45 : decode prog_6_method_16_code 45 = .ok (.iconst (-1), 1) := by decide +kernel
theorem d_SK_wear_46 : decode prog_6_method_16_code 46 = .ok (.ixor, 1) := by decide +kernel
theorem d_SK_wear_47 : decode prog_6_method_16_code 47 = .ok (.iand, 1) := by decide +kernel
theorem d_SK_wear_48 : decode prog_6_method_16_code 48 = .ok (.istore_n 1, 1) := by decide +kernel
theorem d_SK_wear_49 : decode prog_6_method_16_code 49 = .ok (.aload_n 0, 1) := by decide +kernel
theorem d_SK_wear_50 : decode prog_6_method_16_code 50 = .ok (.aload_n 0, 1) := by decide +kernel
theorem d_SK_wear_51 : decode prog_6_method_16_code 51 = .ok (.getfield 18, 3) := by decide +kernel
theorem d_SK_wear_54 : decode prog_6_method_16_code 54 = .ok (.iload_n 3, 1) := by decide +kernel
theorem d_SK_wear_55 : decode prog_6_method_16_code 55 = .ok (.iaload, 1) := by decide +kernel
theorem d_SK_wear_56 : decode prog_6_method_16_code 56 = .ok (.iload_n 1, 1) := by decide +kernel
theorem d_SK_wear_57 : decode prog_6_method_16_code 57 = .ok (.iand, 1) := by decide +kernel
theorem d_SK_wear_58 : decode prog_6_method_16_code 58 = .ok (.invokevirtual 137, 3) := by decide +kernel
theorem d_SK_wear_61 : decode prog_6_method_16_code 61 = .ok (.iinc 2 1, 3) := by decide +kernel
theorem d_SK_wear_64 : decode prog_6_method_16_code 64 = .ok (.goto (-42), 3) := by decide +kernel
theorem d_SK_wear_67 : decode prog_6_method_16_code 67 = .ok (.iload_n 1, 1) := by decide +kernel
theorem d_SK_wear_68 : decode prog_6_method_16_code 68 = .ok (.ireturn, 1) := by decide +kernel
theorem nI_ne_m1 {v : Nat} (h : v < 14) : ¬ nI v = -1 := (by decide +kernel : ∀ v, v < 14 → ¬ nI v = -1) v h
set_option maxHeartbeats 4000000 in
set_option maxRecDepth 100000 in
theorem c_SK_wear (l : Launch) (dC : Nat → ClassId) (dI : Nat → Nat → Nat) (cI cJ cZ : ClassId) (k nr fr rs at_ h : Nat) (al : Int32) (br : Int64) (N R0 : Nat → Int32) (hal14 : ∀ a, bt al a = true → a < 14) : Met l ⟨"CutPoints$Sketch", "wear", "()I"⟩ (Cond.code ⟨"CutPoints$Sketch", "wear", "()I"⟩ prog_6_method_16_code 4 (some .int) :: TT) (rmk 2 44) (PM dC dI cI cJ cZ [.ref k] [(k, .inr (2, [.ref nr, .ref fr, .ref rs, .ref at_, .ref h, .int al, .long br])), (nr, .inl (cI, 14, .inl N)), (rs, .inl (cI, 14, .inl R0))]) (va_Qi (S := Nat → Int32) (fun r u => WR (wS al N) r) (fun u t => va_P (dC, dI) cls ([(k, .inr (2, [.ref nr, .ref fr, .ref rs, .ref at_, .ref h, .int al, .long br])), (nr, .inl (cI, 14, .inl N)), (rs, .inl (cI, 14, .inl u))]) t.heap) (ow [(k, .inr (2, [.ref nr, .ref fr, .ref rs, .ref at_, .ref h, .int al, .long br])), (nr, .inl (cI, 14, .inl N)), (rs, .inl (cI, 14, .inl R0))])) 0 0 (ow [(k, .inr (2, [.ref nr, .ref fr, .ref rs, .ref at_, .ref h, .int al, .long br])), (nr, .inl (cI, 14, .inl N)), (rs, .inl (cI, 14, .inl R0))]) := by
  refine Met.ofW (cc := prog_6_method_16_code) (maxL := 4) (ret := (some .int)) (by decide) rfl ?_
  intro p e s m args below meth c s₁ B hml hv
  obtain ⟨rfl, hP, hK, hD0⟩ := hv
  have hx := B.exec
  have hb := B.bytes
  have hr := B.returns
  have hts : ∀ w ∈ TT, w.before _ s = true := fun w h => atoms_spec (ws := (Cond.code ⟨"CutPoints$Sketch", "wear", "()I"⟩ prog_6_method_16_code 4 (some .int) :: TT)) B.pre w (List.mem_cons_of_mem _ h)
  have hown : s.vm.findClass "CutPoints$Sketch" = some m.cls := findClass_of_methodNamed B.named
  have hlocks := B.notSynchronized
  have hD := hD0.mine
  have hS : va_S (ow [(k, .inr (2, [.ref nr, .ref fr, .ref rs, .ref at_, .ref h, .int al, .long br])), (nr, .inl (cI, 14, .inl N)), (rs, .inl (cI, 14, .inl R0))]) s.heap s.heap [] := va_S.rf
  have hl := lv_entry ([.ref k]) (n := 4) (Nat.le_of_ble_eq_true rfl)
  rw [lg_entry_eq]
  generalize (lg_sl ([.ref k]) ++ List.replicate (4 - (lg_sl ([.ref k])).length) Slot.unset).toArray = ls at hl ⊢
  have hl : lv_has ls 4 [(0, .ref k)] := hl
  refine lv_aload_n hx hb d_SK_wear_0 rfl (lv_at hl 0 rfl) ?_
  refine va_get (D := (dC, dI)) (ci := 2) (v := .ref nr) (C := R_SK) (T := F_SK) (N := 7) hx hb hts in_SK hown hK.1 hP 0 rfl rfl 0 (by decide) (hts _ wfl_SK_9) (fun _ h9 => h9) rfl d_SK_wear_1 ?_
  refine lv_iconst (v := (nI 0)) hx hb d_SK_wear_4 (by decide) ?_
  refine lv_aload_n hx hb d_SK_wear_5 rfl (lv_at hl 0 rfl) ?_
  refine va_get (D := (dC, dI)) (ci := 2) (v := .ref rs) (C := R_SK) (T := F_SK) (N := 7) hx hb hts in_SK hown hK.1 hP 0 rfl rfl 2 (by decide) (hts _ wfl_SK_18) (fun _ h9 => h9) rfl d_SK_wear_6 ?_
  refine lv_iconst (v := (nI 0)) hx hb d_SK_wear_9 (by decide) ?_
  refine lv_bipush (v := (nI 14)) hx hb d_SK_wear_10 (by decide) ?_
  refine va_copyi hx hb (hml.trans hl.1.symm) hown (hts _ wml_SK_128) (hts _ wnat_JS_arraycopy) (hts _ wst_JS_arraycopy) (hts _ wini_JS) hK.1 hP hD hS 1 2 0 0 rfl rfl rfl rfl rfl (by decide) (by decide) (by decide) (by decide) (by decide) (fun _ _ => rfl) (Nat.le_of_ble_eq_true rfl) (Nat.le_of_ble_eq_true rfl) d_SK_wear_12 (fun H locs hP hD hS => ?_)
  have hP : va_P (dC, dI) cls [(k, .inr (2, [.ref nr, .ref fr, .ref rs, .ref at_, .ref h, .int al, .long br])), (nr, .inl (cI, 14, .inl N)), (rs, .inl (cI, 14, .inl (va_cpy N R0 0 0 14)))] H := hP
  have hD : va_D (ow [(k, .inr (2, [.ref nr, .ref fr, .ref rs, .ref at_, .ref h, .int al, .long br])), (nr, .inl (cI, 14, .inl N)), (rs, .inl (cI, 14, .inl R0))]) [(k, .inr (2, [.ref nr, .ref fr, .ref rs, .ref at_, .ref h, .int al, .long br])), (nr, .inl (cI, 14, .inl N)), (rs, .inl (cI, 14, .inl (va_cpy N R0 0 0 14)))] := hD
  refine lv_aload_n hx hb d_SK_wear_15 rfl (lv_at hl 0 rfl) ?_
  refine va_get (D := (dC, dI)) (ci := 2) (v := .int al) (C := R_SK) (T := F_SK) (N := 7) hx hb hts in_SK hown hK.1 hP 0 rfl rfl 5 (by decide) (hts _ wfl_SK_38) (fun _ h9 => h9) rfl d_SK_wear_16 ?_
  refine lv_istore_n (lv' := [(1, .int al), (0, .ref k)]) hx hb d_SK_wear_19 rfl hl (by decide) rfl (fun ls hl => ?_)
  refine lv_iconst (v := (nI 0)) hx hb d_SK_wear_20 (by decide) ?_
  refine lv_istore_n (lv' := [(2, .int (nI 0)), (1, .int al), (0, .ref k)]) hx hb d_SK_wear_21 rfl hl (by decide) rfl (fun ls hl => ?_)
  have L22_1 : ∀ (n : Nat) (R2 : Nat → Int32) (lf : Int32) (rd : Nat) (hn : 14 - rd < n) (hrd : rd ≤ 14) (hw : wrI (wS al N) lf R2 rd) (H : Heap) (locs : List Loc) (hP : va_P (dC, dI) cls [(k, .inr (2, [.ref nr, .ref fr, .ref rs, .ref at_, .ref h, .int al, .long br])), (nr, .inl (cI, 14, .inl N)), (rs, .inl (cI, 14, .inl R2))] H) (hD : va_D (ow [(k, .inr (2, [.ref nr, .ref fr, .ref rs, .ref at_, .ref h, .int al, .long br])), (nr, .inl (cI, 14, .inl N)), (rs, .inl (cI, 14, .inl R0))]) [(k, .inr (2, [.ref nr, .ref fr, .ref rs, .ref at_, .ref h, .int al, .long br])), (nr, .inl (cI, 14, .inl N)), (rs, .inl (cI, 14, .inl R2))]) (hS : va_S (ow [(k, .inr (2, [.ref nr, .ref fr, .ref rs, .ref at_, .ref h, .int al, .long br])), (nr, .inl (cI, 14, .inl N)), (rs, .inl (cI, 14, .inl R0))]) s.heap H locs) (ls : Array Slot) (hl : lv_has ls 4 [(0, .ref k), (1, .int lf), (2, .int (nI rd))]), W p l e (headSpec (Cond.code ⟨"CutPoints$Sketch", "wear", "()I"⟩ prog_6_method_16_code 4 (some .int) :: TT) (rmk 2 44)).room s m ([.ref k] : List Value).toArray below meth c H locs 0 0 (MQ below (va_Qi (S := Nat → Int32) (fun r u => WR (wS al N) r) (fun u t => va_P (dC, dI) cls ([(k, .inr (2, [.ref nr, .ref fr, .ref rs, .ref at_, .ref h, .int al, .long br])), (nr, .inl (cI, 14, .inl N)), (rs, .inl (cI, 14, .inl u))]) t.heap) (ow [(k, .inr (2, [.ref nr, .ref fr, .ref rs, .ref at_, .ref h, .int al, .long br])), (nr, .inl (cI, 14, .inl N)), (rs, .inl (cI, 14, .inl R0))])) ([.ref k] : List Value).toArray s 0 0 (ow [(k, .inr (2, [.ref nr, .ref fr, .ref rs, .ref at_, .ref h, .int al, .long br])), (nr, .inl (cI, 14, .inl N)), (rs, .inl (cI, 14, .inl R0))])) (F0 m 22 ls []) := by
    intro n_22
    induction n_22 with
    | zero =>
      intro R2 lf rd hn_22
      exact absurd hn_22 (Nat.not_lt_zero _)
    | succ n_22 ih_22 =>
      intro R2 lf rd hn_22 hrd hw H locs hP hD hS ls hl
      refine lv_iload_n hx hb d_SK_wear_22 rfl (lv_at hl 2 rfl) ?_
      refine lv_bipush (v := (nI 14)) hx hb d_SK_wear_23 (by decide) ?_
      refine x_cmp_ge (a := rd) (b := 14) (tgt := 67) hx hb (by omega) (by omega) d_SK_wear_25 (by decide) (fun c_2 => ?_) (fun c_2 => ?_)
      · skip
        refine lv_iload_n hx hb d_SK_wear_67 rfl (lv_at hl 1 rfl) ?_
        exact W.iret (v := lf) hx hb hr (fun t ht _ => ⟨⟨_, (R2), rfl, (wrI_z hw (by assumption)), by show va_P (dC, dI) cls _ t.heap; rw [ht]; exact hP⟩, hS.F ht⟩) hS.2.2 d_SK_wear_68
      · skip
        refine lv_aload_n hx hb d_SK_wear_28 rfl (lv_at hl 0 rfl) ?_
        refine lv_iload_n hx hb d_SK_wear_29 rfl (lv_at hl 1 rfl) ?_
        refine vp_callSi (va_Run.run (k_V (n := 1) (C := R_SK) (rest := []) ⟨hx, hb, hml, hown, hts⟩ (c_SK_thinNode l dC dI cI cJ cZ k nr fr rs at_ h al br R2 lf) wml_SK_134 wim_SK_thinNode wsel_SK_thinNode wini_SK wcode_SK_thinNode (by decide +kernel) ⟨Nat.le_of_ble_eq_true rfl, Nat.le_of_ble_eq_true rfl⟩ (preV_R (q := (R_SK, F_SK, 7)) (ci := 2) (q0 := 0) (hP.sub (ws' := [(k, .inr (2, [.ref nr, .ref fr, .ref rs, .ref at_, .ref h, .int al, .long br])), (rs, .inl (cI, 14, .inl R2))]) [0, 2] rfl) hK rfl rfl) rfl hl.1 rfl (Nat.le_of_ble_eq_true rfl) d_SK_wear_30 ⟨Nat.zero_le _, Nat.zero_le _⟩)) (fun r_3 hr_4 => ?_)
        refine lv_istore_n (lv' := [(3, .int r_3), (0, .ref k), (1, .int lf), (2, .int (nI rd))]) hx hb d_SK_wear_33 rfl hl (by decide) rfl (fun ls hl => ?_)
        refine lv_iload_n hx hb d_SK_wear_34 rfl (lv_at hl 0 rfl) ?_
        refine lv_iconst (v := (-1)) hx hb d_SK_wear_35 (by decide) ?_
        refine lv_icmp_ne (tgt := 41) hx hb d_SK_wear_36 (by decide) (fun c_5 => ?_) (fun c_5 => ?_)
        · skip
          obtain ⟨v9, hv9, ev9, tv9⟩ := Or.resolve_left hr_4 (fun q9 => c_5 q9.1)
          refine lv_iload_n hx hb d_SK_wear_41 rfl (lv_at hl 2 rfl) ?_
          refine lv_iconst (v := (nI 1)) hx hb d_SK_wear_42 (by decide) ?_
          refine lv_iload_n hx hb d_SK_wear_43 rfl (lv_at hl 0 rfl) ?_
          refine xe_i (y := (nI v9)) ev9 ?_
          refine lv_ishl hx hb d_SK_wear_44 ?_
          refine xe_i (y := (sb v9)) rfl ?_
          refine lv_iconst (v := (-1)) hx hb d_SK_wear_45 (by decide) ?_
          refine lv_ixor hx hb d_SK_wear_46 ?_
          refine lv_iand hx hb d_SK_wear_47 ?_
          refine lv_istore_n (lv' := [(1, .int (lf &&& ((sb v9) ^^^ (-1)))), (3, .int r_3), (0, .ref k), (2, .int (nI rd))]) hx hb d_SK_wear_48 rfl hl (by decide) rfl (fun ls hl => ?_)
          refine lv_aload_n hx hb d_SK_wear_49 rfl (lv_at hl 2 rfl) ?_
          refine lv_aload_n hx hb d_SK_wear_50 rfl (lv_at hl 2 rfl) ?_
          refine va_get (D := (dC, dI)) (ci := 2) (v := .ref rs) (C := R_SK) (T := F_SK) (N := 7) hx hb hts in_SK hown hK.1 hP 0 rfl rfl 2 (by decide) (hts _ wfl_SK_18) (fun _ h9 => h9) rfl d_SK_wear_51 ?_
          refine lv_iload_n hx hb d_SK_wear_54 rfl (lv_at hl 1 rfl) ?_
          refine xe_i (y := (nI v9)) ev9 ?_
          refine x_iald (n := 14) (f := R2) (j := v9) hx hb hK.1 hP 2 0 rfl rfl (by omega) (by omega) d_SK_wear_55 ?_
          refine lv_iload_n hx hb d_SK_wear_56 rfl (lv_at hl 0 rfl) ?_
          refine lv_iand hx hb d_SK_wear_57 ?_
          refine x_cv (k_V (n := 1) (C := R_SK) (rest := []) ⟨hx, hb, hml, hown, hts⟩ (c_SK_linkAll l dC dI cI cJ cZ k nr fr rs at_ h al br R2 ((R2 v9) &&& (lf &&& ((sb v9) ^^^ (-1))))) wml_SK_137 wim_SK_linkAll wsel_SK_linkAll wini_SK wcode_SK_linkAll (by decide +kernel) ⟨Nat.le_of_ble_eq_true rfl, Nat.le_of_ble_eq_true rfl⟩ (preV_M (q := (R_SK, F_SK, 7)) (ci := 2) (q0 := 0) (hP.sub (ws' := [(k, .inr (2, [.ref nr, .ref fr, .ref rs, .ref at_, .ref h, .int al, .long br])), (rs, .inl (cI, 14, .inl R2))]) [0, 2] rfl) hK (hD.sub (ws' := [(k, .inr (2, [.ref nr, .ref fr, .ref rs, .ref at_, .ref h, .int al, .long br])), (rs, .inl (cI, 14, .inl R2))]) [0, 2] (by decide) rfl) rfl rfl) rfl hl.1 rfl (Nat.le_of_ble_eq_true rfl) d_SK_wear_58 ⟨Nat.zero_le _, Nat.zero_le _⟩) hP hD hS [0, 2] rfl (fun _ => rfl) (fun u_6 H locs hu_6 hP hS => ?_)
          obtain ⟨R9_6, rfl⟩ : ∃ z, z = u_6 := ⟨_, rfl⟩
          have hP : va_P (dC, dI) cls [(k, .inr (2, [.ref nr, .ref fr, .ref rs, .ref at_, .ref h, .int al, .long br])), (nr, .inl (cI, 14, .inl N)), (rs, .inl (cI, 14, .inl R9_6))] H := hP
          have hD := hD.addr (ws' := [(k, .inr (2, [.ref nr, .ref fr, .ref rs, .ref at_, .ref h, .int al, .long br])), (nr, .inl (cI, 14, .inl N)), (rs, .inl (cI, 14, .inl R9_6))]) rfl
          refine lv_iinc (v := (nI (rd + 1))) (lv' := [(2, .int (nI (rd + 1))), (1, .int (lf &&& ((sb v9) ^^^ (-1)))), (3, .int r_3), (0, .ref k)]) hx hb d_SK_wear_61 hl (k := 3) rfl (nI_1 _) (by decide) rfl (fun ls hl => ?_)
          refine lv_goto (tgt := 22) hx hb d_SK_wear_64 (by decide) ?_
          exact ih_22 R9_6 (lf &&& ((sb v9) ^^^ (-1))) (rd + 1) (by omega) (by first | assumption | omega) (wrI_n hw hv9 tv9 hu_6) _ _ hP hD hS ls (lv_sub hl [3, 1, 0] rfl)
        · skip
          refine lv_iload_n hx hb d_SK_wear_39 rfl (lv_at hl 2 rfl) ?_
          exact W.iret (v := lf) hx hb hr (fun t ht _ => ⟨⟨_, (R2), rfl, ((hr_4).elim (fun q9 => wrI_e hw q9.2) (fun ⟨v9, hv9, ev9, _⟩ => absurd (ev9.symm.trans c_5) (nI_ne_m1 hv9))), by show va_P (dC, dI) cls _ t.heap; rw [ht]; exact hP⟩, hS.F ht⟩) hS.2.2 d_SK_wear_40
  exact L22_1 ((14 - 0) + 1) (va_cpy N R0 0 0 14) al 0 (Nat.lt_succ_self _) (by first | assumption | omega) (wrI_0 hal14) _ _ hP hD hS ls (lv_sub hl [2, 1, 0] rfl)

theorem d_SK_draw_0 : decode prog_6_method_2_code 0 = .ok (.aload_n 0, 1) := by decide +kernel
theorem d_SK_draw_1 : decode prog_6_method_2_code 1 = .ok (.iconst 1, 1) := by decide +kernel
theorem d_SK_draw_2 : decode prog_6_method_2_code 2 = .ok (.aload_n 1, 1) := by decide +kernel
theorem d_SK_draw_3 : decode prog_6_method_2_code 3 = .ok (.getfield 32, 3) := by decide +kernel
theorem d_SK_draw_6 : decode prog_6_method_2_code 6 = .ok (.ishl, 1) := by decide +kernel
theorem d_SK_draw_7 : decode prog_6_method_2_code 7 = .ok (.iconst 1, 1) := by decide +kernel
theorem d_SK_draw_8 : decode prog_6_method_2_code 8 = .ok (.isub, 1) := by decide +kernel
theorem d_SK_draw_9 : decode prog_6_method_2_code 9 = .ok (.putfield 38, 3) := by decide +kernel
theorem d_SK_draw_12 : decode prog_6_method_2_code 12 = .ok (.aload_n 1, 1) := by decide +kernel
theorem d_SK_draw_13 : decode prog_6_method_2_code 13 = .ok (.lload_n 2, 1) := by decide +kernel
theorem d_SK_draw_14 : decode prog_6_method_2_code 14 = .ok (.aload_n 0, 1) := by decide +kernel
theorem d_SK_draw_15 : decode prog_6_method_2_code 15 = .ok (.getfield 9, 3) := by decide +kernel
theorem d_SK_draw_18 : decode prog_6_method_2_code 18 = .ok (.invokestatic 41, 3) := by decide +kernel
theorem d_SK_draw_21 : decode prog_6_method_2_code 21 = .ok (.aload_n 0, 1) := by decide +kernel
theorem d_SK_draw_22 : decode prog_6_method_2_code 22 = .ok (.aload_n 1, 1) := by decide +kernel
theorem d_SK_draw_23 : decode prog_6_method_2_code 23 = .ok (.lload_n 2, 1) := by decide +kernel
theorem d_SK_draw_24 : decode prog_6_method_2_code 24 = .ok (.invokevirtual 45, 3) := by decide +kernel
theorem d_SK_draw_27 : decode prog_6_method_2_code 27 = .ok (.aload_n 0, 1) := by decide +kernel
theorem d_SK_draw_28 : decode prog_6_method_2_code 28 = .ok (.invokevirtual 49, 3) := by decide +kernel
theorem d_SK_draw_31 : decode prog_6_method_2_code 31 = .ok (.aload_n 0, 1) := by decide +kernel
theorem d_SK_draw_32 : decode prog_6_method_2_code 32 = .ok (.aload_n 0, 1) := by decide +kernel
theorem d_SK_draw_33 : decode prog_6_method_2_code 33 = .ok (.invokevirtual 52, 3) := by decide +kernel
theorem d_SK_draw_36 : decode prog_6_method_2_code 36 = .ok (.putfield 56, 3) := by decide +kernel
theorem d_SK_draw_39 : decode prog_6_method_2_code 39 = .ok (.aload_n 1, 1) := by decide +kernel
theorem d_SK_draw_40 : decode prog_6_method_2_code 40 = .ok (.lload_n 2, 1) := by decide +kernel
theorem d_SK_draw_41 : decode prog_6_method_2_code 41 = .ok (.aload_n 0, 1) := by decide +kernel
theorem d_SK_draw_42 : decode prog_6_method_2_code 42 = .ok (.getfield 56, 3) := by decide +kernel
theorem d_SK_draw_45 : decode prog_6_method_2_code 45 = .ok (.ldc2_w 60, 3) := by decide +kernel
theorem d_SK_draw_48 : decode prog_6_method_2_code 48 = .ok (.lxor, 1) := by decide +kernel
theorem d_SK_draw_49 : decode prog_6_method_2_code 49 = .ok (.land, 1) := by decide +kernel
theorem d_SK_draw_50 : decode prog_6_method_2_code 50 = .ok (.aload_n 0, 1) := by decide +kernel
theorem d_SK_draw_51 : decode prog_6_method_2_code 51 = .ok (.getfield 15, 3) := by decide +kernel
theorem d_SK_draw_54 : decode prog_6_method_2_code 54 = .ok (.invokestatic 41, 3) := by decide +kernel
theorem d_SK_draw_57 : decode prog_6_method_2_code 57 = .ok (.return_, 1) := by decide +kernel
set_option maxHeartbeats 4000000 in
set_option maxRecDepth 100000 in
theorem c_SK_draw (l : Launch) (dC : Nat → ClassId) (dI : Nat → Nat → Nat) (cI cJ cZ : ClassId) (k nr fr rs at_ h : Nat) (al0 : Int32) (br0 : Int64) (g a1 a2 nd ar : Nat) (pr : Int64) (F G : Nat → Nat) (hF : ∀ k, F k < 14) (hG : ∀ k, G k < 14) (N0 Fm0 : Nat → Int32) (A0 : Nat → Int64) (b1 : Nat) (zi : Int32) (S0 : Nat → Int64) (dr : Int64) (hGr : GOK (lb dr) F G nd) : Met l ⟨"CutPoints$Sketch", "draw", "(LCutPoints$Graph;J)V"⟩ (Cond.code ⟨"CutPoints$Sketch", "draw", "(LCutPoints$Graph;J)V"⟩ prog_6_method_2_code 4 none :: TT) (rmk 3 72) (PM dC dI cI cJ cZ [.ref k, .ref g, .long dr] [(k, .inr (2, [.ref nr, .ref fr, .ref rs, .ref at_, .ref h, .int al0, .long br0])), (nr, .inl (cI, 14, .inl N0)), (fr, .inl (cI, 14, .inl Fm0)), (at_, .inl (cJ, 14, .inr (.inl A0))), (h, .inr (3, [.ref b1, .int zi])), (b1, .inl (cJ, 41, .inr (.inl S0))), (g, .inr (1, [.ref a1, .ref a2, .int (nI nd), .int (nI ar), .long pr])), (a1, .inl (cI, 41, .inl (nF F))), (a2, .inl (cI, 41, .inl (nF G)))]) (va_Qv (S := (Nat → Int32) × (Nat → Int32) × (Nat → Int64) × (Nat → Int64) × Nat × Int32 × Int64) (fun u => SKI (lb dr) F G nd u.1 u.2.1 u.2.2.1 u.2.2.2.1 u.2.2.2.2.1 u.2.2.2.2.2.1 u.2.2.2.2.2.2) (fun u t => va_P (dC, dI) cls ([(k, .inr (2, [.ref nr, .ref fr, .ref rs, .ref at_, .ref h, .int u.2.2.2.2.2.1, .long u.2.2.2.2.2.2])), (nr, .inl (cI, 14, .inl u.1)), (fr, .inl (cI, 14, .inl u.2.1)), (at_, .inl (cJ, 14, .inr (.inl u.2.2.1))), (h, .inr (3, [.ref b1, .int (nI u.2.2.2.2.1)])), (b1, .inl (cJ, 41, .inr (.inl u.2.2.2.1))), (g, .inr (1, [.ref a1, .ref a2, .int (nI nd), .int (nI ar), .long pr])), (a1, .inl (cI, 41, .inl (nF F))), (a2, .inl (cI, 41, .inl (nF G)))]) t.heap) (ow [(k, .inr (2, [.ref nr, .ref fr, .ref rs, .ref at_, .ref h, .int al0, .long br0])), (nr, .inl (cI, 14, .inl N0)), (fr, .inl (cI, 14, .inl Fm0)), (at_, .inl (cJ, 14, .inr (.inl A0))), (h, .inr (3, [.ref b1, .int zi])), (b1, .inl (cJ, 41, .inr (.inl S0))), (g, .inr (1, [.ref a1, .ref a2, .int (nI nd), .int (nI ar), .long pr])), (a1, .inl (cI, 41, .inl (nF F))), (a2, .inl (cI, 41, .inl (nF G)))])) 0 0 (ow [(k, .inr (2, [.ref nr, .ref fr, .ref rs, .ref at_, .ref h, .int al0, .long br0])), (nr, .inl (cI, 14, .inl N0)), (fr, .inl (cI, 14, .inl Fm0)), (at_, .inl (cJ, 14, .inr (.inl A0))), (h, .inr (3, [.ref b1, .int zi])), (b1, .inl (cJ, 41, .inr (.inl S0))), (g, .inr (1, [.ref a1, .ref a2, .int (nI nd), .int (nI ar), .long pr])), (a1, .inl (cI, 41, .inl (nF F))), (a2, .inl (cI, 41, .inl (nF G)))]) := by
  refine Met.ofW (cc := prog_6_method_2_code) (maxL := 4) (ret := none) (by decide) rfl ?_
  intro p e s m args below meth c s₁ B hml hv
  obtain ⟨rfl, hP, hK, hD0⟩ := hv
  have hx := B.exec
  have hb := B.bytes
  have hr := B.returns
  have hts : ∀ w ∈ TT, w.before _ s = true := fun w h => atoms_spec (ws := (Cond.code ⟨"CutPoints$Sketch", "draw", "(LCutPoints$Graph;J)V"⟩ prog_6_method_2_code 4 none :: TT)) B.pre w (List.mem_cons_of_mem _ h)
  have hown : s.vm.findClass "CutPoints$Sketch" = some m.cls := findClass_of_methodNamed B.named
  have hlocks := B.notSynchronized
  have hD := hD0.mine
  have hS : va_S (ow [(k, .inr (2, [.ref nr, .ref fr, .ref rs, .ref at_, .ref h, .int al0, .long br0])), (nr, .inl (cI, 14, .inl N0)), (fr, .inl (cI, 14, .inl Fm0)), (at_, .inl (cJ, 14, .inr (.inl A0))), (h, .inr (3, [.ref b1, .int zi])), (b1, .inl (cJ, 41, .inr (.inl S0))), (g, .inr (1, [.ref a1, .ref a2, .int (nI nd), .int (nI ar), .long pr])), (a1, .inl (cI, 41, .inl (nF F))), (a2, .inl (cI, 41, .inl (nF G)))]) s.heap s.heap [] := va_S.rf
  have hl := lv_entry ([.ref k, .ref g, .long dr]) (n := 4) (Nat.le_of_ble_eq_true rfl)
  rw [lg_entry_eq]
  generalize (lg_sl ([.ref k, .ref g, .long dr]) ++ List.replicate (4 - (lg_sl ([.ref k, .ref g, .long dr])).length) Slot.unset).toArray = ls at hl ⊢
  have hl : lv_has ls 4 [(0, .ref k), (1, .ref g), (2, .long dr)] := hl
  refine lv_aload_n hx hb d_SK_draw_0 rfl (lv_at hl 0 rfl) ?_
  refine lv_iconst (v := (nI 1)) hx hb d_SK_draw_1 (by decide) ?_
  refine lv_aload_n hx hb d_SK_draw_2 rfl (lv_at hl 1 rfl) ?_
  refine va_get (D := (dC, dI)) (ci := 1) (v := .int (nI nd)) (C := R_GR) (T := F_GR) (N := 5) hx hb hts in_GR hown hK.1 hP 6 rfl rfl 2 (by decide) (hts _ wfl_SK_32) (fun _ h9 => h9) rfl d_SK_draw_3 ?_
  refine lv_ishl hx hb d_SK_draw_6 ?_
  refine xe_i (y := (sb nd)) rfl ?_
  refine lv_iconst (v := (nI 1)) hx hb d_SK_draw_7 (by decide) ?_
  refine lv_isub hx hb d_SK_draw_8 ?_
  refine va_put (D := (dC, dI)) (ci := 2) (v := .int ((sb nd) - (nI 1))) (ty := .int) (C := R_SK) (T := F_SK) (N := 7) hx hb hts in_SK t_SK t_SK_ok n_SK hown hK.1 hP hD hS 0 rfl rfl 5 (by decide) (hts _ wfl_SK_38) (fun _ h9 => h9) rfl (by decide +kernel) rfl rfl (Nat.le_of_ble_eq_true rfl) d_SK_draw_9 (fun H locs hP hD hS => ?_)
  have hP : va_P (dC, dI) cls [(k, .inr (2, [.ref nr, .ref fr, .ref rs, .ref at_, .ref h, .int ((sb nd) - (nI 1)), .long br0])), (nr, .inl (cI, 14, .inl N0)), (fr, .inl (cI, 14, .inl Fm0)), (at_, .inl (cJ, 14, .inr (.inl A0))), (h, .inr (3, [.ref b1, .int zi])), (b1, .inl (cJ, 41, .inr (.inl S0))), (g, .inr (1, [.ref a1, .ref a2, .int (nI nd), .int (nI ar), .long pr])), (a1, .inl (cI, 41, .inl (nF F))), (a2, .inl (cI, 41, .inl (nF G)))] H := hP
  have hD : va_D (ow [(k, .inr (2, [.ref nr, .ref fr, .ref rs, .ref at_, .ref h, .int al0, .long br0])), (nr, .inl (cI, 14, .inl N0)), (fr, .inl (cI, 14, .inl Fm0)), (at_, .inl (cJ, 14, .inr (.inl A0))), (h, .inr (3, [.ref b1, .int zi])), (b1, .inl (cJ, 41, .inr (.inl S0))), (g, .inr (1, [.ref a1, .ref a2, .int (nI nd), .int (nI ar), .long pr])), (a1, .inl (cI, 41, .inl (nF F))), (a2, .inl (cI, 41, .inl (nF G)))]) [(k, .inr (2, [.ref nr, .ref fr, .ref rs, .ref at_, .ref h, .int ((sb nd) - (nI 1)), .long br0])), (nr, .inl (cI, 14, .inl N0)), (fr, .inl (cI, 14, .inl Fm0)), (at_, .inl (cJ, 14, .inr (.inl A0))), (h, .inr (3, [.ref b1, .int zi])), (b1, .inl (cJ, 41, .inr (.inl S0))), (g, .inr (1, [.ref a1, .ref a2, .int (nI nd), .int (nI ar), .long pr])), (a1, .inl (cI, 41, .inl (nF F))), (a2, .inl (cI, 41, .inl (nF G)))] := hD
  refine lv_aload_n hx hb d_SK_draw_12 rfl (lv_at hl 1 rfl) ?_
  refine lv_lload_n hx hb d_SK_draw_13 rfl (lv_at hl 2 rfl) ?_
  refine lv_aload_n hx hb d_SK_draw_14 rfl (lv_at hl 0 rfl) ?_
  refine va_get (D := (dC, dI)) (ci := 2) (v := .ref nr) (C := R_SK) (T := F_SK) (N := 7) hx hb hts in_SK hown hK.1 hP 0 rfl rfl 0 (by decide) (hts _ wfl_SK_9) (fun _ h9 => h9) rfl d_SK_draw_15 ?_
  refine x_cv (k_S (n := 3) (rest := []) ⟨hx, hb, hml, hown, hts⟩ (c_SK_fillRows l dC dI cI cJ cZ g a1 a2 nd ar pr F G (by first | assumption | omega) (by first | assumption | omega) nr N0 dr) wml_SK_41 wst_SK_fillRows wini_SK wcode_SK_fillRows (by decide +kernel) ⟨Nat.le_of_ble_eq_true rfl, Nat.le_of_ble_eq_true rfl⟩ (pre_M (hP.sub (ws' := [(g, .inr (1, [.ref a1, .ref a2, .int (nI nd), .int (nI ar), .long pr])), (a1, .inl (cI, 41, .inl (nF F))), (a2, .inl (cI, 41, .inl (nF G))), (nr, .inl (cI, 14, .inl N0))]) [6, 7, 8, 1] rfl) hK (hD.sub (ws' := [(g, .inr (1, [.ref a1, .ref a2, .int (nI nd), .int (nI ar), .long pr])), (a1, .inl (cI, 41, .inl (nF F))), (a2, .inl (cI, 41, .inl (nF G))), (nr, .inl (cI, 14, .inl N0))]) [6, 7, 8, 1] (by decide) rfl)) rfl hl.1 rfl (Nat.le_of_ble_eq_true rfl) d_SK_draw_18 ⟨Nat.zero_le _, Nat.zero_le _⟩) hP hD hS [6, 7, 8, 1] rfl (fun _ => rfl) (fun u_1 H locs hu_1 hP hS => ?_)
  obtain ⟨r9_1, rfl⟩ : ∃ z, z = u_1 := ⟨_, rfl⟩
  have hP : va_P (dC, dI) cls [(k, .inr (2, [.ref nr, .ref fr, .ref rs, .ref at_, .ref h, .int ((sb nd) - (nI 1)), .long br0])), (nr, .inl (cI, 14, .inl r9_1)), (fr, .inl (cI, 14, .inl Fm0)), (at_, .inl (cJ, 14, .inr (.inl A0))), (h, .inr (3, [.ref b1, .int zi])), (b1, .inl (cJ, 41, .inr (.inl S0))), (g, .inr (1, [.ref a1, .ref a2, .int (nI nd), .int (nI ar), .long pr])), (a1, .inl (cI, 41, .inl (nF F))), (a2, .inl (cI, 41, .inl (nF G)))] H := hP
  have hD := hD.addr (ws' := [(k, .inr (2, [.ref nr, .ref fr, .ref rs, .ref at_, .ref h, .int ((sb nd) - (nI 1)), .long br0])), (nr, .inl (cI, 14, .inl r9_1)), (fr, .inl (cI, 14, .inl Fm0)), (at_, .inl (cJ, 14, .inr (.inl A0))), (h, .inr (3, [.ref b1, .int zi])), (b1, .inl (cJ, 41, .inr (.inl S0))), (g, .inr (1, [.ref a1, .ref a2, .int (nI nd), .int (nI ar), .long pr])), (a1, .inl (cI, 41, .inl (nF F))), (a2, .inl (cI, 41, .inl (nF G)))]) rfl
  refine lv_aload_n hx hb d_SK_draw_21 rfl (lv_at hl 0 rfl) ?_
  refine lv_aload_n hx hb d_SK_draw_22 rfl (lv_at hl 1 rfl) ?_
  refine lv_lload_n hx hb d_SK_draw_23 rfl (lv_at hl 2 rfl) ?_
  refine x_cv (k_V (n := 2) (C := R_SK) (rest := []) ⟨hx, hb, hml, hown, hts⟩ (c_SK_fillArcs l dC dI cI cJ cZ k nr fr rs at_ h ((sb nd) - (nI 1)) br0 g a1 a2 nd ar pr F G (by first | assumption | omega) (by first | assumption | omega) A0 dr) wml_SK_45 wim_SK_fillArcs wsel_SK_fillArcs wini_SK wcode_SK_fillArcs (by decide +kernel) ⟨Nat.le_of_ble_eq_true rfl, Nat.le_of_ble_eq_true rfl⟩ (preV_M (q := (R_SK, F_SK, 7)) (ci := 2) (q0 := 0) (hP.sub (ws' := [(k, .inr (2, [.ref nr, .ref fr, .ref rs, .ref at_, .ref h, .int ((sb nd) - (nI 1)), .long br0])), (g, .inr (1, [.ref a1, .ref a2, .int (nI nd), .int (nI ar), .long pr])), (a1, .inl (cI, 41, .inl (nF F))), (a2, .inl (cI, 41, .inl (nF G))), (at_, .inl (cJ, 14, .inr (.inl A0)))]) [0, 6, 7, 8, 3] rfl) hK (hD.sub (ws' := [(k, .inr (2, [.ref nr, .ref fr, .ref rs, .ref at_, .ref h, .int ((sb nd) - (nI 1)), .long br0])), (g, .inr (1, [.ref a1, .ref a2, .int (nI nd), .int (nI ar), .long pr])), (a1, .inl (cI, 41, .inl (nF F))), (a2, .inl (cI, 41, .inl (nF G))), (at_, .inl (cJ, 14, .inr (.inl A0)))]) [0, 6, 7, 8, 3] (by decide) rfl) rfl rfl) rfl hl.1 rfl (Nat.le_of_ble_eq_true rfl) d_SK_draw_24 ⟨Nat.zero_le _, Nat.zero_le _⟩) hP hD hS [0, 6, 7, 8, 3] rfl (fun _ => rfl) (fun u_2 H locs hu_2 hP hS => ?_)
  obtain ⟨A9_2, rfl⟩ : ∃ z, z = u_2 := ⟨_, rfl⟩
  have hP : va_P (dC, dI) cls [(k, .inr (2, [.ref nr, .ref fr, .ref rs, .ref at_, .ref h, .int ((sb nd) - (nI 1)), .long br0])), (nr, .inl (cI, 14, .inl r9_1)), (fr, .inl (cI, 14, .inl Fm0)), (at_, .inl (cJ, 14, .inr (.inl A9_2))), (h, .inr (3, [.ref b1, .int zi])), (b1, .inl (cJ, 41, .inr (.inl S0))), (g, .inr (1, [.ref a1, .ref a2, .int (nI nd), .int (nI ar), .long pr])), (a1, .inl (cI, 41, .inl (nF F))), (a2, .inl (cI, 41, .inl (nF G)))] H := hP
  have hD := hD.addr (ws' := [(k, .inr (2, [.ref nr, .ref fr, .ref rs, .ref at_, .ref h, .int ((sb nd) - (nI 1)), .long br0])), (nr, .inl (cI, 14, .inl r9_1)), (fr, .inl (cI, 14, .inl Fm0)), (at_, .inl (cJ, 14, .inr (.inl A9_2))), (h, .inr (3, [.ref b1, .int zi])), (b1, .inl (cJ, 41, .inr (.inl S0))), (g, .inr (1, [.ref a1, .ref a2, .int (nI nd), .int (nI ar), .long pr])), (a1, .inl (cI, 41, .inl (nF F))), (a2, .inl (cI, 41, .inl (nF G)))]) rfl
  refine lv_aload_n hx hb d_SK_draw_27 rfl (lv_at hl 0 rfl) ?_
  refine x_cv (k_V (n := 0) (C := R_SK) (rest := []) ⟨hx, hb, hml, hown, hts⟩ (c_SK_findBlocks l dC dI cI cJ cZ k nr fr rs at_ h ((sb nd) - (nI 1)) br0 r9_1 A9_2 b1 zi S0 (lb dr) F G nd hGr hu_1 hu_2 (WX_all hGr.1)) wml_SK_49 wim_SK_findBlocks wsel_SK_findBlocks wini_SK wcode_SK_findBlocks (by decide +kernel) ⟨Nat.le_of_ble_eq_true rfl, Nat.le_of_ble_eq_true rfl⟩ (preV_M (q := (R_SK, F_SK, 7)) (ci := 2) (q0 := 0) (hP.sub (ws' := [(k, .inr (2, [.ref nr, .ref fr, .ref rs, .ref at_, .ref h, .int ((sb nd) - (nI 1)), .long br0])), (nr, .inl (cI, 14, .inl r9_1)), (at_, .inl (cJ, 14, .inr (.inl A9_2))), (h, .inr (3, [.ref b1, .int zi])), (b1, .inl (cJ, 41, .inr (.inl S0)))]) [0, 1, 3, 4, 5] rfl) hK (hD.sub (ws' := [(k, .inr (2, [.ref nr, .ref fr, .ref rs, .ref at_, .ref h, .int ((sb nd) - (nI 1)), .long br0])), (nr, .inl (cI, 14, .inl r9_1)), (at_, .inl (cJ, 14, .inr (.inl A9_2))), (h, .inr (3, [.ref b1, .int zi])), (b1, .inl (cJ, 41, .inr (.inl S0)))]) [0, 1, 3, 4, 5] (by decide) rfl) rfl rfl) rfl hl.1 rfl (Nat.le_of_ble_eq_true rfl) d_SK_draw_28 ⟨Nat.zero_le _, Nat.zero_le _⟩) hP hD hS [0, 1, 3, 4, 5] rfl (fun _ => rfl) (fun u_3 H locs hu_3 hP hS => ?_)
  obtain ⟨S9_3, z9_3⟩ := u_3
  have hP : va_P (dC, dI) cls [(k, .inr (2, [.ref nr, .ref fr, .ref rs, .ref at_, .ref h, .int ((sb nd) - (nI 1)), .long br0])), (nr, .inl (cI, 14, .inl r9_1)), (fr, .inl (cI, 14, .inl Fm0)), (at_, .inl (cJ, 14, .inr (.inl A9_2))), (h, .inr (3, [.ref b1, .int (nI z9_3)])), (b1, .inl (cJ, 41, .inr (.inl S9_3))), (g, .inr (1, [.ref a1, .ref a2, .int (nI nd), .int (nI ar), .long pr])), (a1, .inl (cI, 41, .inl (nF F))), (a2, .inl (cI, 41, .inl (nF G)))] H := hP
  have hD := hD.addr (ws' := [(k, .inr (2, [.ref nr, .ref fr, .ref rs, .ref at_, .ref h, .int ((sb nd) - (nI 1)), .long br0])), (nr, .inl (cI, 14, .inl r9_1)), (fr, .inl (cI, 14, .inl Fm0)), (at_, .inl (cJ, 14, .inr (.inl A9_2))), (h, .inr (3, [.ref b1, .int (nI z9_3)])), (b1, .inl (cJ, 41, .inr (.inl S9_3))), (g, .inr (1, [.ref a1, .ref a2, .int (nI nd), .int (nI ar), .long pr])), (a1, .inl (cI, 41, .inl (nF F))), (a2, .inl (cI, 41, .inl (nF G)))]) rfl
  refine lv_aload_n hx hb d_SK_draw_31 rfl (lv_at hl 0 rfl) ?_
  refine lv_aload_n hx hb d_SK_draw_32 rfl (lv_at hl 0 rfl) ?_
  refine vp_callSl (va_Run.run (k_V (n := 0) (C := R_SK) (rest := [.ref k]) ⟨hx, hb, hml, hown, hts⟩ (c_SK_loneArcs l dC dI cI cJ cZ k nr fr rs at_ h ((sb nd) - (nI 1)) br0 b1 z9_3 S9_3 hu_3.le) wml_SK_52 wim_SK_loneArcs wsel_SK_loneArcs wini_SK wcode_SK_loneArcs (by decide +kernel) ⟨Nat.le_of_ble_eq_true rfl, Nat.le_of_ble_eq_true rfl⟩ (preV_R (q := (R_SK, F_SK, 7)) (ci := 2) (q0 := 0) (hP.sub (ws' := [(k, .inr (2, [.ref nr, .ref fr, .ref rs, .ref at_, .ref h, .int ((sb nd) - (nI 1)), .long br0])), (h, .inr (3, [.ref b1, .int (nI z9_3)])), (b1, .inl (cJ, 41, .inr (.inl S9_3)))]) [0, 4, 5] rfl) hK rfl rfl) rfl hl.1 rfl (Nat.le_of_ble_eq_true rfl) d_SK_draw_33 ⟨Nat.zero_le _, Nat.zero_le _⟩)) (fun r_4 hr_5 => ?_)
  refine va_put (D := (dC, dI)) (ci := 2) (v := .long r_4) (ty := .long) (C := R_SK) (T := F_SK) (N := 7) hx hb hts in_SK t_SK t_SK_ok n_SK hown hK.1 hP hD hS 0 rfl rfl 6 (by decide) (hts _ wfl_SK_56) (fun _ h9 => h9) rfl (by decide +kernel) rfl rfl (Nat.le_of_ble_eq_true rfl) d_SK_draw_36 (fun H locs hP hD hS => ?_)
  have hP : va_P (dC, dI) cls [(k, .inr (2, [.ref nr, .ref fr, .ref rs, .ref at_, .ref h, .int ((sb nd) - (nI 1)), .long r_4])), (nr, .inl (cI, 14, .inl r9_1)), (fr, .inl (cI, 14, .inl Fm0)), (at_, .inl (cJ, 14, .inr (.inl A9_2))), (h, .inr (3, [.ref b1, .int (nI z9_3)])), (b1, .inl (cJ, 41, .inr (.inl S9_3))), (g, .inr (1, [.ref a1, .ref a2, .int (nI nd), .int (nI ar), .long pr])), (a1, .inl (cI, 41, .inl (nF F))), (a2, .inl (cI, 41, .inl (nF G)))] H := hP
  have hD : va_D (ow [(k, .inr (2, [.ref nr, .ref fr, .ref rs, .ref at_, .ref h, .int al0, .long br0])), (nr, .inl (cI, 14, .inl N0)), (fr, .inl (cI, 14, .inl Fm0)), (at_, .inl (cJ, 14, .inr (.inl A0))), (h, .inr (3, [.ref b1, .int zi])), (b1, .inl (cJ, 41, .inr (.inl S0))), (g, .inr (1, [.ref a1, .ref a2, .int (nI nd), .int (nI ar), .long pr])), (a1, .inl (cI, 41, .inl (nF F))), (a2, .inl (cI, 41, .inl (nF G)))]) [(k, .inr (2, [.ref nr, .ref fr, .ref rs, .ref at_, .ref h, .int ((sb nd) - (nI 1)), .long r_4])), (nr, .inl (cI, 14, .inl r9_1)), (fr, .inl (cI, 14, .inl Fm0)), (at_, .inl (cJ, 14, .inr (.inl A9_2))), (h, .inr (3, [.ref b1, .int (nI z9_3)])), (b1, .inl (cJ, 41, .inr (.inl S9_3))), (g, .inr (1, [.ref a1, .ref a2, .int (nI nd), .int (nI ar), .long pr])), (a1, .inl (cI, 41, .inl (nF F))), (a2, .inl (cI, 41, .inl (nF G)))] := hD
  refine lv_aload_n hx hb d_SK_draw_39 rfl (lv_at hl 1 rfl) ?_
  refine lv_lload_n hx hb d_SK_draw_40 rfl (lv_at hl 2 rfl) ?_
  refine lv_aload_n hx hb d_SK_draw_41 rfl (lv_at hl 0 rfl) ?_
  refine va_get (D := (dC, dI)) (ci := 2) (v := .long r_4) (C := R_SK) (T := F_SK) (N := 7) hx hb hts in_SK hown hK.1 hP 0 rfl rfl 6 (by decide) (hts _ wfl_SK_56) (fun _ h9 => h9) rfl d_SK_draw_42 ?_
  refine lv_ldc2 (v := -1) hx hb hown (hts _ wkl_SK_60) d_SK_draw_45 ?_
  refine lv_lxor hx hb d_SK_draw_48 ?_
  refine lv_land hx hb d_SK_draw_49 ?_
  refine lv_aload_n hx hb d_SK_draw_50 rfl (lv_at hl 0 rfl) ?_
  refine va_get (D := (dC, dI)) (ci := 2) (v := .ref fr) (C := R_SK) (T := F_SK) (N := 7) hx hb hts in_SK hown hK.1 hP 0 rfl rfl 1 (by decide) (hts _ wfl_SK_15) (fun _ h9 => h9) rfl d_SK_draw_51 ?_
  refine x_cv (k_S (n := 3) (rest := []) ⟨hx, hb, hml, hown, hts⟩ (c_SK_fillRows l dC dI cI cJ cZ g a1 a2 nd ar pr F G (by first | assumption | omega) (by first | assumption | omega) fr Fm0 (dr &&& (r_4 ^^^ (-1 : Int64)))) wml_SK_41 wst_SK_fillRows wini_SK wcode_SK_fillRows (by decide +kernel) ⟨Nat.le_of_ble_eq_true rfl, Nat.le_of_ble_eq_true rfl⟩ (pre_M (hP.sub (ws' := [(g, .inr (1, [.ref a1, .ref a2, .int (nI nd), .int (nI ar), .long pr])), (a1, .inl (cI, 41, .inl (nF F))), (a2, .inl (cI, 41, .inl (nF G))), (fr, .inl (cI, 14, .inl Fm0))]) [6, 7, 8, 2] rfl) hK (hD.sub (ws' := [(g, .inr (1, [.ref a1, .ref a2, .int (nI nd), .int (nI ar), .long pr])), (a1, .inl (cI, 41, .inl (nF F))), (a2, .inl (cI, 41, .inl (nF G))), (fr, .inl (cI, 14, .inl Fm0))]) [6, 7, 8, 2] (by decide) rfl)) rfl hl.1 rfl (Nat.le_of_ble_eq_true rfl) d_SK_draw_54 ⟨Nat.zero_le _, Nat.zero_le _⟩) hP hD hS [6, 7, 8, 2] rfl (fun _ => rfl) (fun u_6 H locs hu_6 hP hS => ?_)
  obtain ⟨r9_6, rfl⟩ : ∃ z, z = u_6 := ⟨_, rfl⟩
  have hP : va_P (dC, dI) cls [(k, .inr (2, [.ref nr, .ref fr, .ref rs, .ref at_, .ref h, .int ((sb nd) - (nI 1)), .long r_4])), (nr, .inl (cI, 14, .inl r9_1)), (fr, .inl (cI, 14, .inl r9_6)), (at_, .inl (cJ, 14, .inr (.inl A9_2))), (h, .inr (3, [.ref b1, .int (nI z9_3)])), (b1, .inl (cJ, 41, .inr (.inl S9_3))), (g, .inr (1, [.ref a1, .ref a2, .int (nI nd), .int (nI ar), .long pr])), (a1, .inl (cI, 41, .inl (nF F))), (a2, .inl (cI, 41, .inl (nF G)))] H := hP
  have hD := hD.addr (ws' := [(k, .inr (2, [.ref nr, .ref fr, .ref rs, .ref at_, .ref h, .int ((sb nd) - (nI 1)), .long r_4])), (nr, .inl (cI, 14, .inl r9_1)), (fr, .inl (cI, 14, .inl r9_6)), (at_, .inl (cJ, 14, .inr (.inl A9_2))), (h, .inr (3, [.ref b1, .int (nI z9_3)])), (b1, .inl (cJ, 41, .inr (.inl S9_3))), (g, .inr (1, [.ref a1, .ref a2, .int (nI nd), .int (nI ar), .long pr])), (a1, .inl (cI, 41, .inl (nF F))), (a2, .inl (cI, 41, .inl (nF G)))]) rfl
  exact W.vret hx hb hr (fun t ht _ => ⟨⟨(r9_1, r9_6, A9_2, S9_3, z9_3, ((sb nd) - (nI 1)), r_4), rfl, ⟨hGr, WX_all hGr.1, hu_1, hu_2, hu_3, hr_5, NR_congr (lb_but _ _) hu_6⟩, by show va_P (dC, dI) cls _ t.heap; rw [ht]; exact hP⟩, hS.F ht⟩) hS.2.2 d_SK_draw_57
