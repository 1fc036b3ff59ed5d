theorem d_GP_forget_0 : decode prog_5_method_2_code 0 = .ok (.aload_n 0, 1) := by decide +kernel
theorem d_GP_forget_1 : decode prog_5_method_2_code 1 = .ok (.iconst 0, 1) := by decide +kernel
theorem d_GP_forget_2 : decode prog_5_method_2_code 2 = .ok (.putfield 15, 3) := by decide +kernel
theorem d_GP_forget_5 : decode prog_5_method_2_code 5 = .ok (.return_, 1) := by decide +kernel
set_option maxHeartbeats 4000000 in
set_option maxRecDepth 100000 in
theorem c_GP_forget (l : Launch) (dC : Nat → ClassId) (dI : Nat → Nat → Nat) (cI cJ cZ : ClassId) (h b1 : Nat) (zi : Int32) : Met l ⟨"CutPoints$Groups", "forget", "()V"⟩ (Cond.code ⟨"CutPoints$Groups", "forget", "()V"⟩ prog_5_method_2_code 1 none :: TT) (rmk 0 0) (PM dC dI cI cJ cZ [.ref h] [(h, .inr (3, [.ref b1, .int zi]))]) (va_Qv (S := Unit) (fun u => True) (fun u t => va_P (dC, dI) cls ([(h, .inr (3, [.ref b1, .int (nI 0)]))]) t.heap) (ow [(h, .inr (3, [.ref b1, .int zi]))])) 0 0 (ow [(h, .inr (3, [.ref b1, .int zi]))]) := by
  refine Met.ofW (cc := prog_5_method_2_code) (maxL := 1) (ret := none) (by decide) rfl ?_
  intro p e s m args below meth c s₁ B hml hv
  obtain ⟨rfl, hP, hK, hD0⟩ := hv
  have hx := B.exec
  have hb := B.bytes
  have hr := B.returns
  have hts : ∀ w ∈ TT, w.before _ s = true := fun w h => atoms_spec (ws := (Cond.code ⟨"CutPoints$Groups", "forget", "()V"⟩ prog_5_method_2_code 1 none :: TT)) B.pre w (List.mem_cons_of_mem _ h)
  have hown : s.vm.findClass "CutPoints$Groups" = some m.cls := findClass_of_methodNamed B.named
  have hlocks := B.notSynchronized
  have hD := hD0.mine
  have hS : va_S (ow [(h, .inr (3, [.ref b1, .int zi]))]) s.heap s.heap [] := va_S.rf
  have hl := lv_entry ([.ref h]) (n := 1) (Nat.le_of_ble_eq_true rfl)
  rw [lg_entry_eq]
  generalize (lg_sl ([.ref h]) ++ List.replicate (1 - (lg_sl ([.ref h])).length) Slot.unset).toArray = ls at hl ⊢
  have hl : lv_has ls 1 [(0, .ref h)] := hl
  refine lv_aload_n hx hb d_GP_forget_0 rfl (lv_at hl 0 rfl) ?_
  refine lv_iconst (v := (nI 0)) hx hb d_GP_forget_1 (by decide) ?_
  refine va_put (D := (dC, dI)) (ci := 3) (v := .int (nI 0)) (ty := .int) (C := R_GP) (T := F_GP) (N := 2) hx hb hts in_GP t_GP t_GP_ok n_GP hown hK.1 hP hD hS 0 rfl rfl 1 (by decide) (hts _ wfl_GP_15) (fun _ h9 => h9) rfl (by decide +kernel) rfl rfl (Nat.le_of_ble_eq_true rfl) d_GP_forget_2 (fun H locs hP hD hS => ?_)
  have hP : va_P (dC, dI) cls [(h, .inr (3, [.ref b1, .int (nI 0)]))] H := hP
  have hD : va_D (ow [(h, .inr (3, [.ref b1, .int zi]))]) [(h, .inr (3, [.ref b1, .int (nI 0)]))] := hD
  exact W.vret hx hb hr (fun t ht _ => ⟨⟨(), rfl, trivial, by show va_P (dC, dI) cls _ t.heap; rw [ht]; exact hP⟩, hS.F ht⟩) hS.2.2 d_GP_forget_5

theorem d_GP_join_0 : decode prog_5_method_3_code 0 = .ok (.lload_n 1, 1) := by decide +kernel
theorem d_GP_join_1 : decode prog_5_method_3_code 1 = .ok (.lstore_n 3, 1) := by decide +kernel
theorem d_GP_join_2 : decode prog_5_method_3_code 2 = .ok (.iconst 0, 1) := by decide +kernel
theorem d_GP_join_3 : decode prog_5_method_3_code 3 = .ok (.istore 5, 2) := by decide +kernel
theorem d_GP_join_5 : decode prog_5_method_3_code 5 = .ok (.iconst 0, 1) := by decide +kernel
theorem d_GP_join_6 : decode prog_5_method_3_code 6 = .ok (.istore 6, 2) := by decide +kernel
theorem d_GP_join_8 : decode prog_5_method_3_code 8 = .ok (.iload 6, 2) := by decide +kernel
theorem d_GP_join_10 : decode prog_5_method_3_code 10 = .ok (.aload_n 0, 1) := by decide +kernel
theorem d_GP_join_11 : decode prog_5_method_3_code 11 = .ok (.getfield 15, 3) := by decide +kernel
theorem d_GP_join_14 : decode prog_5_method_3_code 14 = .ok (.if_icmp .ge 53, 3) := by decide +kernel
theorem d_GP_join_17 : decode prog_5_method_3_code 17 = .ok (.aload_n 0, 1) := by decide +kernel
theorem d_GP_join_18 : decode prog_5_method_3_code 18 = .ok (.getfield 9, 3) := by decide +kernel
theorem d_GP_join_21 : decode prog_5_method_3_code 21 = .ok (.iload 6, 2) := by decide +kernel
theorem d_GP_join_23 : decode prog_5_method_3_code 23 = .ok (.laload, 1) := by decide +kernel
theorem d_GP_join_24 : decode prog_5_method_3_code 24 = .ok (.lload_n 1, 1) := by decide +kernel
theorem d_GP_join_25 : decode prog_5_method_3_code 25 = .ok (.land, 1) := by decide +kernel
theorem d_GP_join_26 : decode prog_5_method_3_code 26 = .ok (.lconst 0, 1) := by decide +kernel
theorem d_GP_join_27 : decode prog_5_method_3_code 27 = .ok (.lcmp, 1) := by decide +kernel
theorem d_GP_join_28 : decode prog_5_method_3_code 28 = .ok (.ifCond .eq 16, 3) := by decide +kernel
theorem d_GP_join_31 : decode prog_5_method_3_code 31 = .ok (.lload_n 3, 1) := by decide +kernel
theorem d_GP_join_32 : decode prog_5_method_3_code 32 = .ok (.aload_n 0, 1) := by decide +kernel
theorem d_GP_join_33 : decode prog_5_method_3_code 33 = .ok (.getfield 9, 3) := by decide +kernel
theorem d_GP_join_36 : decode prog_5_method_3_code 36 = .ok (.iload 6, 2) := by decide +kernel
theorem d_GP_join_38 : decode prog_5_method_3_code 38 = .ok (.laload, 1) := by decide +kernel
theorem d_GP_join_39 : decode prog_5_method_3_code 39 = .ok (.lor, 1) := by decide +kernel
theorem d_GP_join_40 : decode prog_5_method_3_code 40 = .ok (.lstore_n 3, 1) := by decide +kernel
theorem d_GP_join_41 : decode prog_5_method_3_code 41 = .ok (.goto 20, 3) := by decide +kernel
theorem d_GP_join_44 : decode prog_5_method_3_code 44 = .ok (.aload_n 0, 1) := by decide +kernel
theorem d_GP_join_45 : decode prog_5_method_3_code 45 = .ok (.getfield 9, 3) := by decide +kernel
theorem d_GP_join_48 : decode prog_5_method_3_code 48 = .ok (.iload 5, 2) := by decide +kernel
theorem d_GP_join_50 : decode prog_5_method_3_code 50 = .ok (.aload_n 0, 1) := by decide +kernel
theorem d_GP_join_51 : decode prog_5_method_3_code 51 = .ok (.getfield 9, 3) := by decide +kernel
theorem d_GP_join_54 : decode prog_5_method_3_code 54 = .ok (.iload 6, 2) := by decide +kernel
theorem d_GP_join_56 : decode prog_5_method_3_code 56 = .ok (.laload, 1) := by decide +kernel
theorem d_GP_join_57 : decode prog_5_method_3_code 57 = .ok (.lastore, 1) := by decide +kernel
theorem d_GP_join_58 : decode prog_5_method_3_code 58 = .ok (.iinc 5 1, 3) := by decide +kernel
theorem d_GP_join_61 : decode prog_5_method_3_code 61 = .ok (.iinc 6 1, 3) := by decide +kernel
theorem d_GP_join_64 : decode prog_5_method_3_code 64 = .ok (.goto (-56), 3) := by decide +kernel
theorem d_GP_join_67 : decode prog_5_method_3_code 67 = .ok (.lload_n 3, 1) := by decide +kernel
theorem d_GP_join_68 : decode prog_5_method_3_code 68 = .ok (.lconst 0, 1) := by decide +kernel
theorem d_GP_join_69 : decode prog_5_method_3_code 69 = .ok (.lcmp, 1) := by decide +kernel
theorem d_GP_join_70 : decode prog_5_method_3_code 70 = .ok (.ifCond .eq 24, 3) := by decide +kernel
theorem d_GP_join_73 : decode prog_5_method_3_code 73 = .ok (.iload 5, 2) := by decide +kernel
theorem d_GP_join_75 : decode prog_5_method_3_code 75 = .ok (.aload_n 0, 1) := by decide +kernel
theorem d_GP_join_76 : decode prog_5_method_3_code 76 = .ok (.getfield 9, 3) := by decide +kernel
theorem d_GP_join_79 : decode prog_5_method_3_code 79 = .ok (.arraylength, 1) := by decide +kernel
theorem d_GP_join_80 : decode prog_5_method_3_code 80 = .ok (.if_icmp .ge 14, 3) := by decide +kernel
theorem d_GP_join_83 : decode prog_5_method_3_code 83 = .ok (.aload_n 0, 1) := by decide +kernel
theorem d_GP_join_84 : decode prog_5_method_3_code 84 = .ok (.getfield 9, 3) := by decide +kernel
theorem d_GP_join_87 : decode prog_5_method_3_code 87 = .ok (.iload 5, 2) := by decide +kernel
theorem d_GP_join_89 : decode prog_5_method_3_code 89 = .ok (.lload_n 3, 1) := by decide +kernel
theorem d_GP_join_90 : decode prog_5_method_3_code 90 = .ok (.lastore, 1) := by decide +kernel
theorem d_GP_join_91 : decode prog_5_method_3_code 91 = .ok (.iinc 5 1, 3) := by decide +kernel
theorem d_GP_join_94 : decode prog_5_method_3_code 94 = .ok (.aload_n 0, 1) := by decide +kernel
theorem d_GP_join_95 : decode prog_5_method_3_code 95 = .ok (.iload 5, 2) := by decide +kernel
theorem d_GP_join_97 : decode prog_5_method_3_code 97 = .ok (.putfield 15, 3) := by decide +kernel
theorem d_GP_join_100 : decode prog_5_method_3_code 100 = .ok (.return_, 1) := by decide +kernel
set_option maxHeartbeats 4000000 in
set_option maxRecDepth 100000 in
theorem c_GP_join (l : Launch) (dC : Nat → ClassId) (dI : Nat → Nat → Nat) (cI cJ cZ : ClassId) (h b1 z : Nat) (Se : Nat → Int64) (so : Int64) (L : Nat → Nat → Prop) (hL : GL L) (hG : GPI L Se z) (hso : ∀ e, lb so e = true → e < 41) : Met l ⟨"CutPoints$Groups", "join", "(J)V"⟩ (Cond.code ⟨"CutPoints$Groups", "join", "(J)V"⟩ prog_5_method_3_code 7 none :: TT) (rmk 0 0) (PM dC dI cI cJ cZ [.ref h, .long so] [(h, .inr (3, [.ref b1, .int (nI z)])), (b1, .inl (cJ, 41, .inr (.inl Se)))]) (va_Qv (S := (Nat → Int64) × Nat) (fun u => GPI (Ls L so) u.1 u.2) (fun u t => va_P (dC, dI) cls ([(h, .inr (3, [.ref b1, .int (nI u.2)])), (b1, .inl (cJ, 41, .inr (.inl u.1)))]) t.heap) (ow [(h, .inr (3, [.ref b1, .int (nI z)])), (b1, .inl (cJ, 41, .inr (.inl Se)))])) 0 0 (ow [(h, .inr (3, [.ref b1, .int (nI z)])), (b1, .inl (cJ, 41, .inr (.inl Se)))]) := by
  refine Met.ofW (cc := prog_5_method_3_code) (maxL := 7) (ret := none) (by decide) rfl ?_
  intro p e s m args below meth c s₁ B hml hv
  obtain ⟨rfl, hP, hK, hD0⟩ := hv
  have hx := B.exec
  have hb := B.bytes
  have hr := B.returns
  have hts : ∀ w ∈ TT, w.before _ s = true := fun w h => atoms_spec (ws := (Cond.code ⟨"CutPoints$Groups", "join", "(J)V"⟩ prog_5_method_3_code 7 none :: TT)) B.pre w (List.mem_cons_of_mem _ h)
  have hown : s.vm.findClass "CutPoints$Groups" = some m.cls := findClass_of_methodNamed B.named
  have hlocks := B.notSynchronized
  have hD := hD0.mine
  have hS : va_S (ow [(h, .inr (3, [.ref b1, .int (nI z)])), (b1, .inl (cJ, 41, .inr (.inl Se)))]) s.heap s.heap [] := va_S.rf
  have hl := lv_entry ([.ref h, .long so]) (n := 7) (Nat.le_of_ble_eq_true rfl)
  rw [lg_entry_eq]
  generalize (lg_sl ([.ref h, .long so]) ++ List.replicate (7 - (lg_sl ([.ref h, .long so])).length) Slot.unset).toArray = ls at hl ⊢
  have hl : lv_has ls 7 [(0, .ref h), (1, .long so)] := hl
  refine lv_lload_n hx hb d_GP_join_0 rfl (lv_at hl 1 rfl) ?_
  refine lv_lstore_n (lv' := [(3, .long so), (0, .ref h), (1, .long so)]) hx hb d_GP_join_1 rfl hl (by decide) rfl (fun ls hl => ?_)
  refine lv_iconst (v := (nI 0)) hx hb d_GP_join_2 (by decide) ?_
  refine lv_istore (lv' := [(5, .int (nI 0)), (3, .long so), (0, .ref h), (1, .long so)]) hx hb d_GP_join_3 hl (by decide) rfl (fun ls hl => ?_)
  refine lv_iconst (v := (nI 0)) hx hb d_GP_join_5 (by decide) ?_
  refine lv_istore (lv' := [(6, .int (nI 0)), (5, .int (nI 0)), (3, .long so), (0, .ref h), (1, .long so)]) hx hb d_GP_join_6 hl (by decide) rfl (fun ls hl => ?_)
  have L8_1 : ∀ (n : Nat) (S2 : Nat → Int64) (J : Int64) (q : Nat) (i : Nat) (hn : z - i < n) (hi : i ≤ z) (hj : jnI Se so S2 J q i) (H : Heap) (locs : List Loc) (hP : va_P (dC, dI) cls [(h, .inr (3, [.ref b1, .int (nI z)])), (b1, .inl (cJ, 41, .inr (.inl S2)))] H) (hD : va_D (ow [(h, .inr (3, [.ref b1, .int (nI z)])), (b1, .inl (cJ, 41, .inr (.inl Se)))]) [(h, .inr (3, [.ref b1, .int (nI z)])), (b1, .inl (cJ, 41, .inr (.inl S2)))]) (hS : va_S (ow [(h, .inr (3, [.ref b1, .int (nI z)])), (b1, .inl (cJ, 41, .inr (.inl Se)))]) s.heap H locs) (ls : Array Slot) (hl : lv_has ls 7 [(0, .ref h), (1, .long so), (3, .long J), (5, .int (nI q)), (6, .int (nI i))]), W p l e (headSpec (Cond.code ⟨"CutPoints$Groups", "join", "(J)V"⟩ prog_5_method_3_code 7 none :: TT) (rmk 0 0)).room s m ([.ref h, .long so] : List Value).toArray below meth c H locs 0 0 (MQ below (va_Qv (S := (Nat → Int64) × Nat) (fun u => GPI (Ls L so) u.1 u.2) (fun u t => va_P (dC, dI) cls ([(h, .inr (3, [.ref b1, .int (nI u.2)])), (b1, .inl (cJ, 41, .inr (.inl u.1)))]) t.heap) (ow [(h, .inr (3, [.ref b1, .int (nI z)])), (b1, .inl (cJ, 41, .inr (.inl Se)))])) ([.ref h, .long so] : List Value).toArray s 0 0 (ow [(h, .inr (3, [.ref b1, .int (nI z)])), (b1, .inl (cJ, 41, .inr (.inl Se)))])) (F0 m 8 ls []) := by
    intro n_8
    induction n_8 with
    | zero =>
      intro S2 J q i hn_8
      exact absurd hn_8 (Nat.not_lt_zero _)
    | succ n_8 ih_8 =>
      intro S2 J q i hn_8 hi hj H locs hP hD hS ls hl
      have hqi := hj.1
      have hz := hG.le
      refine lv_iload hx hb d_GP_join_8 (lv_at hl 4 rfl) ?_
      refine lv_aload_n hx hb d_GP_join_10 rfl (lv_at hl 0 rfl) ?_
      refine va_get (D := (dC, dI)) (ci := 3) (v := .int (nI z)) (C := R_GP) (T := F_GP) (N := 2) hx hb hts in_GP hown hK.1 hP 0 rfl rfl 1 (by decide) (hts _ wfl_GP_15) (fun _ h9 => h9) rfl d_GP_join_11 ?_
      refine x_cmp_ge (a := i) (b := z) (tgt := 67) hx hb (by omega) (by omega) d_GP_join_14 (by decide) (fun c_2 => ?_) (fun c_2 => ?_)
      · skip
        refine lv_lload_n hx hb d_GP_join_67 rfl (lv_at hl 2 rfl) ?_
        refine lv_lconst (v := 0) hx hb d_GP_join_68 rfl ?_
        refine x_lcmp_eq (tgt := 94) hx hb d_GP_join_69 d_GP_join_70 (by decide) (fun c_3 => ?_) (fun c_3 => ?_)
        · skip
          refine lv_aload_n hx hb d_GP_join_94 rfl (lv_at hl 0 rfl) ?_
          refine lv_iload hx hb d_GP_join_95 (lv_at hl 3 rfl) ?_
          refine va_put (D := (dC, dI)) (ci := 3) (v := .int (nI q)) (ty := .int) (C := R_GP) (T := F_GP) (N := 2) hx hb hts in_GP t_GP t_GP_ok n_GP hown hK.1 hP hD hS 0 rfl rfl 1 (by decide) (hts _ wfl_GP_15) (fun _ h9 => h9) rfl (by decide +kernel) rfl rfl (Nat.le_of_ble_eq_true rfl) d_GP_join_97 (fun H locs hP hD hS => ?_)
          have hP : va_P (dC, dI) cls [(h, .inr (3, [.ref b1, .int (nI q)])), (b1, .inl (cJ, 41, .inr (.inl S2)))] H := hP
          have hD : va_D (ow [(h, .inr (3, [.ref b1, .int (nI z)])), (b1, .inl (cJ, 41, .inr (.inl Se)))]) [(h, .inr (3, [.ref b1, .int (nI q)])), (b1, .inl (cJ, 41, .inr (.inl S2)))] := hD
          exact W.vret hx hb hr (fun t ht _ => ⟨⟨(S2, q), rfl, (by have e9 : i = z := (by omega); subst e9; exact jnI_e hG hj c_3), by show va_P (dC, dI) cls _ t.heap; rw [ht]; exact hP⟩, hS.F ht⟩) hS.2.2 d_GP_join_100
        · skip
          refine lv_iload hx hb d_GP_join_73 (lv_at hl 3 rfl) ?_
          refine lv_aload_n hx hb d_GP_join_75 rfl (lv_at hl 0 rfl) ?_
          refine va_get (D := (dC, dI)) (ci := 3) (v := .ref b1) (C := R_GP) (T := F_GP) (N := 2) hx hb hts in_GP hown hK.1 hP 0 rfl rfl 0 (by decide) (hts _ wfl_GP_9) (fun _ h9 => h9) rfl d_GP_join_76 ?_
          refine va_alen (v := nI 41) hx hb hK.1 hP 1 1 rfl rfl rfl d_GP_join_79 ?_
          refine x_cmp_ge (a := q) (b := 41) (tgt := 94) hx hb (by omega) (by omega) d_GP_join_80 (by decide) (fun c_4 => ?_) (fun c_4 => ?_)
          · skip
            exact absurd (jnI_z hL hG hso (by have e9 : i = z := (by omega); subst e9; exact hj) (by assumption)).le (by omega)
          · skip
            refine lv_aload_n hx hb d_GP_join_83 rfl (lv_at hl 0 rfl) ?_
            refine va_get (D := (dC, dI)) (ci := 3) (v := .ref b1) (C := R_GP) (T := F_GP) (N := 2) hx hb hts in_GP hown hK.1 hP 0 rfl rfl 0 (by decide) (hts _ wfl_GP_9) (fun _ h9 => h9) rfl d_GP_join_84 ?_
            refine lv_iload hx hb d_GP_join_87 (lv_at hl 3 rfl) ?_
            refine lv_lload_n hx hb d_GP_join_89 rfl (lv_at hl 2 rfl) ?_
            refine x_last (g := (va_up S2 q J)) hx hb hK.1 hP hD hS 1 1 rfl rfl rfl (by omega) (by omega) d_GP_join_90 (fun H locs hP hD hS => ?_)
            have hP : va_P (dC, dI) cls [(h, .inr (3, [.ref b1, .int (nI z)])), (b1, .inl (cJ, 41, .inr (.inl (va_up S2 q J))))] H := hP
            have hD : va_D (ow [(h, .inr (3, [.ref b1, .int (nI z)])), (b1, .inl (cJ, 41, .inr (.inl Se)))]) [(h, .inr (3, [.ref b1, .int (nI z)])), (b1, .inl (cJ, 41, .inr (.inl (va_up S2 q J))))] := hD
            refine lv_iinc (v := (nI (q + 1))) (lv' := [(5, .int (nI (q + 1))), (0, .ref h), (1, .long so), (3, .long J), (6, .int (nI i))]) hx hb d_GP_join_91 hl (k := 3) rfl (nI_1 _) (by decide) rfl (fun ls hl => ?_)
            refine lv_aload_n hx hb d_GP_join_94 rfl (lv_at hl 1 rfl) ?_
            refine lv_iload hx hb d_GP_join_95 (lv_at hl 0 rfl) ?_
            refine va_put (D := (dC, dI)) (ci := 3) (v := .int (nI (q + 1))) (ty := .int) (C := R_GP) (T := F_GP) (N := 2) hx hb hts in_GP t_GP t_GP_ok n_GP hown hK.1 hP hD hS 0 rfl rfl 1 (by decide) (hts _ wfl_GP_15) (fun _ h9 => h9) rfl (by decide +kernel) rfl rfl (Nat.le_of_ble_eq_true rfl) d_GP_join_97 (fun H locs hP hD hS => ?_)
            have hP : va_P (dC, dI) cls [(h, .inr (3, [.ref b1, .int (nI (q + 1))])), (b1, .inl (cJ, 41, .inr (.inl (va_up S2 q J))))] H := hP
            have hD : va_D (ow [(h, .inr (3, [.ref b1, .int (nI z)])), (b1, .inl (cJ, 41, .inr (.inl Se)))]) [(h, .inr (3, [.ref b1, .int (nI (q + 1))])), (b1, .inl (cJ, 41, .inr (.inl (va_up S2 q J))))] := hD
            exact W.vret hx hb hr (fun t ht _ => ⟨⟨((va_up S2 q J), (q + 1)), rfl, (by have e9 : i = z := (by omega); subst e9; exact jnI_z hL hG hso hj c_3), by show va_P (dC, dI) cls _ t.heap; rw [ht]; exact hP⟩, hS.F ht⟩) hS.2.2 d_GP_join_100
      · skip
        refine lv_aload_n hx hb d_GP_join_17 rfl (lv_at hl 0 rfl) ?_
        refine va_get (D := (dC, dI)) (ci := 3) (v := .ref b1) (C := R_GP) (T := F_GP) (N := 2) hx hb hts in_GP hown hK.1 hP 0 rfl rfl 0 (by decide) (hts _ wfl_GP_9) (fun _ h9 => h9) rfl d_GP_join_18 ?_
        refine lv_iload hx hb d_GP_join_21 (lv_at hl 4 rfl) ?_
        refine x_lald (n := 41) (f := S2) (j := i) hx hb hK.1 hP 1 1 rfl rfl (by omega) (by omega) d_GP_join_23 ?_
        refine lv_lload_n hx hb d_GP_join_24 rfl (lv_at hl 1 rfl) ?_
        refine lv_land hx hb d_GP_join_25 ?_
        refine lv_lconst (v := 0) hx hb d_GP_join_26 rfl ?_
        refine x_lcmp_eq (tgt := 44) hx hb d_GP_join_27 d_GP_join_28 (by decide) (fun c_5 => ?_) (fun c_5 => ?_)
        · skip
          refine lv_aload_n hx hb d_GP_join_44 rfl (lv_at hl 0 rfl) ?_
          refine va_get (D := (dC, dI)) (ci := 3) (v := .ref b1) (C := R_GP) (T := F_GP) (N := 2) hx hb hts in_GP hown hK.1 hP 0 rfl rfl 0 (by decide) (hts _ wfl_GP_9) (fun _ h9 => h9) rfl d_GP_join_45 ?_
          refine lv_iload hx hb d_GP_join_48 (lv_at hl 3 rfl) ?_
          refine lv_aload_n hx hb d_GP_join_50 rfl (lv_at hl 0 rfl) ?_
          refine va_get (D := (dC, dI)) (ci := 3) (v := .ref b1) (C := R_GP) (T := F_GP) (N := 2) hx hb hts in_GP hown hK.1 hP 0 rfl rfl 0 (by decide) (hts _ wfl_GP_9) (fun _ h9 => h9) rfl d_GP_join_51 ?_
          refine lv_iload hx hb d_GP_join_54 (lv_at hl 4 rfl) ?_
          refine x_lald (n := 41) (f := S2) (j := i) hx hb hK.1 hP 1 1 rfl rfl (by omega) (by omega) d_GP_join_56 ?_
          refine x_last (g := (va_up S2 q (S2 i))) hx hb hK.1 hP hD hS 1 1 rfl rfl rfl (by omega) (by omega) d_GP_join_57 (fun H locs hP hD hS => ?_)
          have hP : va_P (dC, dI) cls [(h, .inr (3, [.ref b1, .int (nI z)])), (b1, .inl (cJ, 41, .inr (.inl (va_up S2 q (S2 i)))))] H := hP
          have hD : va_D (ow [(h, .inr (3, [.ref b1, .int (nI z)])), (b1, .inl (cJ, 41, .inr (.inl Se)))]) [(h, .inr (3, [.ref b1, .int (nI z)])), (b1, .inl (cJ, 41, .inr (.inl (va_up S2 q (S2 i)))))] := hD
          refine lv_iinc (v := (nI (q + 1))) (lv' := [(5, .int (nI (q + 1))), (0, .ref h), (1, .long so), (3, .long J), (6, .int (nI i))]) hx hb d_GP_join_58 hl (k := 3) rfl (nI_1 _) (by decide) rfl (fun ls hl => ?_)
          refine lv_iinc (v := (nI (i + 1))) (lv' := [(6, .int (nI (i + 1))), (5, .int (nI (q + 1))), (0, .ref h), (1, .long so), (3, .long J)]) hx hb d_GP_join_61 hl (k := 4) rfl (nI_1 _) (by decide) rfl (fun ls hl => ?_)
          refine lv_goto (tgt := 8) hx hb d_GP_join_64 (by decide) ?_
          exact ih_8 (va_up S2 q (S2 i)) J (q + 1) (i + 1) (by omega) (by first | assumption | omega) (jnI_k hj c_5) _ _ hP hD hS ls (lv_sub hl [2, 3, 4, 1, 0] rfl)
        · skip
          refine lv_lload_n hx hb d_GP_join_31 rfl (lv_at hl 2 rfl) ?_
          refine lv_aload_n hx hb d_GP_join_32 rfl (lv_at hl 0 rfl) ?_
          refine va_get (D := (dC, dI)) (ci := 3) (v := .ref b1) (C := R_GP) (T := F_GP) (N := 2) hx hb hts in_GP hown hK.1 hP 0 rfl rfl 0 (by decide) (hts _ wfl_GP_9) (fun _ h9 => h9) rfl d_GP_join_33 ?_
          refine lv_iload hx hb d_GP_join_36 (lv_at hl 4 rfl) ?_
          refine x_lald (n := 41) (f := S2) (j := i) hx hb hK.1 hP 1 1 rfl rfl (by omega) (by omega) d_GP_join_38 ?_
          refine lv_lor hx hb d_GP_join_39 ?_
          refine lv_lstore_n (lv' := [(3, .long (J ||| (S2 i))), (0, .ref h), (1, .long so), (5, .int (nI q)), (6, .int (nI i))]) hx hb d_GP_join_40 rfl hl (by decide) rfl (fun ls hl => ?_)
          refine lv_goto (tgt := 61) hx hb d_GP_join_41 (by decide) ?_
          refine lv_iinc (v := (nI (i + 1))) (lv' := [(6, .int (nI (i + 1))), (3, .long (J ||| (S2 i))), (0, .ref h), (1, .long so), (5, .int (nI q))]) hx hb d_GP_join_61 hl (k := 4) rfl (nI_1 _) (by decide) rfl (fun ls hl => ?_)
          refine lv_goto (tgt := 8) hx hb d_GP_join_64 (by decide) ?_
          exact ih_8 S2 (J ||| (S2 i)) q (i + 1) (by omega) (by first | assumption | omega) (jnI_j hj c_5) _ _ hP hD hS ls (lv_sub hl [2, 3, 1, 4, 0] rfl)
  exact L8_1 ((z - 0) + 1) Se so 0 0 (Nat.lt_succ_self _) (by first | assumption | omega) (jnI_0 Se so) _ _ hP hD hS ls (lv_sub hl [3, 4, 2, 1, 0] rfl)

theorem d_GP_holding_0 : decode prog_5_method_4_code 0 = .ok (.iconst 0, 1) := by decide +kernel
theorem d_GP_holding_1 : decode prog_5_method_4_code 1 = .ok (.istore_n 2, 1) := by decide +kernel
theorem d_GP_holding_2 : decode prog_5_method_4_code 2 = .ok (.iload_n 2, 1) := by decide +kernel
theorem d_GP_holding_3 : decode prog_5_method_4_code 3 = .ok (.aload_n 0, 1) := by decide +kernel
theorem d_GP_holding_4 : decode prog_5_method_4_code 4 = .ok (.getfield 15, 3) := by decide +kernel
theorem d_GP_holding_7 : decode prog_5_method_4_code 7 = .ok (.if_icmp .ge 29, 3) := by decide +kernel
theorem d_GP_holding_10 : decode prog_5_method_4_code 10 = .ok (.aload_n 0, 1) := by decide +kernel
theorem d_GP_holding_11 : decode prog_5_method_4_code 11 = .ok (.getfield 9, 3) := by decide +kernel
theorem d_GP_holding_14 : decode prog_5_method_4_code 14 = .ok (.iload_n 2, 1) := by decide +kernel
theorem d_GP_holding_15 : decode prog_5_method_4_code 15 = .ok (.laload, 1) := by decide +kernel
theorem d_GP_holding_16 : decode prog_5_method_4_code 16 = .ok (.iload_n 1, 1) := by decide +kernel
theorem d_GP_holding_17 : decode prog_5_method_4_code 17 = .ok (.invokestatic 19, 3) := by decide +kernel
theorem d_GP_holding_20 : decode prog_5_method_4_code 20 = .ok (.ifCond .eq 10, 3) := by decide +kernel
theorem d_GP_holding_23 : decode prog_5_method_4_code 23 = .ok (.aload_n 0, 1) := by decide +kernel
theorem d_GP_holding_24 : decode prog_5_method_4_code 24 = .ok (.getfield 9, 3) := by decide +kernel
theorem d_GP_holding_27 : decode prog_5_method_4_code 27 = .ok (.iload_n 2, 1) := by decide +kernel
theorem d_GP_holding_28 : decode prog_5_method_4_code 28 = .ok (.laload, 1) := by decide +kernel
theorem d_GP_holding_29 : decode prog_5_method_4_code 29 = .ok (.lreturn, 1) := by decide +kernel
theorem d_GP_holding_30 : decode prog_5_method_4_code 30 = .ok (.iinc 2 1, 3) := by decide +kernel
theorem d_GP_holding_33 : decode prog_5_method_4_code 33 = .ok (.goto (-31), 3) := by decide +kernel
theorem d_GP_holding_36 : decode prog_5_method_4_code 36 = .ok (.lconst 0, 1) := by decide +kernel
theorem d_GP_holding_37 : decode prog_5_method_4_code 37 = .ok (.lreturn, 1) := by decide +kernel
set_option maxHeartbeats 4000000 in
set_option maxRecDepth 100000 in
theorem c_GP_holding (l : Launch) (dC : Nat → ClassId) (dI : Nat → Nat → Nat) (cI cJ cZ : ClassId) (h b1 z : Nat) (Se : Nat → Int64) (x : Nat) (hx64 : x < 64) (hz : z ≤ 41) : Met l ⟨"CutPoints$Groups", "holding", "(I)J"⟩ (Cond.code ⟨"CutPoints$Groups", "holding", "(I)J"⟩ prog_5_method_4_code 3 (some .long) :: TT) (rmk 1 22) (PR dC dI cI cJ cZ [.ref h, .int (nI x)] [(h, .inr (3, [.ref b1, .int (nI z)])), (b1, .inl (cJ, 41, .inr (.inl Se)))]) (vp_Sl (fun r => (∃ i, i < z ∧ lb (Se i) x = true ∧ r = Se i) ∨ ((∀ i, i < z → lb (Se i) x = false) ∧ r = 0))) 0 0 (fun _ => False) := by
  refine Met.ofW (cc := prog_5_method_4_code) (maxL := 3) (ret := (some .long)) (by decide) rfl ?_
  intro p e s m args below meth c s₁ B hml hv
  obtain ⟨rfl, hP, hK⟩ := hv
  have hx := B.exec
  have hb := B.bytes
  have hr := B.returns
  have hts : ∀ w ∈ TT, w.before _ s = true := fun w h => atoms_spec (ws := (Cond.code ⟨"CutPoints$Groups", "holding", "(I)J"⟩ prog_5_method_4_code 3 (some .long) :: TT)) B.pre w (List.mem_cons_of_mem _ h)
  have hown : s.vm.findClass "CutPoints$Groups" = some m.cls := findClass_of_methodNamed B.named
  have hlocks := B.notSynchronized
  have hl := lv_entry ([.ref h, .int (nI x)]) (n := 3) (Nat.le_of_ble_eq_true rfl)
  rw [lg_entry_eq]
  generalize (lg_sl ([.ref h, .int (nI x)]) ++ List.replicate (3 - (lg_sl ([.ref h, .int (nI x)])).length) Slot.unset).toArray = ls at hl ⊢
  have hl : lv_has ls 3 [(0, .ref h), (1, .int (nI x))] := hl
  refine lv_iconst (v := (nI 0)) hx hb d_GP_holding_0 (by decide) ?_
  refine lv_istore_n (lv' := [(2, .int (nI 0)), (0, .ref h), (1, .int (nI x))]) hx hb d_GP_holding_1 rfl hl (by decide) rfl (fun ls hl => ?_)
  have L2_1 : ∀ (n : Nat) (i : Nat) (hn : z - i < n) (hi : i ≤ z) (hno : ∀ j, j < i → lb (Se j) x = false) (ls : Array Slot) (hl : lv_has ls 3 [(0, .ref h), (1, .int (nI x)), (2, .int (nI i))]), W p l e (headSpec (Cond.code ⟨"CutPoints$Groups", "holding", "(I)J"⟩ prog_5_method_4_code 3 (some .long) :: TT) (rmk 1 22)).room s m ([.ref h, .int (nI x)] : List Value).toArray below meth c s.heap [] 0 0 (MQ below (vp_Sl (fun r => (∃ i, i < z ∧ lb (Se i) x = true ∧ r = Se i) ∨ ((∀ i, i < z → lb (Se i) x = false) ∧ r = 0))) ([.ref h, .int (nI x)] : List Value).toArray s 0 0 (fun _ => False)) (F0 m 2 ls []) := by
    intro n_2
    induction n_2 with
    | zero =>
      intro i hn_2
      exact absurd hn_2 (Nat.not_lt_zero _)
    | succ n_2 ih_2 =>
      intro i hn_2 hi hno ls hl
      refine lv_iload_n hx hb d_GP_holding_2 rfl (lv_at hl 2 rfl) ?_
      refine lv_aload_n hx hb d_GP_holding_3 rfl (lv_at hl 0 rfl) ?_
      refine va_get (D := (dC, dI)) (ci := 3) (v := .int (nI z)) (C := R_GP) (T := F_GP) (N := 2) hx hb hts in_GP hown hK.1 hP 0 rfl rfl 1 (by decide) (hts _ wfl_GP_15) (fun _ h9 => h9) rfl d_GP_holding_4 ?_
      refine x_cmp_ge (a := i) (b := z) (tgt := 36) hx hb (by omega) (by omega) d_GP_holding_7 (by decide) (fun c_2 => ?_) (fun c_2 => ?_)
      · skip
        refine lv_lconst (v := 0) hx hb d_GP_holding_36 rfl ?_
        exact W.lret (v := 0) hx hb hr (fun t ht _ => ⟨_, rfl, (Or.inr ⟨fun j hj => hno j (by omega), rfl⟩), ht⟩) t_nil d_GP_holding_37
      · skip
        refine lv_aload_n hx hb d_GP_holding_10 rfl (lv_at hl 0 rfl) ?_
        refine va_get (D := (dC, dI)) (ci := 3) (v := .ref b1) (C := R_GP) (T := F_GP) (N := 2) hx hb hts in_GP hown hK.1 hP 0 rfl rfl 0 (by decide) (hts _ wfl_GP_9) (fun _ h9 => h9) rfl d_GP_holding_11 ?_
        refine lv_iload_n hx hb d_GP_holding_14 rfl (lv_at hl 2 rfl) ?_
        refine x_lald (n := 41) (f := Se) (j := i) hx hb hK.1 hP 1 1 rfl rfl (by omega) (by omega) d_GP_holding_15 ?_
        refine lv_iload_n hx hb d_GP_holding_16 rfl (lv_at hl 1 rfl) ?_
        refine vp_callSi (va_Run.run (k_SN (n := 2) (rest := []) ⟨hx, hb, hml, hown, hts⟩ (c_CP_hasBit l dC dI cI cJ cZ (Se i) x (by first | assumption | omega)) hK wmn_GP_19 wst_CP_hasBit wini_CP wcode_CP_hasBit (by decide +kernel) ⟨Nat.le_of_ble_eq_true rfl, Nat.le_of_ble_eq_true rfl⟩ (pre_R (hP.sub (ws' := []) [] rfl) hK) rfl hl.1 rfl (Nat.le_of_ble_eq_true rfl) d_GP_holding_17 ⟨Nat.zero_le _, Nat.zero_le _⟩)) (fun r_3 hr_4 => ?_)
        refine xe_i (y := (bI (lb (Se i) x))) hr_4 ?_
        refine x_if_eq (tgt := 30) hx hb d_GP_holding_20 (by decide) (fun c_5 => ?_) (fun c_5 => ?_)
        · skip
          refine lv_iinc (v := (nI (i + 1))) (lv' := [(2, .int (nI (i + 1))), (0, .ref h), (1, .int (nI x))]) hx hb d_GP_holding_30 hl (k := 2) rfl (nI_1 _) (by decide) rfl (fun ls hl => ?_)
          refine lv_goto (tgt := 2) hx hb d_GP_holding_33 (by decide) ?_
          exact ih_2 (i + 1) (by omega) (by first | assumption | omega) (lt_s hno c_5) ls (lv_sub hl [1, 2, 0] rfl)
        · skip
          refine lv_aload_n hx hb d_GP_holding_23 rfl (lv_at hl 0 rfl) ?_
          refine va_get (D := (dC, dI)) (ci := 3) (v := .ref b1) (C := R_GP) (T := F_GP) (N := 2) hx hb hts in_GP hown hK.1 hP 0 rfl rfl 0 (by decide) (hts _ wfl_GP_9) (fun _ h9 => h9) rfl d_GP_holding_24 ?_
          refine lv_iload_n hx hb d_GP_holding_27 rfl (lv_at hl 2 rfl) ?_
          refine x_lald (n := 41) (f := Se) (j := i) hx hb hK.1 hP 1 1 rfl rfl (by omega) (by omega) d_GP_holding_28 ?_
          exact W.lret (v := (Se i)) hx hb hr (fun t ht _ => ⟨_, rfl, (Or.inl ⟨i, by omega, c_5, rfl⟩), ht⟩) t_nil d_GP_holding_29
  exact L2_1 ((z - 0) + 1) 0 (Nat.lt_succ_self _) (by first | assumption | omega) (fun j hj => absurd hj (Nat.not_lt_zero _)) ls (lv_sub hl [1, 2, 0] rfl)
