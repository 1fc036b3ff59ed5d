theorem d_SP_cutAt_0 : decode prog_7_method_5_code 0 = .ok (.aload_n 0, 1) := by decide +kernel
theorem d_SP_cutAt_1 : decode prog_7_method_5_code 1 = .ok (.getfield 14, 3) := by decide +kernel
theorem d_SP_cutAt_4 : decode prog_7_method_5_code 4 = .ok (.invokevirtual 66, 3) := by decide +kernel
theorem d_SP_cutAt_7 : decode prog_7_method_5_code 7 = .ok (.iconst 0, 1) := by decide +kernel
theorem d_SP_cutAt_8 : decode prog_7_method_5_code 8 = .ok (.istore 4, 2) := by decide +kernel
theorem d_SP_cutAt_10 : decode prog_7_method_5_code 10 = .ok (.iload 4, 2) := by decide +kernel
theorem d_SP_cutAt_12 : decode prog_7_method_5_code 12 = .ok (.bipush 14, 2) := by decide +kernel
theorem d_SP_cutAt_14 : decode prog_7_method_5_code 14 = .ok (.if_icmp .ge 40, 3) := by decide +kernel
theorem d_SP_cutAt_17 : decode prog_7_method_5_code 17 = .ok (.iload 4, 2) := by decide +kernel
theorem d_SP_cutAt_19 : decode prog_7_method_5_code 19 = .ok (.iload_n 2, 1) := by decide +kernel
theorem d_SP_cutAt_20 : decode prog_7_method_5_code 20 = .ok (.if_icmp .eq 28, 3) := by decide +kernel
theorem d_SP_cutAt_23 : decode prog_7_method_5_code 23 = .ok (.iload 4, 2) := by decide +kernel
theorem d_SP_cutAt_25 : decode prog_7_method_5_code 25 = .ok (.iload_n 3, 1) := by decide +kernel
theorem d_SP_cutAt_26 : decode prog_7_method_5_code 26 = .ok (.if_icmp .eq 22, 3) := by decide +kernel
theorem d_SP_cutAt_29 : decode prog_7_method_5_code 29 = .ok (.aload_n 0, 1) := by decide +kernel
theorem d_SP_cutAt_30 : decode prog_7_method_5_code 30 = .ok (.getfield 14, 3) := by decide +kernel
theorem d_SP_cutAt_33 : decode prog_7_method_5_code 33 = .ok (.aload_n 1, 1) := by decide +kernel
theorem d_SP_cutAt_34 : decode prog_7_method_5_code 34 = .ok (.getfield 54, 3) := by decide +kernel
theorem d_SP_cutAt_37 : decode prog_7_method_5_code 37 = .ok (.iload 4, 2) := by decide +kernel
theorem d_SP_cutAt_39 : decode prog_7_method_5_code 39 = .ok (.laload, 1) := by decide +kernel
theorem d_SP_cutAt_40 : decode prog_7_method_5_code 40 = .ok (.aload_n 0, 1) := by decide +kernel
theorem d_SP_cutAt_41 : decode prog_7_method_5_code 41 = .ok (.getfield 29, 3) := by decide +kernel
theorem d_SP_cutAt_44 : decode prog_7_method_5_code 44 = .ok (.land, 1) := by decide +kernel
theorem d_SP_cutAt_45 : decode prog_7_method_5_code 45 = .ok (.invokevirtual 69, 3) := by decide +kernel
theorem d_SP_cutAt_48 : decode prog_7_method_5_code 48 = .ok (.iinc 4 1, 3) := by decide +kernel
theorem d_SP_cutAt_51 : decode prog_7_method_5_code 51 = .ok (.goto (-41), 3) := by decide +kernel
theorem d_SP_cutAt_54 : decode prog_7_method_5_code 54 = .ok (.aload_n 1, 1) := by decide +kernel
theorem d_SP_cutAt_55 : decode prog_7_method_5_code 55 = .ok (.getfield 54, 3) := by decide +kernel
theorem d_SP_cutAt_58 : decode prog_7_method_5_code 58 = .ok (.iload_n 2, 1) := by decide +kernel
theorem d_SP_cutAt_59 : decode prog_7_method_5_code 59 = .ok (.laload, 1) := by decide +kernel
theorem d_SP_cutAt_60 : decode prog_7_method_5_code 60 = .ok (.aload_n 1, 1) := by decide +kernel
theorem d_SP_cutAt_61 : decode prog_7_method_5_code 61 = .ok (.getfield 54, 3) := by decide +kernel
theorem d_SP_cutAt_64 : decode prog_7_method_5_code 64 = .ok (.iload_n 3, 1) := by decide +kernel
theorem d_SP_cutAt_65 : decode prog_7_method_5_code 65 = .ok (.laload, 1) := by decide +kernel
theorem d_SP_cutAt_66 : decode prog_7_method_5_code 66 = .ok (.land, 1) := by decide +kernel
theorem d_SP_cutAt_67 : decode prog_7_method_5_code 67 = .ok (.aload_n 0, 1) := by decide +kernel
theorem d_SP_cutAt_68 : decode prog_7_method_5_code 68 = .ok (.getfield 29, 3) := by decide +kernel
theorem d_SP_cutAt_71 : decode prog_7_method_5_code 71 = .ok (.land, 1) := by decide +kernel
theorem d_SP_cutAt_72 : decode prog_7_method_5_code 72 = .ok (.lstore 4, 2) := by decide +kernel
theorem d_SP_cutAt_74 : decode prog_7_method_5_code 74 = .ok (.iconst 0, 1) := by decide +kernel
theorem d_SP_cutAt_75 : decode prog_7_method_5_code 75 = .ok (.istore 6, 2) := by decide +kernel
theorem d_SP_cutAt_77 : decode prog_7_method_5_code 77 = .ok (.iload 6, 2) := by decide +kernel
theorem d_SP_cutAt_79 : decode prog_7_method_5_code 79 = .ok (.bipush 40, 2) := by decide +kernel
theorem d_SP_cutAt_81 : decode prog_7_method_5_code 81 = .ok (.if_icmp .ge 30, 3) := by decide +kernel
theorem d_SP_cutAt_84 : decode prog_7_method_5_code 84 = .ok (.lload 4, 2) := by decide +kernel
theorem d_SP_cutAt_86 : decode prog_7_method_5_code 86 = .ok (.iload 6, 2) := by decide +kernel
theorem d_SP_cutAt_88 : decode prog_7_method_5_code 88 = .ok (.invokestatic 48, 3) := by decide +kernel
theorem d_SP_cutAt_91 : decode prog_7_method_5_code 91 = .ok (.ifCond .eq 14, 3) := by decide +kernel
theorem d_SP_cutAt_94 : decode prog_7_method_5_code 94 = .ok (.aload_n 0, 1) := by decide +kernel
theorem d_SP_cutAt_95 : decode prog_7_method_5_code 95 = .ok (.getfield 14, 3) := by decide +kernel
theorem d_SP_cutAt_98 : decode prog_7_method_5_code 98 = .ok (.lconst 1, 1) := by decide +kernel
theorem d_SP_cutAt_99 : decode prog_7_method_5_code 99 = .ok (.iload 6, 2) := by decide +kernel
theorem d_SP_cutAt_101 : decode prog_7_method_5_code 101 = .ok (.lshl, 1) := by decide +kernel
theorem d_SP_cutAt_102 : decode prog_7_method_5_code 102 = .ok (.invokevirtual 69, 3) := by decide +kernel
theorem d_SP_cutAt_105 : decode prog_7_method_5_code 105 = .ok (.iinc 6 1, 3) := by decide +kernel
theorem d_SP_cutAt_108 : decode prog_7_method_5_code 108 = .ok (.goto (-31), 3) := by decide +kernel
theorem d_SP_cutAt_111 : decode prog_7_method_5_code 111 = .ok (.return_, 1) := by decide +kernel
set_option maxHeartbeats 4000000 in
set_option maxRecDepth 100000 in
theorem c_SP_cutAt (l : Launch) (dC : Nat → ClassId) (dI : Nat → Nat → Nat) (cI cJ cZ : ClassId) (sp gg pi bo gd : Nat) (pci gci : Int32) (bl : Int64) (gs : Nat) (zi : Int32) (Se : Nat → Int64) (k nr fr rs at_ h : Nat) (al : Int32) (br : Int64) (A : Nat → Int64) (a b : Nat) (ha14 : a < 14) (hb14 : b < 14) (hb41 : ∀ e, lb bl e = true → e < 41) : Met l ⟨"CutPoints$Splitter", "cutAt", "(LCutPoints$Sketch;II)V"⟩ (Cond.code ⟨"CutPoints$Splitter", "cutAt", "(LCutPoints$Sketch;II)V"⟩ prog_7_method_5_code 7 none :: TT) (rmk 1 26) (PM dC dI cI cJ cZ [.ref sp, .ref k, .int (nI a), .int (nI b)] [(sp, .inr (6, [.ref gg, .ref pi, .ref bo, .int pci, .ref gd, .int gci, .long bl])), (gg, .inr (3, [.ref gs, .int zi])), (gs, .inl (cJ, 41, .inr (.inl Se))), (k, .inr (2, [.ref nr, .ref fr, .ref rs, .ref at_, .ref h, .int al, .long br])), (at_, .inl (cJ, 14, .inr (.inl A)))]) (va_Qv (S := (Nat → Int64) × Nat) (fun u9 => GPI (PLr A bl a b) u9.1 u9.2) (fun u9 t9 => va_P (dC, dI) cls ([(sp, .inr (6, [.ref gg, .ref pi, .ref bo, .int pci, .ref gd, .int gci, .long bl])), (gg, .inr (3, [.ref gs, .int (nI u9.2)])), (gs, .inl (cJ, 41, .inr (.inl u9.1))), (k, .inr (2, [.ref nr, .ref fr, .ref rs, .ref at_, .ref h, .int al, .long br])), (at_, .inl (cJ, 14, .inr (.inl A)))]) t9.heap) (ow [(sp, .inr (6, [.ref gg, .ref pi, .ref bo, .int pci, .ref gd, .int gci, .long bl])), (gg, .inr (3, [.ref gs, .int zi])), (gs, .inl (cJ, 41, .inr (.inl Se))), (k, .inr (2, [.ref nr, .ref fr, .ref rs, .ref at_, .ref h, .int al, .long br])), (at_, .inl (cJ, 14, .inr (.inl A)))])) 0 0 (ow [(sp, .inr (6, [.ref gg, .ref pi, .ref bo, .int pci, .ref gd, .int gci, .long bl])), (gg, .inr (3, [.ref gs, .int zi])), (gs, .inl (cJ, 41, .inr (.inl Se))), (k, .inr (2, [.ref nr, .ref fr, .ref rs, .ref at_, .ref h, .int al, .long br])), (at_, .inl (cJ, 14, .inr (.inl A)))]) := by
  refine Met.ofW (cc := prog_7_method_5_code) (maxL := 7) (ret := none) (by decide) rfl ?_
  intro p e s m args below meth c s₁ BB9 hml hv
  obtain ⟨rfl, hP, hK, hD0⟩ := hv
  have hx := BB9.exec
  have hb := BB9.bytes
  have hr := BB9.returns
  have hts : ∀ w ∈ TT, w.before _ s = true := fun w h => atoms_spec (ws := (Cond.code ⟨"CutPoints$Splitter", "cutAt", "(LCutPoints$Sketch;II)V"⟩ prog_7_method_5_code 7 none :: TT)) BB9.pre w (List.mem_cons_of_mem _ h)
  have hown : s.vm.findClass "CutPoints$Splitter" = some m.cls := findClass_of_methodNamed BB9.named
  have hlocks := BB9.notSynchronized
  have hD := hD0.mine
  have hS : va_S (ow [(sp, .inr (6, [.ref gg, .ref pi, .ref bo, .int pci, .ref gd, .int gci, .long bl])), (gg, .inr (3, [.ref gs, .int zi])), (gs, .inl (cJ, 41, .inr (.inl Se))), (k, .inr (2, [.ref nr, .ref fr, .ref rs, .ref at_, .ref h, .int al, .long br])), (at_, .inl (cJ, 14, .inr (.inl A)))]) s.heap s.heap [] := va_S.rf
  have hl := lv_entry ([.ref sp, .ref k, .int (nI a), .int (nI b)]) (n := 7) (Nat.le_of_ble_eq_true rfl)
  rw [lg_entry_eq]
  generalize (lg_sl ([.ref sp, .ref k, .int (nI a), .int (nI b)]) ++ List.replicate (7 - (lg_sl ([.ref sp, .ref k, .int (nI a), .int (nI b)])).length) Slot.unset).toArray = ls at hl ⊢
  have hl : lv_has ls 7 [(0, .ref sp), (1, .ref k), (2, .int (nI a)), (3, .int (nI b))] := hl
  refine lv_aload_n hx hb d_SP_cutAt_0 rfl (lv_at hl 0 rfl) ?_
  refine va_get (D := (dC, dI)) (ci := 6) (v := .ref gg) (C := R_SP) (T := F_SP) (N := 7) hx hb hts in_SP hown hK.1 hP 0 rfl rfl 0 (by decide) (hts _ wfl_SP_14) (fun _ h9 => h9) rfl d_SP_cutAt_1 ?_
  refine x_cv (k_V (n := 0) (C := R_GP) (rest := []) ⟨hx, hb, hml, hown, hts⟩ (c_GP_forget l dC dI cI cJ cZ gg gs zi) wml_SP_66 wim_GP_forget wsel_GP_forget wini_GP wcode_GP_forget (by decide +kernel) ⟨Nat.le_of_ble_eq_true rfl, Nat.le_of_ble_eq_true rfl⟩ (preV_M (q := (R_GP, F_GP, 2)) (ci := 3) (q0 := 0) (hP.sub (ws' := [(gg, .inr (3, [.ref gs, .int zi]))]) [1] rfl) hK (hD.sub (ws' := [(gg, .inr (3, [.ref gs, .int zi]))]) [1] (by decide) rfl) rfl rfl) rfl hl.1 rfl (Nat.le_of_ble_eq_true rfl) d_SP_cutAt_4 ⟨Nat.zero_le _, Nat.zero_le _⟩) hP hD hS [1] rfl (fun _ => rfl) (fun u_1 H locs hu_1 hP hS => ?_)
  have hP : va_P (dC, dI) cls [(sp, .inr (6, [.ref gg, .ref pi, .ref bo, .int pci, .ref gd, .int gci, .long bl])), (gg, .inr (3, [.ref gs, .int (nI 0)])), (gs, .inl (cJ, 41, .inr (.inl Se))), (k, .inr (2, [.ref nr, .ref fr, .ref rs, .ref at_, .ref h, .int al, .long br])), (at_, .inl (cJ, 14, .inr (.inl A)))] H := hP
  have hD := hD.addr (ws' := [(sp, .inr (6, [.ref gg, .ref pi, .ref bo, .int pci, .ref gd, .int gci, .long bl])), (gg, .inr (3, [.ref gs, .int (nI 0)])), (gs, .inl (cJ, 41, .inr (.inl Se))), (k, .inr (2, [.ref nr, .ref fr, .ref rs, .ref at_, .ref h, .int al, .long br])), (at_, .inl (cJ, 14, .inr (.inl A)))]) rfl
  refine lv_iconst (v := (nI 0)) hx hb d_SP_cutAt_7 (by decide) ?_
  refine lv_istore (lv' := [(4, .int (nI 0)), (0, .ref sp), (1, .ref k), (2, .int (nI a)), (3, .int (nI b))]) hx hb d_SP_cutAt_8 hl (by decide) rfl (fun ls hl => ?_)
  have L10_2 : ∀ (n : Nat) (S2 : Nat → Int64) (z : Nat) (i : Nat) (hn : 14 - i < n) (hi : i ≤ 14) (hGP : GPI (PLa A bl a b i) S2 z) (H : Heap) (locs : List Loc) (hP : va_P (dC, dI) cls [(sp, .inr (6, [.ref gg, .ref pi, .ref bo, .int pci, .ref gd, .int gci, .long bl])), (gg, .inr (3, [.ref gs, .int (nI z)])), (gs, .inl (cJ, 41, .inr (.inl S2))), (k, .inr (2, [.ref nr, .ref fr, .ref rs, .ref at_, .ref h, .int al, .long br])), (at_, .inl (cJ, 14, .inr (.inl A)))] H) (hD : va_D (ow [(sp, .inr (6, [.ref gg, .ref pi, .ref bo, .int pci, .ref gd, .int gci, .long bl])), (gg, .inr (3, [.ref gs, .int zi])), (gs, .inl (cJ, 41, .inr (.inl Se))), (k, .inr (2, [.ref nr, .ref fr, .ref rs, .ref at_, .ref h, .int al, .long br])), (at_, .inl (cJ, 14, .inr (.inl A)))]) [(sp, .inr (6, [.ref gg, .ref pi, .ref bo, .int pci, .ref gd, .int gci, .long bl])), (gg, .inr (3, [.ref gs, .int (nI z)])), (gs, .inl (cJ, 41, .inr (.inl S2))), (k, .inr (2, [.ref nr, .ref fr, .ref rs, .ref at_, .ref h, .int al, .long br])), (at_, .inl (cJ, 14, .inr (.inl A)))]) (hS : va_S (ow [(sp, .inr (6, [.ref gg, .ref pi, .ref bo, .int pci, .ref gd, .int gci, .long bl])), (gg, .inr (3, [.ref gs, .int zi])), (gs, .inl (cJ, 41, .inr (.inl Se))), (k, .inr (2, [.ref nr, .ref fr, .ref rs, .ref at_, .ref h, .int al, .long br])), (at_, .inl (cJ, 14, .inr (.inl A)))]) s.heap H locs) (ls : Array Slot) (hl : lv_has ls 7 [(0, .ref sp), (1, .ref k), (2, .int (nI a)), (3, .int (nI b)), (4, .int (nI i))]), W p l e (headSpec (Cond.code ⟨"CutPoints$Splitter", "cutAt", "(LCutPoints$Sketch;II)V"⟩ prog_7_method_5_code 7 none :: TT) (rmk 1 26)).room s m ([.ref sp, .ref k, .int (nI a), .int (nI b)] : List Value).toArray below meth c H locs 0 0 (MQ below (va_Qv (S := (Nat → Int64) × Nat) (fun u9 => GPI (PLr A bl a b) u9.1 u9.2) (fun u9 t9 => va_P (dC, dI) cls ([(sp, .inr (6, [.ref gg, .ref pi, .ref bo, .int pci, .ref gd, .int gci, .long bl])), (gg, .inr (3, [.ref gs, .int (nI u9.2)])), (gs, .inl (cJ, 41, .inr (.inl u9.1))), (k, .inr (2, [.ref nr, .ref fr, .ref rs, .ref at_, .ref h, .int al, .long br])), (at_, .inl (cJ, 14, .inr (.inl A)))]) t9.heap) (ow [(sp, .inr (6, [.ref gg, .ref pi, .ref bo, .int pci, .ref gd, .int gci, .long bl])), (gg, .inr (3, [.ref gs, .int zi])), (gs, .inl (cJ, 41, .inr (.inl Se))), (k, .inr (2, [.ref nr, .ref fr, .ref rs, .ref at_, .ref h, .int al, .long br])), (at_, .inl (cJ, 14, .inr (.inl A)))])) ([.ref sp, .ref k, .int (nI a), .int (nI b)] : List Value).toArray s 0 0 (ow [(sp, .inr (6, [.ref gg, .ref pi, .ref bo, .int pci, .ref gd, .int gci, .long bl])), (gg, .inr (3, [.ref gs, .int zi])), (gs, .inl (cJ, 41, .inr (.inl Se))), (k, .inr (2, [.ref nr, .ref fr, .ref rs, .ref at_, .ref h, .int al, .long br])), (at_, .inl (cJ, 14, .inr (.inl A)))])) (F0 m 10 ls []) := by
    intro n_10
    induction n_10 with
    | zero =>
      intro S2 z i hn_10
      exact absurd hn_10 (Nat.not_lt_zero _)
    | succ n_10 ih_10 =>
      intro S2 z i hn_10 hi hGP H locs hP hD hS ls hl
      refine lv_iload hx hb d_SP_cutAt_10 (lv_at hl 4 rfl) ?_
      refine lv_bipush (v := (nI 14)) hx hb d_SP_cutAt_12 (by decide) ?_
      refine x_cmp_ge (a := i) (b := 14) (tgt := 54) hx hb (by omega) (by omega) d_SP_cutAt_14 (by decide) (fun c_3 => ?_) (fun c_3 => ?_)
      · skip
        refine lv_aload_n hx hb d_SP_cutAt_54 rfl (lv_at hl 1 rfl) ?_
        refine va_get (D := (dC, dI)) (ci := 2) (v := .ref at_) (C := R_SK) (T := F_SK) (N := 7) hx hb hts in_SK hown hK.1 hP 3 rfl rfl 3 (by decide) (hts _ wfl_SP_54) (fun _ h9 => h9) rfl d_SP_cutAt_55 ?_
        refine lv_iload_n hx hb d_SP_cutAt_58 rfl (lv_at hl 2 rfl) ?_
        refine x_lald (n := 14) (f := A) (j := a) hx hb hK.1 hP 4 1 rfl rfl (by omega) (by omega) d_SP_cutAt_59 ?_
        refine lv_aload_n hx hb d_SP_cutAt_60 rfl (lv_at hl 1 rfl) ?_
        refine va_get (D := (dC, dI)) (ci := 2) (v := .ref at_) (C := R_SK) (T := F_SK) (N := 7) hx hb hts in_SK hown hK.1 hP 3 rfl rfl 3 (by decide) (hts _ wfl_SP_54) (fun _ h9 => h9) rfl d_SP_cutAt_61 ?_
        refine lv_iload_n hx hb d_SP_cutAt_64 rfl (lv_at hl 3 rfl) ?_
        refine x_lald (n := 14) (f := A) (j := b) hx hb hK.1 hP 4 1 rfl rfl (by omega) (by omega) d_SP_cutAt_65 ?_
        refine lv_land hx hb d_SP_cutAt_66 ?_
        refine lv_aload_n hx hb d_SP_cutAt_67 rfl (lv_at hl 0 rfl) ?_
        refine va_get (D := (dC, dI)) (ci := 6) (v := .long bl) (C := R_SP) (T := F_SP) (N := 7) hx hb hts in_SP hown hK.1 hP 0 rfl rfl 6 (by decide) (hts _ wfl_SP_29) (fun _ h9 => h9) rfl d_SP_cutAt_68 ?_
        refine lv_land hx hb d_SP_cutAt_71 ?_
        refine lv_lstore (lv' := [(4, .long (((A a) &&& (A b)) &&& bl)), (0, .ref sp), (1, .ref k), (2, .int (nI a)), (3, .int (nI b))]) hx hb d_SP_cutAt_72 hl (by decide) rfl (fun ls hl => ?_)
        refine lv_iconst (v := (nI 0)) hx hb d_SP_cutAt_74 (by decide) ?_
        refine lv_istore (lv' := [(6, .int (nI 0)), (4, .long (((A a) &&& (A b)) &&& bl)), (0, .ref sp), (1, .ref k), (2, .int (nI a)), (3, .int (nI b))]) hx hb d_SP_cutAt_75 hl (by decide) rfl (fun ls hl => ?_)
        have L77_4 : ∀ (n : Nat) (S2 : Nat → Int64) (z : Nat) (j : Nat) (hn : 40 - j < n) (hj : j ≤ 40) (hGP : GPI (PLd A bl a b j) S2 z) (H : Heap) (locs : List Loc) (hP : va_P (dC, dI) cls [(sp, .inr (6, [.ref gg, .ref pi, .ref bo, .int pci, .ref gd, .int gci, .long bl])), (gg, .inr (3, [.ref gs, .int (nI z)])), (gs, .inl (cJ, 41, .inr (.inl S2))), (k, .inr (2, [.ref nr, .ref fr, .ref rs, .ref at_, .ref h, .int al, .long br])), (at_, .inl (cJ, 14, .inr (.inl A)))] H) (hD : va_D (ow [(sp, .inr (6, [.ref gg, .ref pi, .ref bo, .int pci, .ref gd, .int gci, .long bl])), (gg, .inr (3, [.ref gs, .int zi])), (gs, .inl (cJ, 41, .inr (.inl Se))), (k, .inr (2, [.ref nr, .ref fr, .ref rs, .ref at_, .ref h, .int al, .long br])), (at_, .inl (cJ, 14, .inr (.inl A)))]) [(sp, .inr (6, [.ref gg, .ref pi, .ref bo, .int pci, .ref gd, .int gci, .long bl])), (gg, .inr (3, [.ref gs, .int (nI z)])), (gs, .inl (cJ, 41, .inr (.inl S2))), (k, .inr (2, [.ref nr, .ref fr, .ref rs, .ref at_, .ref h, .int al, .long br])), (at_, .inl (cJ, 14, .inr (.inl A)))]) (hS : va_S (ow [(sp, .inr (6, [.ref gg, .ref pi, .ref bo, .int pci, .ref gd, .int gci, .long bl])), (gg, .inr (3, [.ref gs, .int zi])), (gs, .inl (cJ, 41, .inr (.inl Se))), (k, .inr (2, [.ref nr, .ref fr, .ref rs, .ref at_, .ref h, .int al, .long br])), (at_, .inl (cJ, 14, .inr (.inl A)))]) s.heap H locs) (ls : Array Slot) (hl : lv_has ls 7 [(0, .ref sp), (1, .ref k), (2, .int (nI a)), (3, .int (nI b)), (4, .long ((A a &&& A b) &&& bl)), (6, .int (nI j))]), W p l e (headSpec (Cond.code ⟨"CutPoints$Splitter", "cutAt", "(LCutPoints$Sketch;II)V"⟩ prog_7_method_5_code 7 none :: TT) (rmk 1 26)).room s m ([.ref sp, .ref k, .int (nI a), .int (nI b)] : List Value).toArray below meth c H locs 0 0 (MQ below (va_Qv (S := (Nat → Int64) × Nat) (fun u9 => GPI (PLr A bl a b) u9.1 u9.2) (fun u9 t9 => va_P (dC, dI) cls ([(sp, .inr (6, [.ref gg, .ref pi, .ref bo, .int pci, .ref gd, .int gci, .long bl])), (gg, .inr (3, [.ref gs, .int (nI u9.2)])), (gs, .inl (cJ, 41, .inr (.inl u9.1))), (k, .inr (2, [.ref nr, .ref fr, .ref rs, .ref at_, .ref h, .int al, .long br])), (at_, .inl (cJ, 14, .inr (.inl A)))]) t9.heap) (ow [(sp, .inr (6, [.ref gg, .ref pi, .ref bo, .int pci, .ref gd, .int gci, .long bl])), (gg, .inr (3, [.ref gs, .int zi])), (gs, .inl (cJ, 41, .inr (.inl Se))), (k, .inr (2, [.ref nr, .ref fr, .ref rs, .ref at_, .ref h, .int al, .long br])), (at_, .inl (cJ, 14, .inr (.inl A)))])) ([.ref sp, .ref k, .int (nI a), .int (nI b)] : List Value).toArray s 0 0 (ow [(sp, .inr (6, [.ref gg, .ref pi, .ref bo, .int pci, .ref gd, .int gci, .long bl])), (gg, .inr (3, [.ref gs, .int zi])), (gs, .inl (cJ, 41, .inr (.inl Se))), (k, .inr (2, [.ref nr, .ref fr, .ref rs, .ref at_, .ref h, .int al, .long br])), (at_, .inl (cJ, 14, .inr (.inl A)))])) (F0 m 77 ls []) := by
          intro n_77
          induction n_77 with
          | zero =>
            intro S2 z j hn_77
            exact absurd hn_77 (Nat.not_lt_zero _)
          | succ n_77 ih_77 =>
            intro S2 z j hn_77 hj hGP H locs hP hD hS ls hl
            refine lv_iload hx hb d_SP_cutAt_77 (lv_at hl 5 rfl) ?_
            refine lv_bipush (v := (nI 40)) hx hb d_SP_cutAt_79 (by decide) ?_
            refine x_cmp_ge (a := j) (b := 40) (tgt := 111) hx hb (by omega) (by omega) d_SP_cutAt_81 (by decide) (fun c_5 => ?_) (fun c_5 => ?_)
            · skip
              exact W.vret hx hb hr (fun t9 ht9 _ => ⟨⟨(S2, z), rfl, (by have e9 : j = 40 := (by omega); subst e9; exact hGP), by show va_P (dC, dI) cls _ t9.heap; rw [ht9]; exact hP⟩, hS.F ht9⟩) hS.2.2 d_SP_cutAt_111
            · skip
              refine lv_lload hx hb d_SP_cutAt_84 (lv_at hl 4 rfl) ?_
              refine lv_iload hx hb d_SP_cutAt_86 (lv_at hl 5 rfl) ?_
              refine vp_callSi (va_Run.run (k_SN (n := 2) (rest := []) ⟨hx, hb, hml, hown, hts⟩ (c_CP_hasBit l dC dI cI cJ cZ ((A a &&& A b) &&& bl) j (by first | assumption | omega)) hK wmn_SP_48 wst_CP_hasBit wini_CP wcode_CP_hasBit (by decide +kernel) ⟨Nat.le_of_ble_eq_true rfl, Nat.le_of_ble_eq_true rfl⟩ (pre_R (hP.sub (ws' := []) [] rfl) hK) rfl hl.1 rfl (Nat.le_of_ble_eq_true rfl) d_SP_cutAt_88 ⟨Nat.zero_le _, Nat.zero_le _⟩)) (fun r_6 hr_7 => ?_)
              refine xe_i (y := (bI (lb ((A a &&& A b) &&& bl) j))) hr_7 ?_
              refine x_if_eq (tgt := 105) hx hb d_SP_cutAt_91 (by decide) (fun c_8 => ?_) (fun c_8 => ?_)
              · skip
                refine lv_iinc (v := (nI (j + 1))) (lv' := [(6, .int (nI (j + 1))), (0, .ref sp), (1, .ref k), (2, .int (nI a)), (3, .int (nI b)), (4, .long ((A a &&& A b) &&& bl))]) hx hb d_SP_cutAt_105 hl (k := 5) rfl (nI_1 _) (by decide) rfl (fun ls hl => ?_)
                refine lv_goto (tgt := 77) hx hb d_SP_cutAt_108 (by decide) ?_
                exact ih_77 S2 z (j + 1) (by omega) (by first | assumption | omega) (by rw [← PLd_f c_8]; exact hGP) _ _ hP hD hS ls (lv_sub hl [1, 2, 3, 4, 5, 0] rfl)
              · skip
                refine lv_aload_n hx hb d_SP_cutAt_94 rfl (lv_at hl 0 rfl) ?_
                refine va_get (D := (dC, dI)) (ci := 6) (v := .ref gg) (C := R_SP) (T := F_SP) (N := 7) hx hb hts in_SP hown hK.1 hP 0 rfl rfl 0 (by decide) (hts _ wfl_SP_14) (fun _ h9 => h9) rfl d_SP_cutAt_95 ?_
                refine lv_lconst (v := 1) hx hb d_SP_cutAt_98 rfl ?_
                refine lv_iload hx hb d_SP_cutAt_99 (lv_at hl 5 rfl) ?_
                refine lv_lshl (v := (lsb j)) hx hb d_SP_cutAt_101 rfl ?_
                refine x_cv (k_V (n := 1) (C := R_GP) (rest := []) ⟨hx, hb, hml, hown, hts⟩ (c_GP_join l dC dI cI cJ cZ gg gs z S2 (lsb j) (PLd A bl a b j) (GL_PLd A bl a b j) hGP (fun e he => by have := (l_lsb' (by omega)).mp he; omega)) wml_SP_69 wim_GP_join wsel_GP_join wini_GP wcode_GP_join (by decide +kernel) ⟨Nat.le_of_ble_eq_true rfl, Nat.le_of_ble_eq_true rfl⟩ (preV_M (q := (R_GP, F_GP, 2)) (ci := 3) (q0 := 0) (hP.sub (ws' := [(gg, .inr (3, [.ref gs, .int (nI z)])), (gs, .inl (cJ, 41, .inr (.inl S2)))]) [1, 2] rfl) hK (hD.sub (ws' := [(gg, .inr (3, [.ref gs, .int (nI z)])), (gs, .inl (cJ, 41, .inr (.inl S2)))]) [1, 2] (by decide) rfl) rfl rfl) rfl hl.1 rfl (Nat.le_of_ble_eq_true rfl) d_SP_cutAt_102 ⟨Nat.zero_le _, Nat.zero_le _⟩) hP hD hS [1, 2] rfl (fun _ => rfl) (fun u_9 H locs hu_9 hP hS => ?_)
                obtain ⟨S9_9, z9_9⟩ := u_9
                have hP : va_P (dC, dI) cls [(sp, .inr (6, [.ref gg, .ref pi, .ref bo, .int pci, .ref gd, .int gci, .long bl])), (gg, .inr (3, [.ref gs, .int (nI z9_9)])), (gs, .inl (cJ, 41, .inr (.inl S9_9))), (k, .inr (2, [.ref nr, .ref fr, .ref rs, .ref at_, .ref h, .int al, .long br])), (at_, .inl (cJ, 14, .inr (.inl A)))] H := hP
                have hD := hD.addr (ws' := [(sp, .inr (6, [.ref gg, .ref pi, .ref bo, .int pci, .ref gd, .int gci, .long bl])), (gg, .inr (3, [.ref gs, .int (nI z9_9)])), (gs, .inl (cJ, 41, .inr (.inl S9_9))), (k, .inr (2, [.ref nr, .ref fr, .ref rs, .ref at_, .ref h, .int al, .long br])), (at_, .inl (cJ, 14, .inr (.inl A)))]) rfl
                refine lv_iinc (v := (nI (j + 1))) (lv' := [(6, .int (nI (j + 1))), (0, .ref sp), (1, .ref k), (2, .int (nI a)), (3, .int (nI b)), (4, .long ((A a &&& A b) &&& bl))]) hx hb d_SP_cutAt_105 hl (k := 5) rfl (nI_1 _) (by decide) rfl (fun ls hl => ?_)
                refine lv_goto (tgt := 77) hx hb d_SP_cutAt_108 (by decide) ?_
                exact ih_77 S9_9 z9_9 (j + 1) (by omega) (by first | assumption | omega) (by rw [← PLd_t (by assumption) c_8]; exact hu_9) _ _ hP hD hS ls (lv_sub hl [1, 2, 3, 4, 5, 0] rfl)
        exact L77_4 ((40 - 0) + 1) S2 z 0 (Nat.lt_succ_self _) (by first | assumption | omega) (by rw [PLd_0]; have e9 : i = 14 := (by omega); subst e9; exact hGP) _ _ hP hD hS ls (lv_sub hl [2, 3, 4, 5, 1, 0] rfl)
      · skip
        refine lv_iload hx hb d_SP_cutAt_17 (lv_at hl 4 rfl) ?_
        refine lv_iload_n hx hb d_SP_cutAt_19 rfl (lv_at hl 2 rfl) ?_
        refine x_cmp_eq (a := i) (b := a) (tgt := 48) hx hb (by omega) (by omega) d_SP_cutAt_20 (by decide) (fun c_10 => ?_) (fun c_10 => ?_)
        · skip
          refine lv_iinc (v := (nI (i + 1))) (lv' := [(4, .int (nI (i + 1))), (0, .ref sp), (1, .ref k), (2, .int (nI a)), (3, .int (nI b))]) hx hb d_SP_cutAt_48 hl (k := 4) rfl (nI_1 _) (by decide) rfl (fun ls hl => ?_)
          refine lv_goto (tgt := 10) hx hb d_SP_cutAt_51 (by decide) ?_
          exact ih_10 S2 z (i + 1) (by omega) (by first | assumption | omega) (by rw [← PLa_f (Or.inl c_10)]; exact hGP) _ _ hP hD hS ls (lv_sub hl [1, 2, 3, 4, 0] rfl)
        · skip
          refine lv_iload hx hb d_SP_cutAt_23 (lv_at hl 4 rfl) ?_
          refine lv_iload_n hx hb d_SP_cutAt_25 rfl (lv_at hl 3 rfl) ?_
          refine x_cmp_eq (a := i) (b := b) (tgt := 48) hx hb (by omega) (by omega) d_SP_cutAt_26 (by decide) (fun c_11 => ?_) (fun c_11 => ?_)
          · skip
            refine lv_iinc (v := (nI (i + 1))) (lv' := [(4, .int (nI (i + 1))), (0, .ref sp), (1, .ref k), (2, .int (nI a)), (3, .int (nI b))]) hx hb d_SP_cutAt_48 hl (k := 4) rfl (nI_1 _) (by decide) rfl (fun ls hl => ?_)
            refine lv_goto (tgt := 10) hx hb d_SP_cutAt_51 (by decide) ?_
            exact ih_10 S2 z (i + 1) (by omega) (by first | assumption | omega) (by rw [← PLa_f (Or.inr c_11)]; exact hGP) _ _ hP hD hS ls (lv_sub hl [1, 2, 3, 4, 0] rfl)
          · skip
            refine lv_aload_n hx hb d_SP_cutAt_29 rfl (lv_at hl 0 rfl) ?_
            refine va_get (D := (dC, dI)) (ci := 6) (v := .ref gg) (C := R_SP) (T := F_SP) (N := 7) hx hb hts in_SP hown hK.1 hP 0 rfl rfl 0 (by decide) (hts _ wfl_SP_14) (fun _ h9 => h9) rfl d_SP_cutAt_30 ?_
            refine lv_aload_n hx hb d_SP_cutAt_33 rfl (lv_at hl 1 rfl) ?_
            refine va_get (D := (dC, dI)) (ci := 2) (v := .ref at_) (C := R_SK) (T := F_SK) (N := 7) hx hb hts in_SK hown hK.1 hP 3 rfl rfl 3 (by decide) (hts _ wfl_SP_54) (fun _ h9 => h9) rfl d_SP_cutAt_34 ?_
            refine lv_iload hx hb d_SP_cutAt_37 (lv_at hl 4 rfl) ?_
            refine x_lald (n := 14) (f := A) (j := i) hx hb hK.1 hP 4 1 rfl rfl (by omega) (by omega) d_SP_cutAt_39 ?_
            refine lv_aload_n hx hb d_SP_cutAt_40 rfl (lv_at hl 0 rfl) ?_
            refine va_get (D := (dC, dI)) (ci := 6) (v := .long bl) (C := R_SP) (T := F_SP) (N := 7) hx hb hts in_SP hown hK.1 hP 0 rfl rfl 6 (by decide) (hts _ wfl_SP_29) (fun _ h9 => h9) rfl d_SP_cutAt_41 ?_
            refine lv_land hx hb d_SP_cutAt_44 ?_
            refine x_cv (k_V (n := 1) (C := R_GP) (rest := []) ⟨hx, hb, hml, hown, hts⟩ (c_GP_join l dC dI cI cJ cZ gg gs z S2 ((A i) &&& bl) (PLa A bl a b i) (GL_PLa A bl a b i) hGP (fun e he => hb41 e (l_and'.mp he).2)) wml_SP_69 wim_GP_join wsel_GP_join wini_GP wcode_GP_join (by decide +kernel) ⟨Nat.le_of_ble_eq_true rfl, Nat.le_of_ble_eq_true rfl⟩ (preV_M (q := (R_GP, F_GP, 2)) (ci := 3) (q0 := 0) (hP.sub (ws' := [(gg, .inr (3, [.ref gs, .int (nI z)])), (gs, .inl (cJ, 41, .inr (.inl S2)))]) [1, 2] rfl) hK (hD.sub (ws' := [(gg, .inr (3, [.ref gs, .int (nI z)])), (gs, .inl (cJ, 41, .inr (.inl S2)))]) [1, 2] (by decide) rfl) rfl rfl) rfl hl.1 rfl (Nat.le_of_ble_eq_true rfl) d_SP_cutAt_45 ⟨Nat.zero_le _, Nat.zero_le _⟩) hP hD hS [1, 2] rfl (fun _ => rfl) (fun u_12 H locs hu_12 hP hS => ?_)
            obtain ⟨S9_12, z9_12⟩ := u_12
            have hP : va_P (dC, dI) cls [(sp, .inr (6, [.ref gg, .ref pi, .ref bo, .int pci, .ref gd, .int gci, .long bl])), (gg, .inr (3, [.ref gs, .int (nI z9_12)])), (gs, .inl (cJ, 41, .inr (.inl S9_12))), (k, .inr (2, [.ref nr, .ref fr, .ref rs, .ref at_, .ref h, .int al, .long br])), (at_, .inl (cJ, 14, .inr (.inl A)))] H := hP
            have hD := hD.addr (ws' := [(sp, .inr (6, [.ref gg, .ref pi, .ref bo, .int pci, .ref gd, .int gci, .long bl])), (gg, .inr (3, [.ref gs, .int (nI z9_12)])), (gs, .inl (cJ, 41, .inr (.inl S9_12))), (k, .inr (2, [.ref nr, .ref fr, .ref rs, .ref at_, .ref h, .int al, .long br])), (at_, .inl (cJ, 14, .inr (.inl A)))]) rfl
            refine lv_iinc (v := (nI (i + 1))) (lv' := [(4, .int (nI (i + 1))), (0, .ref sp), (1, .ref k), (2, .int (nI a)), (3, .int (nI b))]) hx hb d_SP_cutAt_48 hl (k := 4) rfl (nI_1 _) (by decide) rfl (fun ls hl => ?_)
            refine lv_goto (tgt := 10) hx hb d_SP_cutAt_51 (by decide) ?_
            exact ih_10 S9_12 z9_12 (i + 1) (by omega) (by first | assumption | omega) (by rw [← PLa_t c_10 c_11]; exact hu_12) _ _ hP hD hS ls (lv_sub hl [1, 2, 3, 4, 0] rfl)
  exact L10_2 ((14 - 0) + 1) Se 0 0 (Nat.lt_succ_self _) (by first | assumption | omega) (by rw [PLa_0]; exact GPI_0 _) _ _ hP hD hS ls (lv_sub hl [1, 2, 3, 4, 0] rfl)

theorem d_SP_keepPieces_0 : decode prog_7_method_6_code 0 = .ok (.aload_n 0, 1) := by decide +kernel
theorem d_SP_keepPieces_1 : decode prog_7_method_6_code 1 = .ok (.getfield 22, 3) := by decide +kernel
theorem d_SP_keepPieces_4 : decode prog_7_method_6_code 4 = .ok (.aload_n 0, 1) := by decide +kernel
theorem d_SP_keepPieces_5 : decode prog_7_method_6_code 5 = .ok (.getfield 41, 3) := by decide +kernel
theorem d_SP_keepPieces_8 : decode prog_7_method_6_code 8 = .ok (.iaload, 1) := by decide +kernel
theorem d_SP_keepPieces_9 : decode prog_7_method_6_code 9 = .ok (.istore_n 1, 1) := by decide +kernel
theorem d_SP_keepPieces_10 : decode prog_7_method_6_code 10 = .ok (.aload_n 0, 1) := by decide +kernel
theorem d_SP_keepPieces_11 : decode prog_7_method_6_code 11 = .ok (.getfield 14, 3) := by decide +kernel
theorem d_SP_keepPieces_14 : decode prog_7_method_6_code 14 = .ok (.getfield 73, 3) := by decide +kernel
theorem d_SP_keepPieces_17 : decode prog_7_method_6_code 17 = .ok (.iconst 2, 1) := by decide +kernel
theorem d_SP_keepPieces_18 : decode prog_7_method_6_code 18 = .ok (.if_icmp .lt 27, 3) := by decide +kernel
theorem d_SP_keepPieces_21 : decode prog_7_method_6_code 21 = .ok (.iload_n 1, 1) := by decide +kernel
theorem d_SP_keepPieces_22 : decode prog_7_method_6_code 22 = .ok (.aload_n 0, 1) := by decide +kernel
theorem d_SP_keepPieces_23 : decode prog_7_method_6_code 23 = .ok (.getfield 14, 3) := by decide +kernel
theorem d_SP_keepPieces_26 : decode prog_7_method_6_code 26 = .ok (.getfield 73, 3) := by decide +kernel
theorem d_SP_keepPieces_29 : decode prog_7_method_6_code 29 = .ok (.iadd, 1) := by decide +kernel
theorem d_SP_keepPieces_30 : decode prog_7_method_6_code 30 = .ok (.sipush 1274, 3) := by decide +kernel
theorem d_SP_keepPieces_33 : decode prog_7_method_6_code 33 = .ok (.if_icmp .gt 12, 3) := by decide +kernel
theorem d_SP_keepPieces_36 : decode prog_7_method_6_code 36 = .ok (.aload_n 0, 1) := by decide +kernel
theorem d_SP_keepPieces_37 : decode prog_7_method_6_code 37 = .ok (.getfield 41, 3) := by decide +kernel
theorem d_SP_keepPieces_40 : decode prog_7_method_6_code 40 = .ok (.bipush 91, 2) := by decide +kernel
theorem d_SP_keepPieces_42 : decode prog_7_method_6_code 42 = .ok (.if_icmp .lt 4, 3) := by decide +kernel
theorem d_SP_keepPieces_45 : decode prog_7_method_6_code 45 = .ok (.return_, 1) := by decide +kernel
theorem d_SP_keepPieces_46 : decode prog_7_method_6_code 46 = .ok (.iconst 0, 1) := by decide +kernel
theorem d_SP_keepPieces_47 : decode prog_7_method_6_code 47 = .ok (.istore_n 2, 1) := by decide +kernel
theorem d_SP_keepPieces_48 : decode prog_7_method_6_code 48 = .ok (.iload_n 2, 1) := by decide +kernel
theorem d_SP_keepPieces_49 : decode prog_7_method_6_code 49 = .ok (.aload_n 0, 1) := by decide +kernel
theorem d_SP_keepPieces_50 : decode prog_7_method_6_code 50 = .ok (.getfield 14, 3) := by decide +kernel
theorem d_SP_keepPieces_53 : decode prog_7_method_6_code 53 = .ok (.getfield 73, 3) := by decide +kernel
theorem d_SP_keepPieces_56 : decode prog_7_method_6_code 56 = .ok (.if_icmp .ge 26, 3) := by decide +kernel
theorem d_SP_keepPieces_59 : decode prog_7_method_6_code 59 = .ok (.aload_n 0, 1) := by decide +kernel
theorem d_SP_keepPieces_60 : decode prog_7_method_6_code 60 = .ok (.getfield 18, 3) := by decide +kernel
theorem d_SP_keepPieces_63 : decode prog_7_method_6_code 63 = .ok (.iload_n 1, 1) := by decide +kernel
theorem d_SP_keepPieces_64 : decode prog_7_method_6_code 64 = .ok (.iload_n 2, 1) := by decide +kernel
theorem d_SP_keepPieces_65 : decode prog_7_method_6_code 65 = .ok (.iadd, 1) := by decide +kernel
theorem d_SP_keepPieces_66 : decode prog_7_method_6_code 66 = .ok (.aload_n 0, 1) := by decide +kernel
theorem d_SP_keepPieces_67 : decode prog_7_method_6_code 67 = .ok (.getfield 14, 3) := by decide +kernel
theorem d_SP_keepPieces_70 : decode prog_7_method_6_code 70 = .ok (.getfield 76, 3) := by decide +kernel
theorem d_SP_keepPieces_73 : decode prog_7_method_6_code 73 = .ok (.iload_n 2, 1) := by decide +kernel
theorem d_SP_keepPieces_74 : decode prog_7_method_6_code 74 = .ok (.laload, 1) := by decide +kernel
theorem d_SP_keepPieces_75 : decode prog_7_method_6_code 75 = .ok (.lastore, 1) := by decide +kernel
theorem d_SP_keepPieces_76 : decode prog_7_method_6_code 76 = .ok (.iinc 2 1, 3) := by decide +kernel
theorem d_SP_keepPieces_79 : decode prog_7_method_6_code 79 = .ok (.goto (-31), 3) := by decide +kernel
theorem d_SP_keepPieces_82 : decode prog_7_method_6_code 82 = .ok (.aload_n 0, 1) := by decide +kernel
theorem d_SP_keepPieces_83 : decode prog_7_method_6_code 83 = .ok (.dup, 1) := by decide +kernel
theorem d_SP_keepPieces_84 : decode prog_7_method_6_code 84 = .ok (.getfield 41, 3) := by decide +kernel
theorem d_SP_keepPieces_87 : decode prog_7_method_6_code 87 = .ok (.iconst 1, 1) := by decide +kernel
theorem d_SP_keepPieces_88 : decode prog_7_method_6_code 88 = .ok (.iadd, 1) := by decide +kernel
theorem d_SP_keepPieces_89 : decode prog_7_method_6_code 89 = .ok (.putfield 41, 3) := by decide +kernel
theorem d_SP_keepPieces_92 : decode prog_7_method_6_code 92 = .ok (.aload_n 0, 1) := by decide +kernel
theorem d_SP_keepPieces_93 : decode prog_7_method_6_code 93 = .ok (.getfield 22, 3) := by decide +kernel
theorem d_SP_keepPieces_96 : decode prog_7_method_6_code 96 = .ok (.aload_n 0, 1) := by decide +kernel
theorem d_SP_keepPieces_97 : decode prog_7_method_6_code 97 = .ok (.getfield 41, 3) := by decide +kernel
theorem d_SP_keepPieces_100 : decode prog_7_method_6_code 100 = .ok (.iload_n 1, 1) := by decide +kernel
theorem d_SP_keepPieces_101 : decode prog_7_method_6_code 101 = .ok (.aload_n 0, 1) := by decide +kernel
theorem d_SP_keepPieces_102 : decode prog_7_method_6_code 102 = .ok (.getfield 14, 3) := by decide +kernel
theorem d_SP_keepPieces_105 : decode prog_7_method_6_code 105 = .ok (.getfield 73, 3) := by decide +kernel
theorem d_SP_keepPieces_108 : decode prog_7_method_6_code 108 = .ok (.iadd, 1) := by decide +kernel
theorem d_SP_keepPieces_109 : decode prog_7_method_6_code 109 = .ok (.iastore, 1) := by decide +kernel
theorem d_SP_keepPieces_110 : decode prog_7_method_6_code 110 = .ok (.return_, 1) := by decide +kernel
set_option maxHeartbeats 4000000 in
set_option maxRecDepth 100000 in
theorem c_SP_keepPieces (l : Launch) (dC : Nat → ClassId) (dI : Nat → Nat → Nat) (cI cJ cZ : ClassId) (sp gg pi bo gd : Nat) (pc : Nat) (gci : Int32) (bl : Int64) (gs z : Nat) (Se Pi : Nat → Int64) (Bo : Nat → Nat) (hz41 : z ≤ 41) (hpc : pc < 91) (hcap : Bo pc + z ≤ 1274) : Met l ⟨"CutPoints$Splitter", "keepPieces", "()V"⟩ (Cond.code ⟨"CutPoints$Splitter", "keepPieces", "()V"⟩ prog_7_method_6_code 3 none :: TT) (rmk 0 0) (PM dC dI cI cJ cZ [.ref sp] [(sp, .inr (6, [.ref gg, .ref pi, .ref bo, .int (nI pc), .ref gd, .int gci, .long bl])), (gg, .inr (3, [.ref gs, .int (nI z)])), (gs, .inl (cJ, 41, .inr (.inl Se))), (pi, .inl (cJ, 1274, .inr (.inl Pi))), (bo, .inl (cI, 92, .inl (nF Bo)))]) (va_Qv (S := Nat × (Nat → Nat) × (Nat → Int64)) (fun u9 => (z < 2 ∧ u9.1 = pc ∧ u9.2.1 = Bo ∧ u9.2.2 = Pi) ∨ (2 ≤ z ∧ u9.1 = pc + 1 ∧ u9.2.1 = va_up Bo (pc + 1) (Bo pc + z) ∧ kpI Se Pi u9.2.2 (Bo pc) z)) (fun u9 t9 => va_P (dC, dI) cls ([(sp, .inr (6, [.ref gg, .ref pi, .ref bo, .int (nI u9.1), .ref gd, .int gci, .long bl])), (gg, .inr (3, [.ref gs, .int (nI z)])), (gs, .inl (cJ, 41, .inr (.inl Se))), (pi, .inl (cJ, 1274, .inr (.inl u9.2.2))), (bo, .inl (cI, 92, .inl (nF u9.2.1)))]) t9.heap) (ow [(sp, .inr (6, [.ref gg, .ref pi, .ref bo, .int (nI pc), .ref gd, .int gci, .long bl])), (gg, .inr (3, [.ref gs, .int (nI z)])), (gs, .inl (cJ, 41, .inr (.inl Se))), (pi, .inl (cJ, 1274, .inr (.inl Pi))), (bo, .inl (cI, 92, .inl (nF Bo)))])) 0 0 (ow [(sp, .inr (6, [.ref gg, .ref pi, .ref bo, .int (nI pc), .ref gd, .int gci, .long bl])), (gg, .inr (3, [.ref gs, .int (nI z)])), (gs, .inl (cJ, 41, .inr (.inl Se))), (pi, .inl (cJ, 1274, .inr (.inl Pi))), (bo, .inl (cI, 92, .inl (nF Bo)))]) := by
  refine Met.ofW (cc := prog_7_method_6_code) (maxL := 3) (ret := none) (by decide) rfl ?_
  intro p e s m args below meth c s₁ BB9 hml hv
  obtain ⟨rfl, hP, hK, hD0⟩ := hv
  have hx := BB9.exec
  have hb := BB9.bytes
  have hr := BB9.returns
  have hts : ∀ w ∈ TT, w.before _ s = true := fun w h => atoms_spec (ws := (Cond.code ⟨"CutPoints$Splitter", "keepPieces", "()V"⟩ prog_7_method_6_code 3 none :: TT)) BB9.pre w (List.mem_cons_of_mem _ h)
  have hown : s.vm.findClass "CutPoints$Splitter" = some m.cls := findClass_of_methodNamed BB9.named
  have hlocks := BB9.notSynchronized
  have hD := hD0.mine
  have hS : va_S (ow [(sp, .inr (6, [.ref gg, .ref pi, .ref bo, .int (nI pc), .ref gd, .int gci, .long bl])), (gg, .inr (3, [.ref gs, .int (nI z)])), (gs, .inl (cJ, 41, .inr (.inl Se))), (pi, .inl (cJ, 1274, .inr (.inl Pi))), (bo, .inl (cI, 92, .inl (nF Bo)))]) s.heap s.heap [] := va_S.rf
  have hl := lv_entry ([.ref sp]) (n := 3) (Nat.le_of_ble_eq_true rfl)
  rw [lg_entry_eq]
  generalize (lg_sl ([.ref sp]) ++ List.replicate (3 - (lg_sl ([.ref sp])).length) Slot.unset).toArray = ls at hl ⊢
  have hl : lv_has ls 3 [(0, .ref sp)] := hl
  refine lv_aload_n hx hb d_SP_keepPieces_0 rfl (lv_at hl 0 rfl) ?_
  refine va_get (D := (dC, dI)) (ci := 6) (v := .ref bo) (C := R_SP) (T := F_SP) (N := 7) hx hb hts in_SP hown hK.1 hP 0 rfl rfl 2 (by decide) (hts _ wfl_SP_22) (fun _ h9 => h9) rfl d_SP_keepPieces_1 ?_
  refine lv_aload_n hx hb d_SP_keepPieces_4 rfl (lv_at hl 0 rfl) ?_
  refine va_get (D := (dC, dI)) (ci := 6) (v := .int (nI pc)) (C := R_SP) (T := F_SP) (N := 7) hx hb hts in_SP hown hK.1 hP 0 rfl rfl 3 (by decide) (hts _ wfl_SP_41) (fun _ h9 => h9) rfl d_SP_keepPieces_5 ?_
  refine x_iald (n := 92) (f := (nF Bo)) (j := pc) hx hb hK.1 hP 4 0 rfl rfl (by omega) (by omega) d_SP_keepPieces_8 ?_
  refine xe_i (y := (nI (Bo pc))) rfl ?_
  refine lv_istore_n (lv' := [(1, .int (nI (Bo pc))), (0, .ref sp)]) hx hb d_SP_keepPieces_9 rfl hl (by decide) rfl (fun ls hl => ?_)
  refine lv_aload_n hx hb d_SP_keepPieces_10 rfl (lv_at hl 1 rfl) ?_
  refine va_get (D := (dC, dI)) (ci := 6) (v := .ref gg) (C := R_SP) (T := F_SP) (N := 7) hx hb hts in_SP hown hK.1 hP 0 rfl rfl 0 (by decide) (hts _ wfl_SP_14) (fun _ h9 => h9) rfl d_SP_keepPieces_11 ?_
  refine va_get (D := (dC, dI)) (ci := 3) (v := .int (nI z)) (C := R_GP) (T := F_GP) (N := 2) hx hb hts in_GP hown hK.1 hP 1 rfl rfl 1 (by decide) (hts _ wfl_SP_73) (fun _ h9 => h9) rfl d_SP_keepPieces_14 ?_
  refine lv_iconst (v := (nI 2)) hx hb d_SP_keepPieces_17 (by decide) ?_
  refine x_cmp_lt (a := z) (b := 2) (tgt := 45) hx hb (by omega) (by omega) d_SP_keepPieces_18 (by decide) (fun c_1 => ?_) (fun c_1 => ?_)
  · skip
    exact W.vret hx hb hr (fun t9 ht9 _ => ⟨⟨(pc, Bo, Pi), rfl, (Or.inl ⟨c_1, rfl, rfl, rfl⟩), by show va_P (dC, dI) cls _ t9.heap; rw [ht9]; exact hP⟩, hS.F ht9⟩) hS.2.2 d_SP_keepPieces_45
  · skip
    refine lv_iload_n hx hb d_SP_keepPieces_21 rfl (lv_at hl 0 rfl) ?_
    refine lv_aload_n hx hb d_SP_keepPieces_22 rfl (lv_at hl 1 rfl) ?_
    refine va_get (D := (dC, dI)) (ci := 6) (v := .ref gg) (C := R_SP) (T := F_SP) (N := 7) hx hb hts in_SP hown hK.1 hP 0 rfl rfl 0 (by decide) (hts _ wfl_SP_14) (fun _ h9 => h9) rfl d_SP_keepPieces_23 ?_
    refine va_get (D := (dC, dI)) (ci := 3) (v := .int (nI z)) (C := R_GP) (T := F_GP) (N := 2) hx hb hts in_GP hown hK.1 hP 1 rfl rfl 1 (by decide) (hts _ wfl_SP_73) (fun _ h9 => h9) rfl d_SP_keepPieces_26 ?_
    refine lv_iadd hx hb d_SP_keepPieces_29 ?_
    refine xe_i (nI_add _ _) ?_
    refine lv_sipush (v := (nI 1274)) hx hb d_SP_keepPieces_30 (by decide) ?_
    refine x_cmp_gt (a := ((Bo pc) + z)) (b := 1274) (tgt := 45) hx hb (by omega) (by omega) d_SP_keepPieces_33 (by decide) (fun c_2 => ?_) (fun c_2 => ?_)
    · skip
      omega
    · skip
      refine lv_aload_n hx hb d_SP_keepPieces_36 rfl (lv_at hl 1 rfl) ?_
      refine va_get (D := (dC, dI)) (ci := 6) (v := .int (nI pc)) (C := R_SP) (T := F_SP) (N := 7) hx hb hts in_SP hown hK.1 hP 0 rfl rfl 3 (by decide) (hts _ wfl_SP_41) (fun _ h9 => h9) rfl d_SP_keepPieces_37 ?_
      refine lv_bipush (v := (nI 91)) hx hb d_SP_keepPieces_40 (by decide) ?_
      refine x_cmp_lt (a := pc) (b := 91) (tgt := 46) hx hb (by omega) (by omega) d_SP_keepPieces_42 (by decide) (fun c_3 => ?_) (fun c_3 => ?_)
      · skip
        refine lv_iconst (v := (nI 0)) hx hb d_SP_keepPieces_46 (by decide) ?_
        refine lv_istore_n (lv' := [(2, .int (nI 0)), (1, .int (nI (Bo pc))), (0, .ref sp)]) hx hb d_SP_keepPieces_47 rfl hl (by decide) rfl (fun ls hl => ?_)
        have L48_4 : ∀ (n : Nat) (Pi2 : Nat → Int64) (i : Nat) (hn : z - i < n) (hi : i ≤ z) (hk : kpI Se Pi Pi2 (Bo pc) i) (H : Heap) (locs : List Loc) (hP : va_P (dC, dI) cls [(sp, .inr (6, [.ref gg, .ref pi, .ref bo, .int (nI pc), .ref gd, .int gci, .long bl])), (gg, .inr (3, [.ref gs, .int (nI z)])), (gs, .inl (cJ, 41, .inr (.inl Se))), (pi, .inl (cJ, 1274, .inr (.inl Pi2))), (bo, .inl (cI, 92, .inl (nF Bo)))] H) (hD : va_D (ow [(sp, .inr (6, [.ref gg, .ref pi, .ref bo, .int (nI pc), .ref gd, .int gci, .long bl])), (gg, .inr (3, [.ref gs, .int (nI z)])), (gs, .inl (cJ, 41, .inr (.inl Se))), (pi, .inl (cJ, 1274, .inr (.inl Pi))), (bo, .inl (cI, 92, .inl (nF Bo)))]) [(sp, .inr (6, [.ref gg, .ref pi, .ref bo, .int (nI pc), .ref gd, .int gci, .long bl])), (gg, .inr (3, [.ref gs, .int (nI z)])), (gs, .inl (cJ, 41, .inr (.inl Se))), (pi, .inl (cJ, 1274, .inr (.inl Pi2))), (bo, .inl (cI, 92, .inl (nF Bo)))]) (hS : va_S (ow [(sp, .inr (6, [.ref gg, .ref pi, .ref bo, .int (nI pc), .ref gd, .int gci, .long bl])), (gg, .inr (3, [.ref gs, .int (nI z)])), (gs, .inl (cJ, 41, .inr (.inl Se))), (pi, .inl (cJ, 1274, .inr (.inl Pi))), (bo, .inl (cI, 92, .inl (nF Bo)))]) s.heap H locs) (ls : Array Slot) (hl : lv_has ls 3 [(0, .ref sp), (1, .int (nI (Bo pc))), (2, .int (nI i))]), W p l e (headSpec (Cond.code ⟨"CutPoints$Splitter", "keepPieces", "()V"⟩ prog_7_method_6_code 3 none :: TT) (rmk 0 0)).room s m ([.ref sp] : List Value).toArray below meth c H locs 0 0 (MQ below (va_Qv (S := Nat × (Nat → Nat) × (Nat → Int64)) (fun u9 => (z < 2 ∧ u9.1 = pc ∧ u9.2.1 = Bo ∧ u9.2.2 = Pi) ∨ (2 ≤ z ∧ u9.1 = pc + 1 ∧ u9.2.1 = va_up Bo (pc + 1) (Bo pc + z) ∧ kpI Se Pi u9.2.2 (Bo pc) z)) (fun u9 t9 => va_P (dC, dI) cls ([(sp, .inr (6, [.ref gg, .ref pi, .ref bo, .int (nI u9.1), .ref gd, .int gci, .long bl])), (gg, .inr (3, [.ref gs, .int (nI z)])), (gs, .inl (cJ, 41, .inr (.inl Se))), (pi, .inl (cJ, 1274, .inr (.inl u9.2.2))), (bo, .inl (cI, 92, .inl (nF u9.2.1)))]) t9.heap) (ow [(sp, .inr (6, [.ref gg, .ref pi, .ref bo, .int (nI pc), .ref gd, .int gci, .long bl])), (gg, .inr (3, [.ref gs, .int (nI z)])), (gs, .inl (cJ, 41, .inr (.inl Se))), (pi, .inl (cJ, 1274, .inr (.inl Pi))), (bo, .inl (cI, 92, .inl (nF Bo)))])) ([.ref sp] : List Value).toArray s 0 0 (ow [(sp, .inr (6, [.ref gg, .ref pi, .ref bo, .int (nI pc), .ref gd, .int gci, .long bl])), (gg, .inr (3, [.ref gs, .int (nI z)])), (gs, .inl (cJ, 41, .inr (.inl Se))), (pi, .inl (cJ, 1274, .inr (.inl Pi))), (bo, .inl (cI, 92, .inl (nF Bo)))])) (F0 m 48 ls []) := by
          intro n_48
          induction n_48 with
          | zero =>
            intro Pi2 i hn_48
            exact absurd hn_48 (Nat.not_lt_zero _)
          | succ n_48 ih_48 =>
            intro Pi2 i hn_48 hi hk H locs hP hD hS ls hl
            refine lv_iload_n hx hb d_SP_keepPieces_48 rfl (lv_at hl 2 rfl) ?_
            refine lv_aload_n hx hb d_SP_keepPieces_49 rfl (lv_at hl 0 rfl) ?_
            refine va_get (D := (dC, dI)) (ci := 6) (v := .ref gg) (C := R_SP) (T := F_SP) (N := 7) hx hb hts in_SP hown hK.1 hP 0 rfl rfl 0 (by decide) (hts _ wfl_SP_14) (fun _ h9 => h9) rfl d_SP_keepPieces_50 ?_
            refine va_get (D := (dC, dI)) (ci := 3) (v := .int (nI z)) (C := R_GP) (T := F_GP) (N := 2) hx hb hts in_GP hown hK.1 hP 1 rfl rfl 1 (by decide) (hts _ wfl_SP_73) (fun _ h9 => h9) rfl d_SP_keepPieces_53 ?_
            refine x_cmp_ge (a := i) (b := z) (tgt := 82) hx hb (by omega) (by omega) d_SP_keepPieces_56 (by decide) (fun c_5 => ?_) (fun c_5 => ?_)
            · skip
              refine lv_aload_n hx hb d_SP_keepPieces_82 rfl (lv_at hl 0 rfl) ?_
              refine lv_dup hx hb d_SP_keepPieces_83 rfl ?_
              refine va_get (D := (dC, dI)) (ci := 6) (v := .int (nI pc)) (C := R_SP) (T := F_SP) (N := 7) hx hb hts in_SP hown hK.1 hP 0 rfl rfl 3 (by decide) (hts _ wfl_SP_41) (fun _ h9 => h9) rfl d_SP_keepPieces_84 ?_
              refine lv_iconst (v := (nI 1)) hx hb d_SP_keepPieces_87 (by decide) ?_
              refine lv_iadd hx hb d_SP_keepPieces_88 ?_
              refine xe_i (nI_add _ _) ?_
              refine va_put (D := (dC, dI)) (ci := 6) (v := .int (nI (pc + 1))) (ty := .int) (C := R_SP) (T := F_SP) (N := 7) hx hb hts in_SP t_SP t_SP_ok n_SP hown hK.1 hP hD hS 0 rfl rfl 3 (by decide) (hts _ wfl_SP_41) (fun _ h9 => h9) rfl (by decide +kernel) rfl rfl (Nat.le_of_ble_eq_true rfl) d_SP_keepPieces_89 (fun H locs hP hD hS => ?_)
              have hP : va_P (dC, dI) cls [(sp, .inr (6, [.ref gg, .ref pi, .ref bo, .int (nI (pc + 1)), .ref gd, .int gci, .long bl])), (gg, .inr (3, [.ref gs, .int (nI z)])), (gs, .inl (cJ, 41, .inr (.inl Se))), (pi, .inl (cJ, 1274, .inr (.inl Pi2))), (bo, .inl (cI, 92, .inl (nF Bo)))] H := hP
              have hD : va_D (ow [(sp, .inr (6, [.ref gg, .ref pi, .ref bo, .int (nI pc), .ref gd, .int gci, .long bl])), (gg, .inr (3, [.ref gs, .int (nI z)])), (gs, .inl (cJ, 41, .inr (.inl Se))), (pi, .inl (cJ, 1274, .inr (.inl Pi))), (bo, .inl (cI, 92, .inl (nF Bo)))]) [(sp, .inr (6, [.ref gg, .ref pi, .ref bo, .int (nI (pc + 1)), .ref gd, .int gci, .long bl])), (gg, .inr (3, [.ref gs, .int (nI z)])), (gs, .inl (cJ, 41, .inr (.inl Se))), (pi, .inl (cJ, 1274, .inr (.inl Pi2))), (bo, .inl (cI, 92, .inl (nF Bo)))] := hD
              refine lv_aload_n hx hb d_SP_keepPieces_92 rfl (lv_at hl 0 rfl) ?_
              refine va_get (D := (dC, dI)) (ci := 6) (v := .ref bo) (C := R_SP) (T := F_SP) (N := 7) hx hb hts in_SP hown hK.1 hP 0 rfl rfl 2 (by decide) (hts _ wfl_SP_22) (fun _ h9 => h9) rfl d_SP_keepPieces_93 ?_
              refine lv_aload_n hx hb d_SP_keepPieces_96 rfl (lv_at hl 0 rfl) ?_
              refine va_get (D := (dC, dI)) (ci := 6) (v := .int (nI (pc + 1))) (C := R_SP) (T := F_SP) (N := 7) hx hb hts in_SP hown hK.1 hP 0 rfl rfl 3 (by decide) (hts _ wfl_SP_41) (fun _ h9 => h9) rfl d_SP_keepPieces_97 ?_
              refine lv_iload_n hx hb d_SP_keepPieces_100 rfl (lv_at hl 1 rfl) ?_
              refine lv_aload_n hx hb d_SP_keepPieces_101 rfl (lv_at hl 0 rfl) ?_
              refine va_get (D := (dC, dI)) (ci := 6) (v := .ref gg) (C := R_SP) (T := F_SP) (N := 7) hx hb hts in_SP hown hK.1 hP 0 rfl rfl 0 (by decide) (hts _ wfl_SP_14) (fun _ h9 => h9) rfl d_SP_keepPieces_102 ?_
              refine va_get (D := (dC, dI)) (ci := 3) (v := .int (nI z)) (C := R_GP) (T := F_GP) (N := 2) hx hb hts in_GP hown hK.1 hP 1 rfl rfl 1 (by decide) (hts _ wfl_SP_73) (fun _ h9 => h9) rfl d_SP_keepPieces_105 ?_
              refine lv_iadd hx hb d_SP_keepPieces_108 ?_
              refine xe_i (nI_add _ _) ?_
              refine x_iast (g := (nF (va_up Bo (pc + 1) ((Bo pc) + z)))) hx hb hK.1 hP hD hS 4 0 rfl rfl (nF_up _ _ _) (by omega) (by omega) d_SP_keepPieces_109 (fun H locs hP hD hS => ?_)
              have hP : va_P (dC, dI) cls [(sp, .inr (6, [.ref gg, .ref pi, .ref bo, .int (nI (pc + 1)), .ref gd, .int gci, .long bl])), (gg, .inr (3, [.ref gs, .int (nI z)])), (gs, .inl (cJ, 41, .inr (.inl Se))), (pi, .inl (cJ, 1274, .inr (.inl Pi2))), (bo, .inl (cI, 92, .inl (nF (va_up Bo (pc + 1) ((Bo pc) + z)))))] H := hP
              have hD : va_D (ow [(sp, .inr (6, [.ref gg, .ref pi, .ref bo, .int (nI pc), .ref gd, .int gci, .long bl])), (gg, .inr (3, [.ref gs, .int (nI z)])), (gs, .inl (cJ, 41, .inr (.inl Se))), (pi, .inl (cJ, 1274, .inr (.inl Pi))), (bo, .inl (cI, 92, .inl (nF Bo)))]) [(sp, .inr (6, [.ref gg, .ref pi, .ref bo, .int (nI (pc + 1)), .ref gd, .int gci, .long bl])), (gg, .inr (3, [.ref gs, .int (nI z)])), (gs, .inl (cJ, 41, .inr (.inl Se))), (pi, .inl (cJ, 1274, .inr (.inl Pi2))), (bo, .inl (cI, 92, .inl (nF (va_up Bo (pc + 1) ((Bo pc) + z)))))] := hD
              exact W.vret hx hb hr (fun t9 ht9 _ => ⟨⟨((pc + 1), (va_up Bo (pc + 1) ((Bo pc) + z)), Pi2), rfl, (Or.inr ⟨by omega, rfl, rfl, by have e9 : i = z := (by omega); subst e9; exact hk⟩), by show va_P (dC, dI) cls _ t9.heap; rw [ht9]; exact hP⟩, hS.F ht9⟩) hS.2.2 d_SP_keepPieces_110
            · skip
              refine lv_aload_n hx hb d_SP_keepPieces_59 rfl (lv_at hl 0 rfl) ?_
              refine va_get (D := (dC, dI)) (ci := 6) (v := .ref pi) (C := R_SP) (T := F_SP) (N := 7) hx hb hts in_SP hown hK.1 hP 0 rfl rfl 1 (by decide) (hts _ wfl_SP_18) (fun _ h9 => h9) rfl d_SP_keepPieces_60 ?_
              refine lv_iload_n hx hb d_SP_keepPieces_63 rfl (lv_at hl 1 rfl) ?_
              refine lv_iload_n hx hb d_SP_keepPieces_64 rfl (lv_at hl 2 rfl) ?_
              refine lv_iadd hx hb d_SP_keepPieces_65 ?_
              refine xe_i (nI_add _ _) ?_
              refine lv_aload_n hx hb d_SP_keepPieces_66 rfl (lv_at hl 0 rfl) ?_
              refine va_get (D := (dC, dI)) (ci := 6) (v := .ref gg) (C := R_SP) (T := F_SP) (N := 7) hx hb hts in_SP hown hK.1 hP 0 rfl rfl 0 (by decide) (hts _ wfl_SP_14) (fun _ h9 => h9) rfl d_SP_keepPieces_67 ?_
              refine va_get (D := (dC, dI)) (ci := 3) (v := .ref gs) (C := R_GP) (T := F_GP) (N := 2) hx hb hts in_GP hown hK.1 hP 1 rfl rfl 0 (by decide) (hts _ wfl_SP_76) (fun _ h9 => h9) rfl d_SP_keepPieces_70 ?_
              refine lv_iload_n hx hb d_SP_keepPieces_73 rfl (lv_at hl 2 rfl) ?_
              refine x_lald (n := 41) (f := Se) (j := i) hx hb hK.1 hP 2 1 rfl rfl (by omega) (by omega) d_SP_keepPieces_74 ?_
              refine x_last (g := (va_up Pi2 ((Bo pc) + i) (Se i))) hx hb hK.1 hP hD hS 3 1 rfl rfl rfl (by omega) (by omega) d_SP_keepPieces_75 (fun H locs hP hD hS => ?_)
              have hP : va_P (dC, dI) cls [(sp, .inr (6, [.ref gg, .ref pi, .ref bo, .int (nI pc), .ref gd, .int gci, .long bl])), (gg, .inr (3, [.ref gs, .int (nI z)])), (gs, .inl (cJ, 41, .inr (.inl Se))), (pi, .inl (cJ, 1274, .inr (.inl (va_up Pi2 ((Bo pc) + i) (Se i))))), (bo, .inl (cI, 92, .inl (nF Bo)))] H := hP
              have hD : va_D (ow [(sp, .inr (6, [.ref gg, .ref pi, .ref bo, .int (nI pc), .ref gd, .int gci, .long bl])), (gg, .inr (3, [.ref gs, .int (nI z)])), (gs, .inl (cJ, 41, .inr (.inl Se))), (pi, .inl (cJ, 1274, .inr (.inl Pi))), (bo, .inl (cI, 92, .inl (nF Bo)))]) [(sp, .inr (6, [.ref gg, .ref pi, .ref bo, .int (nI pc), .ref gd, .int gci, .long bl])), (gg, .inr (3, [.ref gs, .int (nI z)])), (gs, .inl (cJ, 41, .inr (.inl Se))), (pi, .inl (cJ, 1274, .inr (.inl (va_up Pi2 ((Bo pc) + i) (Se i))))), (bo, .inl (cI, 92, .inl (nF Bo)))] := hD
              refine lv_iinc (v := (nI (i + 1))) (lv' := [(2, .int (nI (i + 1))), (0, .ref sp), (1, .int (nI (Bo pc)))]) hx hb d_SP_keepPieces_76 hl (k := 2) rfl (nI_1 _) (by decide) rfl (fun ls hl => ?_)
              refine lv_goto (tgt := 48) hx hb d_SP_keepPieces_79 (by decide) ?_
              exact ih_48 (va_up Pi2 ((Bo pc) + i) (Se i)) (i + 1) (by omega) (by first | assumption | omega) (kpI_n hk) _ _ hP hD hS ls (lv_sub hl [1, 2, 0] rfl)
        exact L48_4 ((z - 0) + 1) Pi 0 (Nat.lt_succ_self _) (by first | assumption | omega) (kpI_0 Se Pi (Bo pc)) _ _ hP hD hS ls (lv_sub hl [2, 1, 0] rfl)
      · skip
        omega

theorem d_SP_joinedWith_0 : decode prog_7_method_3_code 0 = .ok (.aload_n 0, 1) := by decide +kernel
theorem d_SP_joinedWith_1 : decode prog_7_method_3_code 1 = .ok (.getfield 29, 3) := by decide +kernel
theorem d_SP_joinedWith_4 : decode prog_7_method_3_code 4 = .ok (.lstore_n 2, 1) := by decide +kernel
theorem d_SP_joinedWith_5 : decode prog_7_method_3_code 5 = .ok (.iconst 0, 1) := by decide +kernel
theorem d_SP_joinedWith_6 : decode prog_7_method_3_code 6 = .ok (.istore 4, 2) := by decide +kernel
theorem d_SP_joinedWith_8 : decode prog_7_method_3_code 8 = .ok (.iload 4, 2) := by decide +kernel
theorem d_SP_joinedWith_10 : decode prog_7_method_3_code 10 = .ok (.aload_n 0, 1) := by decide +kernel
theorem d_SP_joinedWith_11 : decode prog_7_method_3_code 11 = .ok (.getfield 37, 3) := by decide +kernel
theorem d_SP_joinedWith_14 : decode prog_7_method_3_code 14 = .ok (.if_icmp .ge 47, 3) := by decide +kernel
theorem d_SP_joinedWith_17 : decode prog_7_method_3_code 17 = .ok (.lload_n 2, 1) := by decide +kernel
theorem d_SP_joinedWith_18 : decode prog_7_method_3_code 18 = .ok (.aload_n 0, 1) := by decide +kernel
theorem d_SP_joinedWith_19 : decode prog_7_method_3_code 19 = .ok (.getfield 26, 3) := by decide +kernel
theorem d_SP_joinedWith_22 : decode prog_7_method_3_code 22 = .ok (.iload 4, 2) := by decide +kernel
theorem d_SP_joinedWith_24 : decode prog_7_method_3_code 24 = .ok (.laload, 1) := by decide +kernel
theorem d_SP_joinedWith_25 : decode prog_7_method_3_code 25 = .ok (.iload_n 1, 1) := by decide +kernel
theorem d_SP_joinedWith_26 : decode prog_7_method_3_code 26 = .ok (.invokestatic 48, 3) := by decide +kernel
theorem d_SP_joinedWith_29 : decode prog_7_method_3_code 29 = .ok (.ifCond .eq 13, 3) := by decide +kernel
theorem d_SP_joinedWith_32 : decode prog_7_method_3_code 32 = .ok (.aload_n 0, 1) := by decide +kernel
theorem d_SP_joinedWith_33 : decode prog_7_method_3_code 33 = .ok (.getfield 26, 3) := by decide +kernel
theorem d_SP_joinedWith_36 : decode prog_7_method_3_code 36 = .ok (.iload 4, 2) := by decide +kernel
theorem d_SP_joinedWith_38 : decode prog_7_method_3_code 38 = .ok (.laload, 1) := by decide +kernel
theorem d_SP_joinedWith_39 : decode prog_7_method_3_code 39 = .ok (.goto 14, 3) := by decide +kernel
theorem d_SP_joinedWith_42 : decode prog_7_method_3_code 42 = .ok (.aload_n 0, 1) := by decide +kernel
theorem d_SP_joinedWith_43 : decode prog_7_method_3_code 43 = .ok (.getfield 26, 3) := by decide +kernel
theorem d_SP_joinedWith_46 : decode prog_7_method_3_code 46 = .ok (.iload 4, 2) := by decide +kernel
theorem d_SP_joinedWith_48 : decode prog_7_method_3_code 48 = .ok (.laload, 1) := by decide +kernel
theorem d_SP_joinedWith_49 : decode prog_7_method_3_code 49 = .ok (.ldc2_w 52, 3) := by decide +kernel
theorem d_SP_joinedWith_52 : decode prog_7_method_3_code 52 = .ok (.lxor, 1) := by decide +kernel
theorem d_SP_joinedWith_53 : decode prog_7_method_3_code 53 = .ok (.land, 1) := by decide +kernel
theorem d_SP_joinedWith_54 : decode prog_7_method_3_code 54 = .ok (.lstore_n 2, 1) := by decide +kernel
theorem d_SP_joinedWith_55 : decode prog_7_method_3_code 55 = .ok (.iinc 4 1, 3) := by decide +kernel
theorem d_SP_joinedWith_58 : decode prog_7_method_3_code 58 = .ok (.goto (-50), 3) := by decide +kernel
theorem d_SP_joinedWith_61 : decode prog_7_method_3_code 61 = .ok (.lload_n 2, 1) := by decide +kernel
theorem d_SP_joinedWith_62 : decode prog_7_method_3_code 62 = .ok (.lreturn, 1) := by decide +kernel
def jwI (Gd : Nat → Int64) (bl : Int64) (x : Nat) (jo : Int64) (i : Nat) : Prop := ∀ e, e < 64 → (lb jo e = true ↔ (lb bl e = true ∧ ∀ k, k < i → lb (Gd k) e = lb (Gd k) x))
theorem jw_0 (Gd : Nat → Int64) (bl : Int64) (x : Nat) : jwI Gd bl x bl 0 := fun e _ => ⟨fun h => ⟨h, fun _ h => absurd h (Nat.not_lt_zero _)⟩, fun h => h.1⟩
theorem jw_t {Gd : Nat → Int64} {bl : Int64} {x : Nat} {jo : Int64} {i : Nat} (h : jwI Gd bl x jo i) (c : lb (Gd i) x = true) : jwI Gd bl x (jo &&& Gd i) (i + 1) := by
  intro e he
  rw [l_and', h e he]
  constructor
  · rintro ⟨⟨h1, h2⟩, h3⟩; exact ⟨h1, lt_s h2 (by rw [h3, c])⟩
  · rintro ⟨h1, h2⟩; exact ⟨⟨h1, fun k hk => h2 k (by omega)⟩, by rw [h2 i (by omega), c]⟩
theorem jw_f {Gd : Nat → Int64} {bl : Int64} {x : Nat} {jo : Int64} {i : Nat} (h : jwI Gd bl x jo i) (c : lb (Gd i) x = false) : jwI Gd bl x (jo &&& (Gd i ^^^ (-1 : Int64))) (i + 1) := by
  intro e he
  rw [l_and', h e he, l_not' he]
  constructor
  · rintro ⟨⟨h1, h2⟩, h3⟩; exact ⟨h1, lt_s h2 (by rw [h3, c])⟩
  · rintro ⟨h1, h2⟩; exact ⟨⟨h1, fun k hk => h2 k (by omega)⟩, by rw [h2 i (by omega), c]⟩
set_option maxHeartbeats 4000000 in
set_option maxRecDepth 100000 in
theorem c_SP_joinedWith (l : Launch) (dC : Nat → ClassId) (dI : Nat → Nat → Nat) (cI cJ cZ : ClassId) (sp gg pi bo gd : Nat) (pci : Int32) (gc : Nat) (bl : Int64) (Gd : Nat → Int64) (x : Nat) (hx64 : x < 64) (hgc : gc ≤ 14) : Met l ⟨"CutPoints$Splitter", "joinedWith", "(I)J"⟩ (Cond.code ⟨"CutPoints$Splitter", "joinedWith", "(I)J"⟩ prog_7_method_3_code 5 (some .long) :: TT) (rmk 1 22) (PR dC dI cI cJ cZ [.ref sp, .int (nI x)] [(sp, .inr (6, [.ref gg, .ref pi, .ref bo, .int pci, .ref gd, .int (nI gc), .long bl])), (gd, .inl (cJ, 14, .inr (.inl Gd)))]) (vp_Sl (fun y => jwI Gd bl x y gc)) 0 0 (fun _ => False) := by
  refine Met.ofW (cc := prog_7_method_3_code) (maxL := 5) (ret := (some .long)) (by decide) rfl ?_
  intro p e s m args below meth c s₁ BB9 hml hv
  obtain ⟨rfl, hP, hK⟩ := hv
  have hx := BB9.exec
  have hb := BB9.bytes
  have hr := BB9.returns
  have hts : ∀ w ∈ TT, w.before _ s = true := fun w h => atoms_spec (ws := (Cond.code ⟨"CutPoints$Splitter", "joinedWith", "(I)J"⟩ prog_7_method_3_code 5 (some .long) :: TT)) BB9.pre w (List.mem_cons_of_mem _ h)
  have hown : s.vm.findClass "CutPoints$Splitter" = some m.cls := findClass_of_methodNamed BB9.named
  have hlocks := BB9.notSynchronized
  have hl := lv_entry ([.ref sp, .int (nI x)]) (n := 5) (Nat.le_of_ble_eq_true rfl)
  rw [lg_entry_eq]
  generalize (lg_sl ([.ref sp, .int (nI x)]) ++ List.replicate (5 - (lg_sl ([.ref sp, .int (nI x)])).length) Slot.unset).toArray = ls at hl ⊢
  have hl : lv_has ls 5 [(0, .ref sp), (1, .int (nI x))] := hl
  refine lv_aload_n hx hb d_SP_joinedWith_0 rfl (lv_at hl 0 rfl) ?_
  refine va_get (D := (dC, dI)) (ci := 6) (v := .long bl) (C := R_SP) (T := F_SP) (N := 7) hx hb hts in_SP hown hK.1 hP 0 rfl rfl 6 (by decide) (hts _ wfl_SP_29) (fun _ h9 => h9) rfl d_SP_joinedWith_1 ?_
  refine lv_lstore_n (lv' := [(2, .long bl), (0, .ref sp), (1, .int (nI x))]) hx hb d_SP_joinedWith_4 rfl hl (by decide) rfl (fun ls hl => ?_)
  refine lv_iconst (v := (nI 0)) hx hb d_SP_joinedWith_5 (by decide) ?_
  refine lv_istore (lv' := [(4, .int (nI 0)), (2, .long bl), (0, .ref sp), (1, .int (nI x))]) hx hb d_SP_joinedWith_6 hl (by decide) rfl (fun ls hl => ?_)
  have L8_1 : ∀ (n : Nat) (jo : Int64) (i : Nat) (hn : gc - i < n) (hi : i ≤ gc) (hj : jwI Gd bl x jo i) (ls : Array Slot) (hl : lv_has ls 5 [(0, .ref sp), (1, .int (nI x)), (2, .long jo), (4, .int (nI i))]), W p l e (headSpec (Cond.code ⟨"CutPoints$Splitter", "joinedWith", "(I)J"⟩ prog_7_method_3_code 5 (some .long) :: TT) (rmk 1 22)).room s m ([.ref sp, .int (nI x)] : List Value).toArray below meth c s.heap [] 0 0 (MQ below (vp_Sl (fun y => jwI Gd bl x y gc)) ([.ref sp, .int (nI x)] : List Value).toArray s 0 0 (fun _ => False)) (F0 m 8 ls []) := by
    intro n_8
    induction n_8 with
    | zero =>
      intro jo i hn_8
      exact absurd hn_8 (Nat.not_lt_zero _)
    | succ n_8 ih_8 =>
      intro jo i hn_8 hi hj ls hl
      refine lv_iload hx hb d_SP_joinedWith_8 (lv_at hl 3 rfl) ?_
      refine lv_aload_n hx hb d_SP_joinedWith_10 rfl (lv_at hl 0 rfl) ?_
      refine va_get (D := (dC, dI)) (ci := 6) (v := .int (nI gc)) (C := R_SP) (T := F_SP) (N := 7) hx hb hts in_SP hown hK.1 hP 0 rfl rfl 5 (by decide) (hts _ wfl_SP_37) (fun _ h9 => h9) rfl d_SP_joinedWith_11 ?_
      refine x_cmp_ge (a := i) (b := gc) (tgt := 61) hx hb (by omega) (by omega) d_SP_joinedWith_14 (by decide) (fun c_2 => ?_) (fun c_2 => ?_)
      · skip
        refine lv_lload_n hx hb d_SP_joinedWith_61 rfl (lv_at hl 2 rfl) ?_
        exact W.lret (v := jo) hx hb hr (fun t9 ht9 _ => ⟨_, rfl, (by have e9 : i = gc := (by omega); subst e9; exact hj), ht9⟩) t_nil d_SP_joinedWith_62
      · skip
        refine lv_lload_n hx hb d_SP_joinedWith_17 rfl (lv_at hl 2 rfl) ?_
        refine lv_aload_n hx hb d_SP_joinedWith_18 rfl (lv_at hl 0 rfl) ?_
        refine va_get (D := (dC, dI)) (ci := 6) (v := .ref gd) (C := R_SP) (T := F_SP) (N := 7) hx hb hts in_SP hown hK.1 hP 0 rfl rfl 4 (by decide) (hts _ wfl_SP_26) (fun _ h9 => h9) rfl d_SP_joinedWith_19 ?_
        refine lv_iload hx hb d_SP_joinedWith_22 (lv_at hl 3 rfl) ?_
        refine x_lald (n := 14) (f := Gd) (j := i) hx hb hK.1 hP 1 1 rfl rfl (by omega) (by omega) d_SP_joinedWith_24 ?_
        refine lv_iload_n hx hb d_SP_joinedWith_25 rfl (lv_at hl 1 rfl) ?_
        refine vp_callSi (va_Run.run (k_SN (n := 2) (rest := [.long jo]) ⟨hx, hb, hml, hown, hts⟩ (c_CP_hasBit l dC dI cI cJ cZ (Gd i) x (by first | assumption | omega)) hK wmn_SP_48 wst_CP_hasBit wini_CP wcode_CP_hasBit (by decide +kernel) ⟨Nat.le_of_ble_eq_true rfl, Nat.le_of_ble_eq_true rfl⟩ (pre_R (hP.sub (ws' := []) [] rfl) hK) rfl hl.1 rfl (Nat.le_of_ble_eq_true rfl) d_SP_joinedWith_26 ⟨Nat.zero_le _, Nat.zero_le _⟩)) (fun r_3 hr_4 => ?_)
        refine xe_i (y := (bI (lb (Gd i) x))) hr_4 ?_
        refine x_if_eq (tgt := 42) hx hb d_SP_joinedWith_29 (by decide) (fun c_5 => ?_) (fun c_5 => ?_)
        · skip
          refine lv_aload_n hx hb d_SP_joinedWith_42 rfl (lv_at hl 0 rfl) ?_
          refine va_get (D := (dC, dI)) (ci := 6) (v := .ref gd) (C := R_SP) (T := F_SP) (N := 7) hx hb hts in_SP hown hK.1 hP 0 rfl rfl 4 (by decide) (hts _ wfl_SP_26) (fun _ h9 => h9) rfl d_SP_joinedWith_43 ?_
          refine lv_iload hx hb d_SP_joinedWith_46 (lv_at hl 3 rfl) ?_
          refine x_lald (n := 14) (f := Gd) (j := i) hx hb hK.1 hP 1 1 rfl rfl (by omega) (by omega) d_SP_joinedWith_48 ?_
          refine lv_ldc2 (v := -1) hx hb hown (hts _ wkl_SP_52) d_SP_joinedWith_49 ?_
          refine lv_lxor hx hb d_SP_joinedWith_52 ?_
          refine lv_land hx hb d_SP_joinedWith_53 ?_
          refine lv_lstore_n (lv' := [(2, .long (jo &&& ((Gd i) ^^^ (-1 : Int64)))), (0, .ref sp), (1, .int (nI x)), (4, .int (nI i))]) hx hb d_SP_joinedWith_54 rfl hl (by decide) rfl (fun ls hl => ?_)
          refine lv_iinc (v := (nI (i + 1))) (lv' := [(4, .int (nI (i + 1))), (2, .long (jo &&& ((Gd i) ^^^ (-1 : Int64)))), (0, .ref sp), (1, .int (nI x))]) hx hb d_SP_joinedWith_55 hl (k := 3) rfl (nI_1 _) (by decide) rfl (fun ls hl => ?_)
          refine lv_goto (tgt := 8) hx hb d_SP_joinedWith_58 (by decide) ?_
          exact ih_8 (jo &&& ((Gd i) ^^^ (-1 : Int64))) (i + 1) (by omega) (by first | assumption | omega) (jw_f hj c_5) ls (lv_sub hl [2, 3, 1, 0] rfl)
        · skip
          refine lv_aload_n hx hb d_SP_joinedWith_32 rfl (lv_at hl 0 rfl) ?_
          refine va_get (D := (dC, dI)) (ci := 6) (v := .ref gd) (C := R_SP) (T := F_SP) (N := 7) hx hb hts in_SP hown hK.1 hP 0 rfl rfl 4 (by decide) (hts _ wfl_SP_26) (fun _ h9 => h9) rfl d_SP_joinedWith_33 ?_
          refine lv_iload hx hb d_SP_joinedWith_36 (lv_at hl 3 rfl) ?_
          refine x_lald (n := 14) (f := Gd) (j := i) hx hb hK.1 hP 1 1 rfl rfl (by omega) (by omega) d_SP_joinedWith_38 ?_
          refine lv_goto (tgt := 53) hx hb d_SP_joinedWith_39 (by decide) ?_
          refine lv_land hx hb d_SP_joinedWith_53 ?_
          refine lv_lstore_n (lv' := [(2, .long (jo &&& (Gd i))), (0, .ref sp), (1, .int (nI x)), (4, .int (nI i))]) hx hb d_SP_joinedWith_54 rfl hl (by decide) rfl (fun ls hl => ?_)
          refine lv_iinc (v := (nI (i + 1))) (lv' := [(4, .int (nI (i + 1))), (2, .long (jo &&& (Gd i))), (0, .ref sp), (1, .int (nI x))]) hx hb d_SP_joinedWith_55 hl (k := 3) rfl (nI_1 _) (by decide) rfl (fun ls hl => ?_)
          refine lv_goto (tgt := 8) hx hb d_SP_joinedWith_58 (by decide) ?_
          exact ih_8 (jo &&& (Gd i)) (i + 1) (by omega) (by first | assumption | omega) (jw_t hj c_5) ls (lv_sub hl [2, 3, 1, 0] rfl)
  exact L8_1 ((gc - 0) + 1) bl 0 (Nat.lt_succ_self _) (by first | assumption | omega) (jw_0 Gd bl x) ls (lv_sub hl [2, 3, 1, 0] rfl)

theorem d_SP_isCrossedAt_0 : decode prog_7_method_9_code 0 = .ok (.iconst 0, 1) := by decide +kernel
theorem d_SP_isCrossedAt_1 : decode prog_7_method_9_code 1 = .ok (.istore 5, 2) := by decide +kernel
theorem d_SP_isCrossedAt_3 : decode prog_7_method_9_code 3 = .ok (.iconst 0, 1) := by decide +kernel
theorem d_SP_isCrossedAt_4 : decode prog_7_method_9_code 4 = .ok (.istore 6, 2) := by decide +kernel
theorem d_SP_isCrossedAt_6 : decode prog_7_method_9_code 6 = .ok (.iconst 0, 1) := by decide +kernel
theorem d_SP_isCrossedAt_7 : decode prog_7_method_9_code 7 = .ok (.istore 7, 2) := by decide +kernel
theorem d_SP_isCrossedAt_9 : decode prog_7_method_9_code 9 = .ok (.iload_n 3, 1) := by decide +kernel
theorem d_SP_isCrossedAt_10 : decode prog_7_method_9_code 10 = .ok (.istore 8, 2) := by decide +kernel
theorem d_SP_isCrossedAt_12 : decode prog_7_method_9_code 12 = .ok (.iload 8, 2) := by decide +kernel
theorem d_SP_isCrossedAt_14 : decode prog_7_method_9_code 14 = .ok (.iload 4, 2) := by decide +kernel
theorem d_SP_isCrossedAt_16 : decode prog_7_method_9_code 16 = .ok (.if_icmp .ge 56, 3) := by decide +kernel
theorem d_SP_isCrossedAt_19 : decode prog_7_method_9_code 19 = .ok (.aload_n 0, 1) := by decide +kernel
theorem d_SP_isCrossedAt_20 : decode prog_7_method_9_code 20 = .ok (.getfield 18, 3) := by decide +kernel
theorem d_SP_isCrossedAt_23 : decode prog_7_method_9_code 23 = .ok (.iload 8, 2) := by decide +kernel
theorem d_SP_isCrossedAt_25 : decode prog_7_method_9_code 25 = .ok (.laload, 1) := by decide +kernel
theorem d_SP_isCrossedAt_26 : decode prog_7_method_9_code 26 = .ok (.lload_n 1, 1) := by decide +kernel
theorem d_SP_isCrossedAt_27 : decode prog_7_method_9_code 27 = .ok (.ldc2_w 52, 3) := by decide +kernel
theorem d_SP_isCrossedAt_30 : decode prog_7_method_9_code 30 = .ok (.lxor, 1) := by decide +kernel
theorem d_SP_isCrossedAt_31 : decode prog_7_method_9_code 31 = .ok (.land, 1) := by decide +kernel
theorem d_SP_isCrossedAt_32 : decode prog_7_method_9_code 32 = .ok (.lconst 0, 1) := by decide +kernel
theorem d_SP_isCrossedAt_33 : decode prog_7_method_9_code 33 = .ok (.lcmp, 1) := by decide +kernel
theorem d_SP_isCrossedAt_34 : decode prog_7_method_9_code 34 = .ok (.ifCond .ne 9, 3) := by decide +kernel
theorem d_SP_isCrossedAt_37 : decode prog_7_method_9_code 37 = .ok (.iinc 5 1, 3) := by decide +kernel
theorem d_SP_isCrossedAt_40 : decode prog_7_method_9_code 40 = .ok (.goto 26, 3) := by decide +kernel
theorem d_SP_isCrossedAt_43 : decode prog_7_method_9_code 43 = .ok (.aload_n 0, 1) := by decide +kernel
theorem d_SP_isCrossedAt_44 : decode prog_7_method_9_code 44 = .ok (.getfield 18, 3) := by decide +kernel
theorem d_SP_isCrossedAt_47 : decode prog_7_method_9_code 47 = .ok (.iload 8, 2) := by decide +kernel
theorem d_SP_isCrossedAt_49 : decode prog_7_method_9_code 49 = .ok (.laload, 1) := by decide +kernel
theorem d_SP_isCrossedAt_50 : decode prog_7_method_9_code 50 = .ok (.lload_n 1, 1) := by decide +kernel
theorem d_SP_isCrossedAt_51 : decode prog_7_method_9_code 51 = .ok (.land, 1) := by decide +kernel
theorem d_SP_isCrossedAt_52 : decode prog_7_method_9_code 52 = .ok (.lconst 0, 1) := by decide +kernel
theorem d_SP_isCrossedAt_53 : decode prog_7_method_9_code 53 = .ok (.lcmp, 1) := by decide +kernel
theorem d_SP_isCrossedAt_54 : decode prog_7_method_9_code 54 = .ok (.ifCond .ne 9, 3) := by decide +kernel
theorem d_SP_isCrossedAt_57 : decode prog_7_method_9_code 57 = .ok (.iinc 6 1, 3) := by decide +kernel
theorem d_SP_isCrossedAt_60 : decode prog_7_method_9_code 60 = .ok (.goto 6, 3) := by decide +kernel
theorem d_SP_isCrossedAt_63 : decode prog_7_method_9_code 63 = .ok (.iinc 7 1, 3) := by decide +kernel
theorem d_SP_isCrossedAt_66 : decode prog_7_method_9_code 66 = .ok (.iinc 8 1, 3) := by decide +kernel
theorem d_SP_isCrossedAt_69 : decode prog_7_method_9_code 69 = .ok (.goto (-57), 3) := by decide +kernel
theorem d_SP_isCrossedAt_72 : decode prog_7_method_9_code 72 = .ok (.iload 7, 2) := by decide +kernel
theorem d_SP_isCrossedAt_74 : decode prog_7_method_9_code 74 = .ok (.iload 5, 2) := by decide +kernel
theorem d_SP_isCrossedAt_76 : decode prog_7_method_9_code 76 = .ok (.iload 6, 2) := by decide +kernel
theorem d_SP_isCrossedAt_78 : decode prog_7_method_9_code 78 = .ok (.invokestatic 93, 3) := by decide +kernel
theorem d_SP_isCrossedAt_81 : decode prog_7_method_9_code 81 = .ok (.iadd, 1) := by decide +kernel
theorem d_SP_isCrossedAt_82 : decode prog_7_method_9_code 82 = .ok (.iconst 2, 1) := by decide +kernel
theorem d_SP_isCrossedAt_83 : decode prog_7_method_9_code 83 = .ok (.if_icmp .lt 7, 3) := by decide +kernel
theorem d_SP_isCrossedAt_86 : decode prog_7_method_9_code 86 = .ok (.iconst 1, 1) := by decide +kernel
theorem d_SP_isCrossedAt_87 : decode prog_7_method_9_code 87 = .ok (.goto 4, 3) := by decide +kernel
theorem d_SP_isCrossedAt_90 : decode prog_7_method_9_code 90 = .ok (.iconst 0, 1) := by decide +kernel
theorem d_SP_isCrossedAt_91 : decode prog_7_method_9_code 91 = .ok (.ireturn, 1) := by decide +kernel
theorem wi_t {st x : Int64} (h : x &&& (st ^^^ (-1 : Int64)) = 0) : wiB st x = true := decide_eq_true h
theorem wi_f {st x : Int64} (h : ¬ x &&& (st ^^^ (-1 : Int64)) = 0) : wiB st x = false := decide_eq_false h
theorem wo_t {st x : Int64} (h : x &&& st = 0) : woB st x = true := decide_eq_true h
theorem wo_f {st x : Int64} (h : ¬ x &&& st = 0) : woB st x = false := decide_eq_false h
set_option maxHeartbeats 4000000 in
set_option maxRecDepth 100000 in
theorem c_SP_isCrossedAt (l : Launch) (dC : Nat → ClassId) (dI : Nat → Nat → Nat) (cI cJ cZ : ClassId) (sp gg pi bo gd : Nat) (pci gci : Int32) (bl : Int64) (Pi : Nat → Int64) (st : Int64) (fr bh : Nat) (hfb : fr ≤ bh) (hbh : bh ≤ 1274) : Met l ⟨"CutPoints$Splitter", "isCrossedAt", "(JII)Z"⟩ (Cond.code ⟨"CutPoints$Splitter", "isCrossedAt", "(JII)Z"⟩ prog_7_method_9_code 9 (some .boolean) :: TT) (rmk 1 14) (PR dC dI cI cJ cZ [.ref sp, .long st, .int (nI fr), .int (nI bh)] [(sp, .inr (6, [.ref gg, .ref pi, .ref bo, .int pci, .ref gd, .int gci, .long bl])), (pi, .inl (cJ, 1274, .inr (.inl Pi)))]) (vp_Si (fun y => y = bI (crB st Pi fr (bh - fr)))) 0 0 (fun _ => False) := by
  refine Met.ofW (cc := prog_7_method_9_code) (maxL := 9) (ret := (some .boolean)) (by decide) rfl ?_
  intro p e s m args below meth c s₁ BB9 hml hv
  obtain ⟨rfl, hP, hK⟩ := hv
  have hx := BB9.exec
  have hb := BB9.bytes
  have hr := BB9.returns
  have hts : ∀ w ∈ TT, w.before _ s = true := fun w h => atoms_spec (ws := (Cond.code ⟨"CutPoints$Splitter", "isCrossedAt", "(JII)Z"⟩ prog_7_method_9_code 9 (some .boolean) :: TT)) BB9.pre w (List.mem_cons_of_mem _ h)
  have hown : s.vm.findClass "CutPoints$Splitter" = some m.cls := findClass_of_methodNamed BB9.named
  have hlocks := BB9.notSynchronized
  have hl := lv_entry ([.ref sp, .long st, .int (nI fr), .int (nI bh)]) (n := 9) (Nat.le_of_ble_eq_true rfl)
  rw [lg_entry_eq]
  generalize (lg_sl ([.ref sp, .long st, .int (nI fr), .int (nI bh)]) ++ List.replicate (9 - (lg_sl ([.ref sp, .long st, .int (nI fr), .int (nI bh)])).length) Slot.unset).toArray = ls at hl ⊢
  have hl : lv_has ls 9 [(0, .ref sp), (1, .long st), (3, .int (nI fr)), (4, .int (nI bh))] := hl
  refine lv_iconst (v := (nI 0)) hx hb d_SP_isCrossedAt_0 (by decide) ?_
  refine lv_istore (lv' := [(5, .int (nI 0)), (0, .ref sp), (1, .long st), (3, .int (nI fr)), (4, .int (nI bh))]) hx hb d_SP_isCrossedAt_1 hl (by decide) rfl (fun ls hl => ?_)
  refine lv_iconst (v := (nI 0)) hx hb d_SP_isCrossedAt_3 (by decide) ?_
  refine lv_istore (lv' := [(6, .int (nI 0)), (5, .int (nI 0)), (0, .ref sp), (1, .long st), (3, .int (nI fr)), (4, .int (nI bh))]) hx hb d_SP_isCrossedAt_4 hl (by decide) rfl (fun ls hl => ?_)
  refine lv_iconst (v := (nI 0)) hx hb d_SP_isCrossedAt_6 (by decide) ?_
  refine lv_istore (lv' := [(7, .int (nI 0)), (6, .int (nI 0)), (5, .int (nI 0)), (0, .ref sp), (1, .long st), (3, .int (nI fr)), (4, .int (nI bh))]) hx hb d_SP_isCrossedAt_7 hl (by decide) rfl (fun ls hl => ?_)
  refine lv_iload_n hx hb d_SP_isCrossedAt_9 rfl (lv_at hl 5 rfl) ?_
  refine lv_istore (lv' := [(8, .int (nI fr)), (7, .int (nI 0)), (6, .int (nI 0)), (5, .int (nI 0)), (0, .ref sp), (1, .long st), (3, .int (nI fr)), (4, .int (nI bh))]) hx hb d_SP_isCrossedAt_10 hl (by decide) rfl (fun ls hl => ?_)
  have L12_1 : ∀ (n : Nat) (cw : Nat) (co : Nat) (cb : Nat) (j : Nat) (hn : bh - (fr + j) < n) (hi : fr + j ≤ bh) (hw : cw = xwI st Pi fr j) (ho : co = xoI st Pi fr j) (hb_ : cb = xbI st Pi fr j) (ls : Array Slot) (hl : lv_has ls 9 [(0, .ref sp), (1, .long st), (3, .int (nI fr)), (4, .int (nI bh)), (5, .int (nI cw)), (6, .int (nI co)), (7, .int (nI cb)), (8, .int (nI (fr + j)))]), W p l e (headSpec (Cond.code ⟨"CutPoints$Splitter", "isCrossedAt", "(JII)Z"⟩ prog_7_method_9_code 9 (some .boolean) :: TT) (rmk 1 14)).room s m ([.ref sp, .long st, .int (nI fr), .int (nI bh)] : List Value).toArray below meth c s.heap [] 0 0 (MQ below (vp_Si (fun y => y = bI (crB st Pi fr (bh - fr)))) ([.ref sp, .long st, .int (nI fr), .int (nI bh)] : List Value).toArray s 0 0 (fun _ => False)) (F0 m 12 ls []) := by
    intro n_12
    induction n_12 with
    | zero =>
      intro cw co cb j hn_12
      exact absurd hn_12 (Nat.not_lt_zero _)
    | succ n_12 ih_12 =>
      intro cw co cb j hn_12 hi hw ho hb_ ls hl
      have hw9 := cn_le (fun i => wiB st (Pi (fr + i))) j
      have ho9 := cn_le (fun i => !wiB st (Pi (fr + i)) && woB st (Pi (fr + i))) j
      have hb9 := cn_le (fun i => !wiB st (Pi (fr + i)) && !woB st (Pi (fr + i))) j
      have hw8 : cw ≤ j := by rw [hw]; exact hw9
      have ho8 : co ≤ j := by rw [ho]; exact ho9
      have hb8 : cb ≤ j := by rw [hb_]; exact hb9
      refine lv_iload hx hb d_SP_isCrossedAt_12 (lv_at hl 7 rfl) ?_
      refine lv_iload hx hb d_SP_isCrossedAt_14 (lv_at hl 3 rfl) ?_
      refine x_cmp_ge (a := (fr + j)) (b := bh) (tgt := 72) hx hb (by omega) (by omega) d_SP_isCrossedAt_16 (by decide) (fun c_2 => ?_) (fun c_2 => ?_)
      · skip
        refine lv_iload hx hb d_SP_isCrossedAt_72 (lv_at hl 6 rfl) ?_
        refine lv_iload hx hb d_SP_isCrossedAt_74 (lv_at hl 4 rfl) ?_
        refine lv_iload hx hb d_SP_isCrossedAt_76 (lv_at hl 5 rfl) ?_
        refine va_mmin hx hb (hml.trans hl.1.symm) hown (hts _ wml_SP_93) (hts _ wst_JM_min) (hts _ wini_JM) (hts _ wcode_JM_min) (Nat.le_of_ble_eq_true rfl) (Nat.le_of_ble_eq_true rfl) (Nat.zero_le _) (Nat.zero_le _) d_SP_isCrossedAt_78 ?_
        refine xe_i (y := (nI (min cw co))) (min_n (by omega) (by omega)) ?_
        refine lv_iadd hx hb d_SP_isCrossedAt_81 ?_
        refine xe_i (nI_add _ _) ?_
        refine lv_iconst (v := (nI 2)) hx hb d_SP_isCrossedAt_82 (by decide) ?_
        refine x_cmp_lt (a := (cb + (min cw co))) (b := 2) (tgt := 90) hx hb (by omega) (by omega) d_SP_isCrossedAt_83 (by decide) (fun c_3 => ?_) (fun c_3 => ?_)
        · skip
          refine lv_iconst (v := (nI 0)) hx hb d_SP_isCrossedAt_90 (by decide) ?_
          refine xe_i (y := bI false) rfl ?_
          exact W.zret (v := (bI false)) hx hb hr (bI_nar _) (fun t9 ht9 _ => ⟨_, rfl, (by have e9 : bh - fr = j := (by omega); unfold crB; rw [e9, ← hw, ← ho, ← hb_, decide_eq_false (by omega)]), ht9⟩) t_nil d_SP_isCrossedAt_91
        · skip
          refine lv_iconst (v := (nI 1)) hx hb d_SP_isCrossedAt_86 (by decide) ?_
          refine lv_goto (tgt := 91) hx hb d_SP_isCrossedAt_87 (by decide) ?_
          refine xe_i (y := bI true) rfl ?_
          exact W.zret (v := (bI true)) hx hb hr (bI_nar _) (fun t9 ht9 _ => ⟨_, rfl, (by have e9 : bh - fr = j := (by omega); unfold crB; rw [e9, ← hw, ← ho, ← hb_, decide_eq_true (by omega)]), ht9⟩) t_nil d_SP_isCrossedAt_91
      · skip
        refine lv_aload_n hx hb d_SP_isCrossedAt_19 rfl (lv_at hl 0 rfl) ?_
        refine va_get (D := (dC, dI)) (ci := 6) (v := .ref pi) (C := R_SP) (T := F_SP) (N := 7) hx hb hts in_SP hown hK.1 hP 0 rfl rfl 1 (by decide) (hts _ wfl_SP_18) (fun _ h9 => h9) rfl d_SP_isCrossedAt_20 ?_
        refine lv_iload hx hb d_SP_isCrossedAt_23 (lv_at hl 7 rfl) ?_
        refine x_lald (n := 1274) (f := Pi) (j := (fr + j)) hx hb hK.1 hP 1 1 rfl rfl (by omega) (by omega) d_SP_isCrossedAt_25 ?_
        refine lv_lload_n hx hb d_SP_isCrossedAt_26 rfl (lv_at hl 1 rfl) ?_
        refine lv_ldc2 (v := -1) hx hb hown (hts _ wkl_SP_52) d_SP_isCrossedAt_27 ?_
        refine lv_lxor hx hb d_SP_isCrossedAt_30 ?_
        refine lv_land hx hb d_SP_isCrossedAt_31 ?_
        refine lv_lconst (v := 0) hx hb d_SP_isCrossedAt_32 rfl ?_
        refine x_lcmp_ne (tgt := 43) hx hb d_SP_isCrossedAt_33 d_SP_isCrossedAt_34 (by decide) (fun c_4 => ?_) (fun c_4 => ?_)
        · skip
          refine lv_aload_n hx hb d_SP_isCrossedAt_43 rfl (lv_at hl 0 rfl) ?_
          refine va_get (D := (dC, dI)) (ci := 6) (v := .ref pi) (C := R_SP) (T := F_SP) (N := 7) hx hb hts in_SP hown hK.1 hP 0 rfl rfl 1 (by decide) (hts _ wfl_SP_18) (fun _ h9 => h9) rfl d_SP_isCrossedAt_44 ?_
          refine lv_iload hx hb d_SP_isCrossedAt_47 (lv_at hl 7 rfl) ?_
          refine x_lald (n := 1274) (f := Pi) (j := (fr + j)) hx hb hK.1 hP 1 1 rfl rfl (by omega) (by omega) d_SP_isCrossedAt_49 ?_
          refine lv_lload_n hx hb d_SP_isCrossedAt_50 rfl (lv_at hl 1 rfl) ?_
          refine lv_land hx hb d_SP_isCrossedAt_51 ?_
          refine lv_lconst (v := 0) hx hb d_SP_isCrossedAt_52 rfl ?_
          refine x_lcmp_ne (tgt := 63) hx hb d_SP_isCrossedAt_53 d_SP_isCrossedAt_54 (by decide) (fun c_5 => ?_) (fun c_5 => ?_)
          · skip
            refine lv_iinc (v := (nI (cb + 1))) (lv' := [(7, .int (nI (cb + 1))), (0, .ref sp), (1, .long st), (3, .int (nI fr)), (4, .int (nI bh)), (5, .int (nI cw)), (6, .int (nI co)), (8, .int (nI (fr + j)))]) hx hb d_SP_isCrossedAt_63 hl (k := 6) rfl (nI_1 _) (by decide) rfl (fun ls hl => ?_)
            refine lv_iinc (v := (nI ((fr + j) + 1))) (lv' := [(8, .int (nI ((fr + j) + 1))), (7, .int (nI (cb + 1))), (0, .ref sp), (1, .long st), (3, .int (nI fr)), (4, .int (nI bh)), (5, .int (nI cw)), (6, .int (nI co))]) hx hb d_SP_isCrossedAt_66 hl (k := 7) rfl (nI_1 _) (by decide) rfl (fun ls hl => ?_)
            refine lv_goto (tgt := 12) hx hb d_SP_isCrossedAt_69 (by decide) ?_
            exact ih_12 cw co (cb + 1) (j + 1) (by omega) (by first | assumption | omega) (cn_f hw (by simp only [wi_f c_4, wo_f c_5]; try rfl)) (cn_f ho (by simp only [wi_f c_4, wo_f c_5]; try rfl)) (cn_t hb_ (by simp only [wi_f c_4, wo_f c_5]; try rfl)) ls (lv_sub hl [2, 3, 4, 5, 6, 7, 1, 0] rfl)
          · skip
            refine lv_iinc (v := (nI (co + 1))) (lv' := [(6, .int (nI (co + 1))), (0, .ref sp), (1, .long st), (3, .int (nI fr)), (4, .int (nI bh)), (5, .int (nI cw)), (7, .int (nI cb)), (8, .int (nI (fr + j)))]) hx hb d_SP_isCrossedAt_57 hl (k := 5) rfl (nI_1 _) (by decide) rfl (fun ls hl => ?_)
            refine lv_goto (tgt := 66) hx hb d_SP_isCrossedAt_60 (by decide) ?_
            refine lv_iinc (v := (nI ((fr + j) + 1))) (lv' := [(8, .int (nI ((fr + j) + 1))), (6, .int (nI (co + 1))), (0, .ref sp), (1, .long st), (3, .int (nI fr)), (4, .int (nI bh)), (5, .int (nI cw)), (7, .int (nI cb))]) hx hb d_SP_isCrossedAt_66 hl (k := 7) rfl (nI_1 _) (by decide) rfl (fun ls hl => ?_)
            refine lv_goto (tgt := 12) hx hb d_SP_isCrossedAt_69 (by decide) ?_
            exact ih_12 cw (co + 1) cb (j + 1) (by omega) (by first | assumption | omega) (cn_f hw (by simp only [wi_f c_4, wo_t c_5]; try rfl)) (cn_t ho (by simp only [wi_f c_4, wo_t c_5]; try rfl)) (cn_f hb_ (by simp only [wi_f c_4, wo_t c_5]; try rfl)) ls (lv_sub hl [2, 3, 4, 5, 6, 1, 7, 0] rfl)
        · skip
          refine lv_iinc (v := (nI (cw + 1))) (lv' := [(5, .int (nI (cw + 1))), (0, .ref sp), (1, .long st), (3, .int (nI fr)), (4, .int (nI bh)), (6, .int (nI co)), (7, .int (nI cb)), (8, .int (nI (fr + j)))]) hx hb d_SP_isCrossedAt_37 hl (k := 4) rfl (nI_1 _) (by decide) rfl (fun ls hl => ?_)
          refine lv_goto (tgt := 66) hx hb d_SP_isCrossedAt_40 (by decide) ?_
          refine lv_iinc (v := (nI ((fr + j) + 1))) (lv' := [(8, .int (nI ((fr + j) + 1))), (5, .int (nI (cw + 1))), (0, .ref sp), (1, .long st), (3, .int (nI fr)), (4, .int (nI bh)), (6, .int (nI co)), (7, .int (nI cb))]) hx hb d_SP_isCrossedAt_66 hl (k := 7) rfl (nI_1 _) (by decide) rfl (fun ls hl => ?_)
          refine lv_goto (tgt := 12) hx hb d_SP_isCrossedAt_69 (by decide) ?_
          exact ih_12 (cw + 1) co cb (j + 1) (by omega) (by first | assumption | omega) (cn_t hw (by simp only [wi_t c_4]; try rfl)) (cn_f ho (by simp only [wi_t c_4]; try rfl)) (cn_f hb_ (by simp only [wi_t c_4]; try rfl)) ls (lv_sub hl [2, 3, 4, 5, 1, 6, 7, 0] rfl)
  exact L12_1 ((bh - (fr + 0)) + 1) 0 0 0 0 (Nat.lt_succ_self _) (by first | assumption | omega) rfl rfl rfl ls (lv_sub hl [4, 5, 6, 7, 3, 2, 1, 0] rfl)

theorem d_SP_isCrossed_0 : decode prog_7_method_8_code 0 = .ok (.iconst 0, 1) := by decide +kernel
theorem d_SP_isCrossed_1 : decode prog_7_method_8_code 1 = .ok (.istore_n 3, 1) := by decide +kernel
theorem d_SP_isCrossed_2 : decode prog_7_method_8_code 2 = .ok (.iload_n 3, 1) := by decide +kernel
theorem d_SP_isCrossed_3 : decode prog_7_method_8_code 3 = .ok (.aload_n 0, 1) := by decide +kernel
theorem d_SP_isCrossed_4 : decode prog_7_method_8_code 4 = .ok (.getfield 41, 3) := by decide +kernel
theorem d_SP_isCrossed_7 : decode prog_7_method_8_code 7 = .ok (.if_icmp .ge 33, 3) := by decide +kernel
theorem d_SP_isCrossed_10 : decode prog_7_method_8_code 10 = .ok (.aload_n 0, 1) := by decide +kernel
theorem d_SP_isCrossed_11 : decode prog_7_method_8_code 11 = .ok (.lload_n 1, 1) := by decide +kernel
theorem d_SP_isCrossed_12 : decode prog_7_method_8_code 12 = .ok (.aload_n 0, 1) := by decide +kernel
theorem d_SP_isCrossed_13 : decode prog_7_method_8_code 13 = .ok (.getfield 22, 3) := by decide +kernel
theorem d_SP_isCrossed_16 : decode prog_7_method_8_code 16 = .ok (.iload_n 3, 1) := by decide +kernel
theorem d_SP_isCrossed_17 : decode prog_7_method_8_code 17 = .ok (.iaload, 1) := by decide +kernel
theorem d_SP_isCrossed_18 : decode prog_7_method_8_code 18 = .ok (.aload_n 0, 1) := by decide +kernel
theorem d_SP_isCrossed_19 : decode prog_7_method_8_code 19 = .ok (.getfield 22, 3) := by decide +kernel
theorem d_SP_isCrossed_22 : decode prog_7_method_8_code 22 = .ok (.iload_n 3, 1) := by decide +kernel
theorem d_SP_isCrossed_23 : decode prog_7_method_8_code 23 = .ok (.iconst 1, 1) := by decide +kernel
theorem d_SP_isCrossed_24 : decode prog_7_method_8_code 24 = .ok (.iadd, 1) := by decide +kernel
theorem d_SP_isCrossed_25 : decode prog_7_method_8_code 25 = .ok (.iaload, 1) := by decide +kernel
theorem d_SP_isCrossed_26 : decode prog_7_method_8_code 26 = .ok (.invokevirtual 89, 3) := by decide +kernel
theorem d_SP_isCrossed_29 : decode prog_7_method_8_code 29 = .ok (.ifCond .eq 5, 3) := by decide +kernel
theorem d_SP_isCrossed_32 : decode prog_7_method_8_code 32 = .ok (.iconst 1, 1) := by decide +kernel
theorem d_SP_isCrossed_33 : decode prog_7_method_8_code 33 = .ok (.ireturn, 1) := by decide +kernel
theorem d_SP_isCrossed_34 : decode prog_7_method_8_code 34 = .ok (.iinc 3 1, 3) := by decide +kernel
theorem d_SP_isCrossed_37 : decode prog_7_method_8_code 37 = .ok (.goto (-35), 3) := by decide +kernel
theorem d_SP_isCrossed_40 : decode prog_7_method_8_code 40 = .ok (.iconst 0, 1) := by decide +kernel
theorem d_SP_isCrossed_41 : decode prog_7_method_8_code 41 = .ok (.ireturn, 1) := by decide +kernel
set_option maxHeartbeats 4000000 in
set_option maxRecDepth 100000 in
theorem c_SP_isCrossed (l : Launch) (dC : Nat → ClassId) (dI : Nat → Nat → Nat) (cI cJ cZ : ClassId) (sp gg pi bo gd : Nat) (pc : Nat) (gci : Int32) (bl : Int64) (Pi : Nat → Int64) (Bo : Nat → Nat) (hBo : ∀ p, p < pc → Bo p ≤ Bo (p + 1) ∧ Bo (p + 1) ≤ 1274) (hpc : pc ≤ 91) (st : Int64) : Met l ⟨"CutPoints$Splitter", "isCrossed", "(J)Z"⟩ (Cond.code ⟨"CutPoints$Splitter", "isCrossed", "(J)Z"⟩ prog_7_method_8_code 4 (some .boolean) :: TT) (rmk 2 42) (PR dC dI cI cJ cZ [.ref sp, .long st] [(sp, .inr (6, [.ref gg, .ref pi, .ref bo, .int (nI pc), .ref gd, .int gci, .long bl])), (pi, .inl (cJ, 1274, .inr (.inl Pi))), (bo, .inl (cI, 92, .inl (nF Bo)))]) (vp_Si (fun y => y = bI (cxB Pi Bo st pc))) 0 0 (fun _ => False) := by
  refine Met.ofW (cc := prog_7_method_8_code) (maxL := 4) (ret := (some .boolean)) (by decide) rfl ?_
  intro p e s m args below meth c s₁ BB9 hml hv
  obtain ⟨rfl, hP, hK⟩ := hv
  have hx := BB9.exec
  have hb := BB9.bytes
  have hr := BB9.returns
  have hts : ∀ w ∈ TT, w.before _ s = true := fun w h => atoms_spec (ws := (Cond.code ⟨"CutPoints$Splitter", "isCrossed", "(J)Z"⟩ prog_7_method_8_code 4 (some .boolean) :: TT)) BB9.pre w (List.mem_cons_of_mem _ h)
  have hown : s.vm.findClass "CutPoints$Splitter" = some m.cls := findClass_of_methodNamed BB9.named
  have hlocks := BB9.notSynchronized
  have hl := lv_entry ([.ref sp, .long st]) (n := 4) (Nat.le_of_ble_eq_true rfl)
  rw [lg_entry_eq]
  generalize (lg_sl ([.ref sp, .long st]) ++ List.replicate (4 - (lg_sl ([.ref sp, .long st])).length) Slot.unset).toArray = ls at hl ⊢
  have hl : lv_has ls 4 [(0, .ref sp), (1, .long st)] := hl
  refine lv_iconst (v := (nI 0)) hx hb d_SP_isCrossed_0 (by decide) ?_
  refine lv_istore_n (lv' := [(3, .int (nI 0)), (0, .ref sp), (1, .long st)]) hx hb d_SP_isCrossed_1 rfl hl (by decide) rfl (fun ls hl => ?_)
  have L2_1 : ∀ (n : Nat) (i : Nat) (hn : pc - i < n) (hi : i ≤ pc) (hn : ∀ p, p < i → crB st Pi (Bo p) (Bo (p + 1) - Bo p) = false) (ls : Array Slot) (hl : lv_has ls 4 [(0, .ref sp), (1, .long st), (3, .int (nI i))]), W p l e (headSpec (Cond.code ⟨"CutPoints$Splitter", "isCrossed", "(J)Z"⟩ prog_7_method_8_code 4 (some .boolean) :: TT) (rmk 2 42)).room s m ([.ref sp, .long st] : List Value).toArray below meth c s.heap [] 0 0 (MQ below (vp_Si (fun y => y = bI (cxB Pi Bo st pc))) ([.ref sp, .long st] : List Value).toArray s 0 0 (fun _ => False)) (F0 m 2 ls []) := by
    intro n_2
    induction n_2 with
    | zero =>
      intro i hn_2
      exact absurd hn_2 (Nat.not_lt_zero _)
    | succ n_2 ih_2 =>
      intro i hn_2 hi hn ls hl
      refine lv_iload_n hx hb d_SP_isCrossed_2 rfl (lv_at hl 2 rfl) ?_
      refine lv_aload_n hx hb d_SP_isCrossed_3 rfl (lv_at hl 0 rfl) ?_
      refine va_get (D := (dC, dI)) (ci := 6) (v := .int (nI pc)) (C := R_SP) (T := F_SP) (N := 7) hx hb hts in_SP hown hK.1 hP 0 rfl rfl 3 (by decide) (hts _ wfl_SP_41) (fun _ h9 => h9) rfl d_SP_isCrossed_4 ?_
      refine x_cmp_ge (a := i) (b := pc) (tgt := 40) hx hb (by omega) (by omega) d_SP_isCrossed_7 (by decide) (fun c_2 => ?_) (fun c_2 => ?_)
      · skip
        refine lv_iconst (v := (nI 0)) hx hb d_SP_isCrossed_40 (by decide) ?_
        refine xe_i (y := bI false) rfl ?_
        exact W.zret (v := (bI false)) hx hb hr (bI_nar _) (fun t9 ht9 _ => ⟨_, rfl, (by unfold cxB; rw [cn_none (fun p hp => hn p (by omega))]; rfl), ht9⟩) t_nil d_SP_isCrossed_41
      · skip
        refine lv_aload_n hx hb d_SP_isCrossed_10 rfl (lv_at hl 0 rfl) ?_
        refine lv_lload_n hx hb d_SP_isCrossed_11 rfl (lv_at hl 1 rfl) ?_
        refine lv_aload_n hx hb d_SP_isCrossed_12 rfl (lv_at hl 0 rfl) ?_
        refine va_get (D := (dC, dI)) (ci := 6) (v := .ref bo) (C := R_SP) (T := F_SP) (N := 7) hx hb hts in_SP hown hK.1 hP 0 rfl rfl 2 (by decide) (hts _ wfl_SP_22) (fun _ h9 => h9) rfl d_SP_isCrossed_13 ?_
        refine lv_iload_n hx hb d_SP_isCrossed_16 rfl (lv_at hl 2 rfl) ?_
        refine x_iald (n := 92) (f := (nF Bo)) (j := i) hx hb hK.1 hP 2 0 rfl rfl (by omega) (by omega) d_SP_isCrossed_17 ?_
        refine xe_i (y := (nI (Bo i))) rfl ?_
        refine lv_aload_n hx hb d_SP_isCrossed_18 rfl (lv_at hl 0 rfl) ?_
        refine va_get (D := (dC, dI)) (ci := 6) (v := .ref bo) (C := R_SP) (T := F_SP) (N := 7) hx hb hts in_SP hown hK.1 hP 0 rfl rfl 2 (by decide) (hts _ wfl_SP_22) (fun _ h9 => h9) rfl d_SP_isCrossed_19 ?_
        refine lv_iload_n hx hb d_SP_isCrossed_22 rfl (lv_at hl 2 rfl) ?_
        refine lv_iconst (v := (nI 1)) hx hb d_SP_isCrossed_23 (by decide) ?_
        refine lv_iadd hx hb d_SP_isCrossed_24 ?_
        refine xe_i (nI_add _ _) ?_
        refine x_iald (n := 92) (f := (nF Bo)) (j := (i + 1)) hx hb hK.1 hP 2 0 rfl rfl (by omega) (by omega) d_SP_isCrossed_25 ?_
        refine xe_i (y := (nI (Bo (i + 1)))) rfl ?_
        refine vp_callSi (va_Run.run (k_V (n := 3) (C := R_SP) (rest := []) ⟨hx, hb, hml, hown, hts⟩ (c_SP_isCrossedAt l dC dI cI cJ cZ sp gg pi bo gd (nI pc) gci bl Pi st (Bo i) (Bo (i + 1)) (hBo i (by assumption)).1 (hBo i (by assumption)).2) wml_SP_89 wim_SP_isCrossedAt wsel_SP_isCrossedAt wini_SP wcode_SP_isCrossedAt (by decide +kernel) ⟨Nat.le_of_ble_eq_true rfl, Nat.le_of_ble_eq_true rfl⟩ (preV_R (q := (R_SP, F_SP, 7)) (ci := 6) (q0 := 0) (hP.sub (ws' := [(sp, .inr (6, [.ref gg, .ref pi, .ref bo, .int (nI pc), .ref gd, .int gci, .long bl])), (pi, .inl (cJ, 1274, .inr (.inl Pi)))]) [0, 1] rfl) hK rfl rfl) rfl hl.1 rfl (Nat.le_of_ble_eq_true rfl) d_SP_isCrossed_26 ⟨Nat.zero_le _, Nat.zero_le _⟩)) (fun r_3 hr_4 => ?_)
        refine xe_i (y := (bI (crB st Pi (Bo i) ((Bo (i + 1)) - (Bo i))))) hr_4 ?_
        refine x_if_eq (tgt := 34) hx hb d_SP_isCrossed_29 (by decide) (fun c_5 => ?_) (fun c_5 => ?_)
        · skip
          refine lv_iinc (v := (nI (i + 1))) (lv' := [(3, .int (nI (i + 1))), (0, .ref sp), (1, .long st)]) hx hb d_SP_isCrossed_34 hl (k := 2) rfl (nI_1 _) (by decide) rfl (fun ls hl => ?_)
          refine lv_goto (tgt := 2) hx hb d_SP_isCrossed_37 (by decide) ?_
          exact ih_2 (i + 1) (by omega) (by first | assumption | omega) (lt_s hn c_5) ls (lv_sub hl [1, 2, 0] rfl)
        · skip
          refine lv_iconst (v := (nI 1)) hx hb d_SP_isCrossed_32 (by decide) ?_
          refine xe_i (y := bI true) rfl ?_
          exact W.zret (v := (bI true)) hx hb hr (bI_nar _) (fun t9 ht9 _ => ⟨_, rfl, (by unfold cxB; rw [decide_eq_true (cn_pos i (by omega) c_5)]), ht9⟩) t_nil d_SP_isCrossed_33
  exact L2_1 ((pc - 0) + 1) 0 (Nat.lt_succ_self _) (by first | assumption | omega) (fun p hp => absurd hp (Nat.not_lt_zero _)) ls (lv_sub hl [1, 2, 0] rfl)
