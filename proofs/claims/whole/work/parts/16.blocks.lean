theorem d_SK_findBlocks_0 : decode prog_6_method_5_code 0 = .ok (.aload_n 0, 1) := by decide +kernel
theorem d_SK_findBlocks_1 : decode prog_6_method_5_code 1 = .ok (.getfield 28, 3) := by decide +kernel
theorem d_SK_findBlocks_4 : decode prog_6_method_5_code 4 = .ok (.invokevirtual 81, 3) := by decide +kernel
theorem d_SK_findBlocks_7 : decode prog_6_method_5_code 7 = .ok (.iconst 0, 1) := by decide +kernel
theorem d_SK_findBlocks_8 : decode prog_6_method_5_code 8 = .ok (.istore_n 1, 1) := by decide +kernel
theorem d_SK_findBlocks_9 : decode prog_6_method_5_code 9 = .ok (.iload_n 1, 1) := by decide +kernel
theorem d_SK_findBlocks_10 : decode prog_6_method_5_code 10 = .ok (.bipush 14, 2) := by decide +kernel
theorem d_SK_findBlocks_12 : decode prog_6_method_5_code 12 = .ok (.if_icmp .ge 86, 3) := by decide +kernel
theorem d_SK_findBlocks_15 : decode prog_6_method_5_code 15 = .ok (.aload_n 0, 1) := by decide +kernel
theorem d_SK_findBlocks_16 : decode prog_6_method_5_code 16 = .ok (.getfield 9, 3) := by decide +kernel
theorem d_SK_findBlocks_19 : decode prog_6_method_5_code 19 = .ok (.iload_n 1, 1) := by decide +kernel
theorem d_SK_findBlocks_20 : decode prog_6_method_5_code 20 = .ok (.iaload, 1) := by decide +kernel
theorem d_SK_findBlocks_21 : decode prog_6_method_5_code 21 = .ok (.istore_n 2, 1) := by decide +kernel
theorem d_SK_findBlocks_22 : decode prog_6_method_5_code 22 = .ok (.iconst 0, 1) := by decide +kernel
theorem d_SK_findBlocks_23 : decode prog_6_method_5_code 23 = .ok (.istore_n 3, 1) := by decide +kernel
theorem d_SK_findBlocks_24 : decode prog_6_method_5_code 24 = .ok (.iload_n 3, 1) := by decide +kernel
theorem d_SK_findBlocks_25 : decode prog_6_method_5_code 25 = .ok (.bipush 14, 2) := by decide +kernel
theorem d_SK_findBlocks_27 : decode prog_6_method_5_code 27 = .ok (.if_icmp .ge 65, 3) := by decide +kernel
theorem d_SK_findBlocks_30 : decode prog_6_method_5_code 30 = .ok (.iload_n 2, 1) := by decide +kernel
theorem d_SK_findBlocks_31 : decode prog_6_method_5_code 31 = .ok (.i2l, 1) := by decide +kernel
theorem d_SK_findBlocks_32 : decode prog_6_method_5_code 32 = .ok (.iload_n 3, 1) := by decide +kernel
theorem d_SK_findBlocks_33 : decode prog_6_method_5_code 33 = .ok (.invokestatic 68, 3) := by decide +kernel
theorem d_SK_findBlocks_36 : decode prog_6_method_5_code 36 = .ok (.ifCond .eq 50, 3) := by decide +kernel
theorem d_SK_findBlocks_39 : decode prog_6_method_5_code 39 = .ok (.aload_n 0, 1) := by decide +kernel
theorem d_SK_findBlocks_40 : decode prog_6_method_5_code 40 = .ok (.getfield 9, 3) := by decide +kernel
theorem d_SK_findBlocks_43 : decode prog_6_method_5_code 43 = .ok (.iload_n 3, 1) := by decide +kernel
theorem d_SK_findBlocks_44 : decode prog_6_method_5_code 44 = .ok (.aload_n 0, 1) := by decide +kernel
theorem d_SK_findBlocks_45 : decode prog_6_method_5_code 45 = .ok (.getfield 38, 3) := by decide +kernel
theorem d_SK_findBlocks_48 : decode prog_6_method_5_code 48 = .ok (.iconst 1, 1) := by decide +kernel
theorem d_SK_findBlocks_49 : decode prog_6_method_5_code 49 = .ok (.iload_n 1, 1) := by decide +kernel
theorem d_SK_findBlocks_50 : decode prog_6_method_5_code 50 = .ok (.ishl, 1) := by decide +kernel
theorem d_SK_findBlocks_51 : decode prog_6_method_5_code 51 = .ok (.iconst (-1), 1) := by decide +kernel
theorem d_SK_findBlocks_52 : decode prog_6_method_5_code 52 = .ok (.ixor, 1) := by decide +kernel
theorem d_SK_findBlocks_53 : decode prog_6_method_5_code 53 = .ok (.iand, 1) := by decide +kernel
theorem d_SK_findBlocks_54 : decode prog_6_method_5_code 54 = .ok (.invokestatic 84, 3) := by decide +kernel
theorem d_SK_findBlocks_57 : decode prog_6_method_5_code 57 = .ok (.istore 4, 2) := by decide +kernel
theorem d_SK_findBlocks_59 : decode prog_6_method_5_code 59 = .ok (.aload_n 0, 1) := by decide +kernel
theorem d_SK_findBlocks_60 : decode prog_6_method_5_code 60 = .ok (.getfield 28, 3) := by decide +kernel
theorem d_SK_findBlocks_63 : decode prog_6_method_5_code 63 = .ok (.aload_n 0, 1) := by decide +kernel
theorem d_SK_findBlocks_64 : decode prog_6_method_5_code 64 = .ok (.getfield 21, 3) := by decide +kernel
theorem d_SK_findBlocks_67 : decode prog_6_method_5_code 67 = .ok (.iload_n 1, 1) := by decide +kernel
theorem d_SK_findBlocks_68 : decode prog_6_method_5_code 68 = .ok (.laload, 1) := by decide +kernel
theorem d_SK_findBlocks_69 : decode prog_6_method_5_code 69 = .ok (.aload_n 0, 1) := by decide +kernel
theorem d_SK_findBlocks_70 : decode prog_6_method_5_code 70 = .ok (.iload 4, 2) := by decide +kernel
theorem d_SK_findBlocks_72 : decode prog_6_method_5_code 72 = .ok (.invokevirtual 88, 3) := by decide +kernel
theorem d_SK_findBlocks_75 : decode prog_6_method_5_code 75 = .ok (.land, 1) := by decide +kernel
theorem d_SK_findBlocks_76 : decode prog_6_method_5_code 76 = .ok (.invokevirtual 92, 3) := by decide +kernel
theorem d_SK_findBlocks_79 : decode prog_6_method_5_code 79 = .ok (.iload_n 2, 1) := by decide +kernel
theorem d_SK_findBlocks_80 : decode prog_6_method_5_code 80 = .ok (.iload 4, 2) := by decide +kernel
theorem d_SK_findBlocks_82 : decode prog_6_method_5_code 82 = .ok (.iconst (-1), 1) := by decide +kernel
theorem d_SK_findBlocks_83 : decode prog_6_method_5_code 83 = .ok (.ixor, 1) := by decide +kernel
theorem d_SK_findBlocks_84 : decode prog_6_method_5_code 84 = .ok (.iand, 1) := by decide +kernel
theorem d_SK_findBlocks_85 : decode prog_6_method_5_code 85 = .ok (.istore_n 2, 1) := by decide +kernel
theorem d_SK_findBlocks_86 : decode prog_6_method_5_code 86 = .ok (.iinc 3 1, 3) := by decide +kernel
theorem d_SK_findBlocks_89 : decode prog_6_method_5_code 89 = .ok (.goto (-65), 3) := by decide +kernel
theorem d_SK_findBlocks_92 : decode prog_6_method_5_code 92 = .ok (.iinc 1 1, 3) := by decide +kernel
theorem d_SK_findBlocks_95 : decode prog_6_method_5_code 95 = .ok (.goto (-86), 3) := by decide +kernel
theorem d_SK_findBlocks_98 : decode prog_6_method_5_code 98 = .ok (.return_, 1) := by decide +kernel
set_option maxHeartbeats 4000000 in
set_option maxRecDepth 100000 in
theorem c_SK_findBlocks (l : Launch) (dC : Nat → ClassId) (dI : Nat → Nat → Nat) (cI cJ cZ : ClassId) (k nr fr rs at_ h : Nat) (al : Int32) (br : Int64) (N : Nat → Int32) (A : Nat → Int64) (b1 : Nat) (zi : Int32) (Se : Nat → Int64) (T : Nat → Bool) (F G : Nat → Nat) (n0 : Nat) (hGr : GOK T F G n0) (hN : NR T F G N) (hA : AR T F G A) (hal : WX n0 (fun _ => False) al) : Met l ⟨"CutPoints$Sketch", "findBlocks", "()V"⟩ (Cond.code ⟨"CutPoints$Sketch", "findBlocks", "()V"⟩ prog_6_method_5_code 5 none :: TT) (rmk 2 48) (PM dC dI cI cJ cZ [.ref k] [(k, .inr (2, [.ref nr, .ref fr, .ref rs, .ref at_, .ref h, .int al, .long br])), (nr, .inl (cI, 14, .inl N)), (at_, .inl (cJ, 14, .inr (.inl A))), (h, .inr (3, [.ref b1, .int zi])), (b1, .inl (cJ, 41, .inr (.inl Se)))]) (va_Qv (S := (Nat → Int64) × Nat) (fun u => GPI (BL T F G) u.1 u.2) (fun u t => va_P (dC, dI) cls ([(k, .inr (2, [.ref nr, .ref fr, .ref rs, .ref at_, .ref h, .int al, .long br])), (nr, .inl (cI, 14, .inl N)), (at_, .inl (cJ, 14, .inr (.inl A))), (h, .inr (3, [.ref b1, .int (nI u.2)])), (b1, .inl (cJ, 41, .inr (.inl u.1)))]) t.heap) (ow [(k, .inr (2, [.ref nr, .ref fr, .ref rs, .ref at_, .ref h, .int al, .long br])), (nr, .inl (cI, 14, .inl N)), (at_, .inl (cJ, 14, .inr (.inl A))), (h, .inr (3, [.ref b1, .int zi])), (b1, .inl (cJ, 41, .inr (.inl Se)))])) 0 0 (ow [(k, .inr (2, [.ref nr, .ref fr, .ref rs, .ref at_, .ref h, .int al, .long br])), (nr, .inl (cI, 14, .inl N)), (at_, .inl (cJ, 14, .inr (.inl A))), (h, .inr (3, [.ref b1, .int zi])), (b1, .inl (cJ, 41, .inr (.inl Se)))]) := by
  refine Met.ofW (cc := prog_6_method_5_code) (maxL := 5) (ret := none) (by decide) rfl ?_
  intro p e s m args below meth c s₁ B hml hv
  obtain ⟨rfl, hP, hK, hD0⟩ := hv
  have hx := B.exec
  have hb := B.bytes
  have hr := B.returns
  have hts : ∀ w ∈ TT, w.before _ s = true := fun w h => atoms_spec (ws := (Cond.code ⟨"CutPoints$Sketch", "findBlocks", "()V"⟩ prog_6_method_5_code 5 none :: TT)) B.pre w (List.mem_cons_of_mem _ h)
  have hown : s.vm.findClass "CutPoints$Sketch" = some m.cls := findClass_of_methodNamed B.named
  have hlocks := B.notSynchronized
  have hD := hD0.mine
  have hS : va_S (ow [(k, .inr (2, [.ref nr, .ref fr, .ref rs, .ref at_, .ref h, .int al, .long br])), (nr, .inl (cI, 14, .inl N)), (at_, .inl (cJ, 14, .inr (.inl A))), (h, .inr (3, [.ref b1, .int zi])), (b1, .inl (cJ, 41, .inr (.inl Se)))]) s.heap s.heap [] := va_S.rf
  have hl := lv_entry ([.ref k]) (n := 5) (Nat.le_of_ble_eq_true rfl)
  rw [lg_entry_eq]
  generalize (lg_sl ([.ref k]) ++ List.replicate (5 - (lg_sl ([.ref k])).length) Slot.unset).toArray = ls at hl ⊢
  have hl : lv_has ls 5 [(0, .ref k)] := hl
  refine lv_aload_n hx hb d_SK_findBlocks_0 rfl (lv_at hl 0 rfl) ?_
  refine va_get (D := (dC, dI)) (ci := 2) (v := .ref h) (C := R_SK) (T := F_SK) (N := 7) hx hb hts in_SK hown hK.1 hP 0 rfl rfl 4 (by decide) (hts _ wfl_SK_28) (fun _ h9 => h9) rfl d_SK_findBlocks_1 ?_
  refine x_cv (k_V (n := 0) (C := R_GP) (rest := []) ⟨hx, hb, hml, hown, hts⟩ (c_GP_forget l dC dI cI cJ cZ h b1 zi) wml_SK_81 wim_GP_forget wsel_GP_forget wini_GP wcode_GP_forget (by decide +kernel) ⟨Nat.le_of_ble_eq_true rfl, Nat.le_of_ble_eq_true rfl⟩ (preV_M (q := (R_GP, F_GP, 2)) (ci := 3) (q0 := 0) (hP.sub (ws' := [(h, .inr (3, [.ref b1, .int zi]))]) [3] rfl) hK (hD.sub (ws' := [(h, .inr (3, [.ref b1, .int zi]))]) [3] (by decide) rfl) rfl rfl) rfl hl.1 rfl (Nat.le_of_ble_eq_true rfl) d_SK_findBlocks_4 ⟨Nat.zero_le _, Nat.zero_le _⟩) hP hD hS [3] rfl (fun _ => rfl) (fun u_1 H locs hu_1 hP hS => ?_)
  have hP : va_P (dC, dI) cls [(k, .inr (2, [.ref nr, .ref fr, .ref rs, .ref at_, .ref h, .int al, .long br])), (nr, .inl (cI, 14, .inl N)), (at_, .inl (cJ, 14, .inr (.inl A))), (h, .inr (3, [.ref b1, .int (nI 0)])), (b1, .inl (cJ, 41, .inr (.inl Se)))] H := hP
  have hD := hD.addr (ws' := [(k, .inr (2, [.ref nr, .ref fr, .ref rs, .ref at_, .ref h, .int al, .long br])), (nr, .inl (cI, 14, .inl N)), (at_, .inl (cJ, 14, .inr (.inl A))), (h, .inr (3, [.ref b1, .int (nI 0)])), (b1, .inl (cJ, 41, .inr (.inl Se)))]) rfl
  refine lv_iconst (v := (nI 0)) hx hb d_SK_findBlocks_7 (by decide) ?_
  refine lv_istore_n (lv' := [(1, .int (nI 0)), (0, .ref k)]) hx hb d_SK_findBlocks_8 rfl hl (by decide) rfl (fun ls hl => ?_)
  have L9_2 : ∀ (n : Nat) (L : Nat → Nat → Prop) (S2 : Nat → Int64) (z : Nat) (u : Nat) (hn : 14 - u < n) (hu : u ≤ 14) (hO : fbO T F G L u) (hGP : GPI L S2 z) (H : Heap) (locs : List Loc) (hP : va_P (dC, dI) cls [(k, .inr (2, [.ref nr, .ref fr, .ref rs, .ref at_, .ref h, .int al, .long br])), (nr, .inl (cI, 14, .inl N)), (at_, .inl (cJ, 14, .inr (.inl A))), (h, .inr (3, [.ref b1, .int (nI z)])), (b1, .inl (cJ, 41, .inr (.inl S2)))] H) (hD : va_D (ow [(k, .inr (2, [.ref nr, .ref fr, .ref rs, .ref at_, .ref h, .int al, .long br])), (nr, .inl (cI, 14, .inl N)), (at_, .inl (cJ, 14, .inr (.inl A))), (h, .inr (3, [.ref b1, .int zi])), (b1, .inl (cJ, 41, .inr (.inl Se)))]) [(k, .inr (2, [.ref nr, .ref fr, .ref rs, .ref at_, .ref h, .int al, .long br])), (nr, .inl (cI, 14, .inl N)), (at_, .inl (cJ, 14, .inr (.inl A))), (h, .inr (3, [.ref b1, .int (nI z)])), (b1, .inl (cJ, 41, .inr (.inl S2)))]) (hS : va_S (ow [(k, .inr (2, [.ref nr, .ref fr, .ref rs, .ref at_, .ref h, .int al, .long br])), (nr, .inl (cI, 14, .inl N)), (at_, .inl (cJ, 14, .inr (.inl A))), (h, .inr (3, [.ref b1, .int zi])), (b1, .inl (cJ, 41, .inr (.inl Se)))]) s.heap H locs) (ls : Array Slot) (hl : lv_has ls 5 [(0, .ref k), (1, .int (nI u))]), W p l e (headSpec (Cond.code ⟨"CutPoints$Sketch", "findBlocks", "()V"⟩ prog_6_method_5_code 5 none :: TT) (rmk 2 48)).room s m ([.ref k] : List Value).toArray below meth c H locs 0 0 (MQ below (va_Qv (S := (Nat → Int64) × Nat) (fun u => GPI (BL T F G) u.1 u.2) (fun u t => va_P (dC, dI) cls ([(k, .inr (2, [.ref nr, .ref fr, .ref rs, .ref at_, .ref h, .int al, .long br])), (nr, .inl (cI, 14, .inl N)), (at_, .inl (cJ, 14, .inr (.inl A))), (h, .inr (3, [.ref b1, .int (nI u.2)])), (b1, .inl (cJ, 41, .inr (.inl u.1)))]) t.heap) (ow [(k, .inr (2, [.ref nr, .ref fr, .ref rs, .ref at_, .ref h, .int al, .long br])), (nr, .inl (cI, 14, .inl N)), (at_, .inl (cJ, 14, .inr (.inl A))), (h, .inr (3, [.ref b1, .int zi])), (b1, .inl (cJ, 41, .inr (.inl Se)))])) ([.ref k] : List Value).toArray s 0 0 (ow [(k, .inr (2, [.ref nr, .ref fr, .ref rs, .ref at_, .ref h, .int al, .long br])), (nr, .inl (cI, 14, .inl N)), (at_, .inl (cJ, 14, .inr (.inl A))), (h, .inr (3, [.ref b1, .int zi])), (b1, .inl (cJ, 41, .inr (.inl Se)))])) (F0 m 9 ls []) := by
    intro n_9
    induction n_9 with
    | zero =>
      intro L S2 z u hn_9
      exact absurd hn_9 (Nat.not_lt_zero _)
    | succ n_9 ih_9 =>
      intro L S2 z u hn_9 hu hO hGP H locs hP hD hS ls hl
      refine lv_iload_n hx hb d_SK_findBlocks_9 rfl (lv_at hl 1 rfl) ?_
      refine lv_bipush (v := (nI 14)) hx hb d_SK_findBlocks_10 (by decide) ?_
      refine x_cmp_ge (a := u) (b := 14) (tgt := 98) hx hb (by omega) (by omega) d_SK_findBlocks_12 (by decide) (fun c_3 => ?_) (fun c_3 => ?_)
      · skip
        exact W.vret hx hb hr (fun t ht _ => ⟨⟨(S2, z), rfl, (by rw [← fbO_end hGr hO (by assumption)]; exact hGP), by show va_P (dC, dI) cls _ t.heap; rw [ht]; exact hP⟩, hS.F ht⟩) hS.2.2 d_SK_findBlocks_98
      · skip
        refine lv_aload_n hx hb d_SK_findBlocks_15 rfl (lv_at hl 0 rfl) ?_
        refine va_get (D := (dC, dI)) (ci := 2) (v := .ref nr) (C := R_SK) (T := F_SK) (N := 7) hx hb hts in_SK hown hK.1 hP 0 rfl rfl 0 (by decide) (hts _ wfl_SK_9) (fun _ h9 => h9) rfl d_SK_findBlocks_16 ?_
        refine lv_iload_n hx hb d_SK_findBlocks_19 rfl (lv_at hl 1 rfl) ?_
        refine x_iald (n := 14) (f := N) (j := u) hx hb hK.1 hP 1 0 rfl rfl (by omega) (by omega) d_SK_findBlocks_20 ?_
        refine lv_istore_n (lv' := [(2, .int (N u)), (0, .ref k), (1, .int (nI u))]) hx hb d_SK_findBlocks_21 rfl hl (by decide) rfl (fun ls hl => ?_)
        refine lv_iconst (v := (nI 0)) hx hb d_SK_findBlocks_22 (by decide) ?_
        refine lv_istore_n (lv' := [(3, .int (nI 0)), (2, .int (N u)), (0, .ref k), (1, .int (nI u))]) hx hb d_SK_findBlocks_23 rfl hl (by decide) rfl (fun ls hl => ?_)
        have L24_4 : ∀ (n : Nat) (L : Nat → Nat → Prop) (S2 : Nat → Int64) (z : Nat) (lf : Int32) (j : Nat) (hn : 14 - j < n) (hj : j ≤ 14) (hJ : fbJ T F G N L u lf j) (hGP : GPI L S2 z) (H : Heap) (locs : List Loc) (hP : va_P (dC, dI) cls [(k, .inr (2, [.ref nr, .ref fr, .ref rs, .ref at_, .ref h, .int al, .long br])), (nr, .inl (cI, 14, .inl N)), (at_, .inl (cJ, 14, .inr (.inl A))), (h, .inr (3, [.ref b1, .int (nI z)])), (b1, .inl (cJ, 41, .inr (.inl S2)))] H) (hD : va_D (ow [(k, .inr (2, [.ref nr, .ref fr, .ref rs, .ref at_, .ref h, .int al, .long br])), (nr, .inl (cI, 14, .inl N)), (at_, .inl (cJ, 14, .inr (.inl A))), (h, .inr (3, [.ref b1, .int zi])), (b1, .inl (cJ, 41, .inr (.inl Se)))]) [(k, .inr (2, [.ref nr, .ref fr, .ref rs, .ref at_, .ref h, .int al, .long br])), (nr, .inl (cI, 14, .inl N)), (at_, .inl (cJ, 14, .inr (.inl A))), (h, .inr (3, [.ref b1, .int (nI z)])), (b1, .inl (cJ, 41, .inr (.inl S2)))]) (hS : va_S (ow [(k, .inr (2, [.ref nr, .ref fr, .ref rs, .ref at_, .ref h, .int al, .long br])), (nr, .inl (cI, 14, .inl N)), (at_, .inl (cJ, 14, .inr (.inl A))), (h, .inr (3, [.ref b1, .int zi])), (b1, .inl (cJ, 41, .inr (.inl Se)))]) s.heap H locs) (ls : Array Slot) (hl : lv_has ls 5 [(0, .ref k), (1, .int (nI u)), (2, .int lf), (3, .int (nI j))]), W p l e (headSpec (Cond.code ⟨"CutPoints$Sketch", "findBlocks", "()V"⟩ prog_6_method_5_code 5 none :: TT) (rmk 2 48)).room s m ([.ref k] : List Value).toArray below meth c H locs 0 0 (MQ below (va_Qv (S := (Nat → Int64) × Nat) (fun u => GPI (BL T F G) u.1 u.2) (fun u t => va_P (dC, dI) cls ([(k, .inr (2, [.ref nr, .ref fr, .ref rs, .ref at_, .ref h, .int al, .long br])), (nr, .inl (cI, 14, .inl N)), (at_, .inl (cJ, 14, .inr (.inl A))), (h, .inr (3, [.ref b1, .int (nI u.2)])), (b1, .inl (cJ, 41, .inr (.inl u.1)))]) t.heap) (ow [(k, .inr (2, [.ref nr, .ref fr, .ref rs, .ref at_, .ref h, .int al, .long br])), (nr, .inl (cI, 14, .inl N)), (at_, .inl (cJ, 14, .inr (.inl A))), (h, .inr (3, [.ref b1, .int zi])), (b1, .inl (cJ, 41, .inr (.inl Se)))])) ([.ref k] : List Value).toArray s 0 0 (ow [(k, .inr (2, [.ref nr, .ref fr, .ref rs, .ref at_, .ref h, .int al, .long br])), (nr, .inl (cI, 14, .inl N)), (at_, .inl (cJ, 14, .inr (.inl A))), (h, .inr (3, [.ref b1, .int zi])), (b1, .inl (cJ, 41, .inr (.inl Se)))])) (F0 m 24 ls []) := by
          intro n_24
          induction n_24 with
          | zero =>
            intro L S2 z lf j hn_24
            exact absurd hn_24 (Nat.not_lt_zero _)
          | succ n_24 ih_24 =>
            intro L S2 z lf j hn_24 hj hJ hGP H locs hP hD hS ls hl
            refine lv_iload_n hx hb d_SK_findBlocks_24 rfl (lv_at hl 3 rfl) ?_
            refine lv_bipush (v := (nI 14)) hx hb d_SK_findBlocks_25 (by decide) ?_
            refine x_cmp_ge (a := j) (b := 14) (tgt := 92) hx hb (by omega) (by omega) d_SK_findBlocks_27 (by decide) (fun c_5 => ?_) (fun c_5 => ?_)
            · skip
              refine lv_iinc (v := (nI (u + 1))) (lv' := [(1, .int (nI (u + 1))), (0, .ref k), (2, .int lf), (3, .int (nI j))]) hx hb d_SK_findBlocks_92 hl (k := 1) rfl (nI_1 _) (by decide) rfl (fun ls hl => ?_)
              refine lv_goto (tgt := 9) hx hb d_SK_findBlocks_95 (by decide) ?_
              exact ih_9 L S2 z (u + 1) (by omega) (by first | assumption | omega) (fbO_n hGr hN (by assumption) hJ (by assumption)) hGP _ _ hP hD hS ls (lv_sub hl [1, 0] rfl)
            · skip
              refine lv_iload_n hx hb d_SK_findBlocks_30 rfl (lv_at hl 2 rfl) ?_
              refine lv_i2l (v := lf.toInt64) hx hb d_SK_findBlocks_31 rfl ?_
              refine lv_iload_n hx hb d_SK_findBlocks_32 rfl (lv_at hl 3 rfl) ?_
              refine vp_callSi (va_Run.run (k_SN (n := 2) (rest := []) ⟨hx, hb, hml, hown, hts⟩ (c_CP_hasBit l dC dI cI cJ cZ lf.toInt64 j (by first | assumption | omega)) hK wmn_SK_68 wst_CP_hasBit wini_CP wcode_CP_hasBit (by decide +kernel) ⟨Nat.le_of_ble_eq_true rfl, Nat.le_of_ble_eq_true rfl⟩ (pre_R (hP.sub (ws' := []) [] rfl) hK) rfl hl.1 rfl (Nat.le_of_ble_eq_true rfl) d_SK_findBlocks_33 ⟨Nat.zero_le _, Nat.zero_le _⟩)) (fun r_6 hr_7 => ?_)
              refine xe_i (y := (bI (lb lf.toInt64 j))) hr_7 ?_
              refine xe_i (y := (bI (bt lf j))) (by rw [lb_i2l _ (by omega)]) ?_
              refine x_if_eq (tgt := 86) hx hb d_SK_findBlocks_36 (by decide) (fun c_8 => ?_) (fun c_8 => ?_)
              · skip
                refine lv_iinc (v := (nI (j + 1))) (lv' := [(3, .int (nI (j + 1))), (0, .ref k), (1, .int (nI u)), (2, .int lf)]) hx hb d_SK_findBlocks_86 hl (k := 3) rfl (nI_1 _) (by decide) rfl (fun ls hl => ?_)
                refine lv_goto (tgt := 24) hx hb d_SK_findBlocks_89 (by decide) ?_
                exact ih_24 _ S2 z lf (j + 1) (by omega) (by first | assumption | omega) (fbJ_f hJ c_8) hGP _ _ hP hD hS ls (lv_sub hl [1, 2, 3, 0] rfl)
              · skip
                refine lv_aload_n hx hb d_SK_findBlocks_39 rfl (lv_at hl 0 rfl) ?_
                refine va_get (D := (dC, dI)) (ci := 2) (v := .ref nr) (C := R_SK) (T := F_SK) (N := 7) hx hb hts in_SK hown hK.1 hP 0 rfl rfl 0 (by decide) (hts _ wfl_SK_9) (fun _ h9 => h9) rfl d_SK_findBlocks_40 ?_
                refine lv_iload_n hx hb d_SK_findBlocks_43 rfl (lv_at hl 3 rfl) ?_
                refine lv_aload_n hx hb d_SK_findBlocks_44 rfl (lv_at hl 0 rfl) ?_
                refine va_get (D := (dC, dI)) (ci := 2) (v := .int al) (C := R_SK) (T := F_SK) (N := 7) hx hb hts in_SK hown hK.1 hP 0 rfl rfl 5 (by decide) (hts _ wfl_SK_38) (fun _ h9 => h9) rfl d_SK_findBlocks_45 ?_
                refine lv_iconst (v := (nI 1)) hx hb d_SK_findBlocks_48 (by decide) ?_
                refine lv_iload_n hx hb d_SK_findBlocks_49 rfl (lv_at hl 1 rfl) ?_
                refine lv_ishl hx hb d_SK_findBlocks_50 ?_
                refine xe_i (y := (sb u)) rfl ?_
                refine lv_iconst (v := (-1)) hx hb d_SK_findBlocks_51 (by decide) ?_
                refine lv_ixor hx hb d_SK_findBlocks_52 ?_
                refine lv_iand hx hb d_SK_findBlocks_53 ?_
                refine vp_callSi (va_Run.run (k_SN (n := 3) (rest := []) ⟨hx, hb, hml, hown, hts⟩ (c_CP_spread l dC dI cI cJ cZ nr N j (al &&& ((sb u) ^^^ (-1))) (by first | assumption | omega) (rE_lt hGr.1 (WX_one hGr.1 hal (by assumption)))) hK wmn_SK_84 wst_CP_spread wini_CP wcode_CP_spread (by decide +kernel) ⟨Nat.le_of_ble_eq_true rfl, Nat.le_of_ble_eq_true rfl⟩ (pre_R (hP.sub (ws' := [(nr, .inl (cI, 14, .inl N))]) [1] rfl) hK) rfl hl.1 rfl (Nat.le_of_ble_eq_true rfl) d_SK_findBlocks_54 ⟨Nat.zero_le _, Nat.zero_le _⟩)) (fun r_9 hr_10 => ?_)
                refine lv_istore (lv' := [(4, .int r_9), (0, .ref k), (1, .int (nI u)), (2, .int lf), (3, .int (nI j))]) hx hb d_SK_findBlocks_57 hl (by decide) rfl (fun ls hl => ?_)
                refine lv_aload_n hx hb d_SK_findBlocks_59 rfl (lv_at hl 1 rfl) ?_
                refine va_get (D := (dC, dI)) (ci := 2) (v := .ref h) (C := R_SK) (T := F_SK) (N := 7) hx hb hts in_SK hown hK.1 hP 0 rfl rfl 4 (by decide) (hts _ wfl_SK_28) (fun _ h9 => h9) rfl d_SK_findBlocks_60 ?_
                refine lv_aload_n hx hb d_SK_findBlocks_63 rfl (lv_at hl 1 rfl) ?_
                refine va_get (D := (dC, dI)) (ci := 2) (v := .ref at_) (C := R_SK) (T := F_SK) (N := 7) hx hb hts in_SK hown hK.1 hP 0 rfl rfl 3 (by decide) (hts _ wfl_SK_21) (fun _ h9 => h9) rfl d_SK_findBlocks_64 ?_
                refine lv_iload_n hx hb d_SK_findBlocks_67 rfl (lv_at hl 2 rfl) ?_
                refine x_lald (n := 14) (f := A) (j := u) hx hb hK.1 hP 2 1 rfl rfl (by omega) (by omega) d_SK_findBlocks_68 ?_
                refine lv_aload_n hx hb d_SK_findBlocks_69 rfl (lv_at hl 1 rfl) ?_
                refine lv_iload hx hb d_SK_findBlocks_70 (lv_at hl 0 rfl) ?_
                refine vp_callSl (va_Run.run (k_V (n := 1) (C := R_SK) (rest := [.long (A u), .ref h]) ⟨hx, hb, hml, hown, hts⟩ (c_SK_arcsAt l dC dI cI cJ cZ k nr fr rs at_ h al br A r_9) wml_SK_88 wim_SK_arcsAt wsel_SK_arcsAt wini_SK wcode_SK_arcsAt (by decide +kernel) ⟨Nat.le_of_ble_eq_true rfl, Nat.le_of_ble_eq_true rfl⟩ (preV_R (q := (R_SK, F_SK, 7)) (ci := 2) (q0 := 0) (hP.sub (ws' := [(k, .inr (2, [.ref nr, .ref fr, .ref rs, .ref at_, .ref h, .int al, .long br])), (at_, .inl (cJ, 14, .inr (.inl A)))]) [0, 2] rfl) hK rfl rfl) rfl hl.1 rfl (Nat.le_of_ble_eq_true rfl) d_SK_findBlocks_72 ⟨Nat.zero_le _, Nat.zero_le _⟩)) (fun r_11 hr_12 => ?_)
                refine lv_land hx hb d_SK_findBlocks_75 ?_
                refine x_cv (k_V (n := 1) (C := R_GP) (rest := []) ⟨hx, hb, hml, hown, hts⟩ (c_GP_join l dC dI cI cJ cZ h b1 z S2 ((A u) &&& r_11) L hJ.1.1 hGP (fun e he => by obtain ⟨_, h9, _⟩ := (fb_so hGr hN hA hal (by assumption) (hJ.2.1 _ (by assumption)).1 hr_10 hr_12 e).mp he; exact h9)) wml_SK_92 wim_GP_join wsel_GP_join wini_GP wcode_GP_join (by decide +kernel) ⟨Nat.le_of_ble_eq_true rfl, Nat.le_of_ble_eq_true rfl⟩ (preV_M (q := (R_GP, F_GP, 2)) (ci := 3) (q0 := 0) (hP.sub (ws' := [(h, .inr (3, [.ref b1, .int (nI z)])), (b1, .inl (cJ, 41, .inr (.inl S2)))]) [3, 4] rfl) hK (hD.sub (ws' := [(h, .inr (3, [.ref b1, .int (nI z)])), (b1, .inl (cJ, 41, .inr (.inl S2)))]) [3, 4] (by decide) rfl) rfl rfl) rfl hl.1 rfl (Nat.le_of_ble_eq_true rfl) d_SK_findBlocks_76 ⟨Nat.zero_le _, Nat.zero_le _⟩) hP hD hS [3, 4] rfl (fun _ => rfl) (fun u_13 H locs hu_13 hP hS => ?_)
                obtain ⟨S9_13, z9_13⟩ := u_13
                have hP : va_P (dC, dI) cls [(k, .inr (2, [.ref nr, .ref fr, .ref rs, .ref at_, .ref h, .int al, .long br])), (nr, .inl (cI, 14, .inl N)), (at_, .inl (cJ, 14, .inr (.inl A))), (h, .inr (3, [.ref b1, .int (nI z9_13)])), (b1, .inl (cJ, 41, .inr (.inl S9_13)))] H := hP
                have hD := hD.addr (ws' := [(k, .inr (2, [.ref nr, .ref fr, .ref rs, .ref at_, .ref h, .int al, .long br])), (nr, .inl (cI, 14, .inl N)), (at_, .inl (cJ, 14, .inr (.inl A))), (h, .inr (3, [.ref b1, .int (nI z9_13)])), (b1, .inl (cJ, 41, .inr (.inl S9_13)))]) rfl
                refine lv_iload_n hx hb d_SK_findBlocks_79 rfl (lv_at hl 3 rfl) ?_
                refine lv_iload hx hb d_SK_findBlocks_80 (lv_at hl 0 rfl) ?_
                refine lv_iconst (v := (-1)) hx hb d_SK_findBlocks_82 (by decide) ?_
                refine lv_ixor hx hb d_SK_findBlocks_83 ?_
                refine lv_iand hx hb d_SK_findBlocks_84 ?_
                refine lv_istore_n (lv' := [(2, .int (lf &&& (r_9 ^^^ (-1)))), (4, .int r_9), (0, .ref k), (1, .int (nI u)), (3, .int (nI j))]) hx hb d_SK_findBlocks_85 rfl hl (by decide) rfl (fun ls hl => ?_)
                refine lv_iinc (v := (nI (j + 1))) (lv' := [(3, .int (nI (j + 1))), (2, .int (lf &&& (r_9 ^^^ (-1)))), (4, .int r_9), (0, .ref k), (1, .int (nI u))]) hx hb d_SK_findBlocks_86 hl (k := 4) rfl (nI_1 _) (by decide) rfl (fun ls hl => ?_)
                refine lv_goto (tgt := 24) hx hb d_SK_findBlocks_89 (by decide) ?_
                exact ih_24 _ S9_13 z9_13 (lf &&& (r_9 ^^^ (-1))) (j + 1) (by omega) (by first | assumption | omega) (fbJ_t hGr hN hA hal (by assumption) hJ c_8 hr_10 hr_12) hu_13 _ _ hP hD hS ls (lv_sub hl [3, 4, 1, 0] rfl)
        exact L24_4 ((14 - 0) + 1) L S2 z (N u) 0 (Nat.lt_succ_self _) (by first | assumption | omega) (fbJ_0 hO) hGP _ _ hP hD hS ls (lv_sub hl [2, 3, 1, 0] rfl)
  exact L9_2 ((14 - 0) + 1) (fun _ _ => False) Se 0 0 (Nat.lt_succ_self _) (by first | assumption | omega) (fbO_0 T F G) (GPI_0 _) _ _ hP hD hS ls (lv_sub hl [1, 0] rfl)
