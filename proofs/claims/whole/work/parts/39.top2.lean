theorem d_CP_redraw_0 : decode prog_1_method_21_code 0 = .ok (.aload_n 0, 1) := by decide +kernel
theorem d_CP_redraw_1 : decode prog_1_method_21_code 1 = .ok (.getfield 19, 3) := by decide +kernel
theorem d_CP_redraw_4 : decode prog_1_method_21_code 4 = .ok (.aload_n 0, 1) := by decide +kernel
theorem d_CP_redraw_5 : decode prog_1_method_21_code 5 = .ok (.getfield 12, 3) := by decide +kernel
theorem d_CP_redraw_8 : decode prog_1_method_21_code 8 = .ok (.aload_n 0, 1) := by decide +kernel
theorem d_CP_redraw_9 : decode prog_1_method_21_code 9 = .ok (.getfield 12, 3) := by decide +kernel
theorem d_CP_redraw_12 : decode prog_1_method_21_code 12 = .ok (.getfield 54, 3) := by decide +kernel
theorem d_CP_redraw_15 : decode prog_1_method_21_code 15 = .ok (.invokevirtual 166, 3) := by decide +kernel
theorem d_CP_redraw_18 : decode prog_1_method_21_code 18 = .ok (.return_, 1) := by decide +kernel
set_option maxHeartbeats 4000000 in
set_option maxRecDepth 100000 in
theorem c_CP_redraw (l : Launch) (dC : Nat → ClassId) (dI : Nat → Nat → Nat) (cI cJ cZ : ClassId) (cp g k k2 fl co sp : Nat) (a1 a2 nd ar : Nat) (pr : Int64) (F G : Nat → Nat) (hF : ∀ k, F k < 14) (hG : ∀ k, G k < 14) (hGr : GOK (lb pr) F G nd) (nr fr rs at_ h : Nat) (al0 : Int32) (br0 : Int64) (N0 Fm0 : Nat → Int32) (A0 : Nat → Int64) (b1 : Nat) (zi : Int32) (S0 : Nat → Int64) : Met l ⟨"CutPoints", "redraw", "()V"⟩ (Cond.code ⟨"CutPoints", "redraw", "()V"⟩ prog_1_method_21_code 1 none :: TT) (rmk 4 95) (PM dC dI cI cJ cZ [.ref cp] [(cp, .inr (0, [.ref g, .ref k, .ref k2, .ref fl, .ref co, .ref sp])), (g, .inr (1, [.ref a1, .ref a2, .int (nI nd), .int (nI ar), .long pr])), (a1, .inl (cI, 41, .inl (nF F))), (a2, .inl (cI, 41, .inl (nF G))), (k, .inr (2, [.ref nr, .ref fr, .ref rs, .ref at_, .ref h, .int al0, .long br0])), (nr, .inl (cI, 14, .inl N0)), (fr, .inl (cI, 14, .inl Fm0)), (at_, .inl (cJ, 14, .inr (.inl A0))), (h, .inr (3, [.ref b1, .int zi])), (b1, .inl (cJ, 41, .inr (.inl S0)))]) (va_Qv (S := (Nat → Int32) × (Nat → Int32) × (Nat → Int64) × (Nat → Int64) × Nat × Int32 × Int64) (fun u9 => SKI (lb pr) F G nd u9.1 u9.2.1 u9.2.2.1 u9.2.2.2.1 u9.2.2.2.2.1 u9.2.2.2.2.2.1 u9.2.2.2.2.2.2) (fun u9 t9 => va_P (dC, dI) cls ([(cp, .inr (0, [.ref g, .ref k, .ref k2, .ref fl, .ref co, .ref sp])), (g, .inr (1, [.ref a1, .ref a2, .int (nI nd), .int (nI ar), .long pr])), (a1, .inl (cI, 41, .inl (nF F))), (a2, .inl (cI, 41, .inl (nF G))), (k, .inr (2, [.ref nr, .ref fr, .ref rs, .ref at_, .ref h, .int u9.2.2.2.2.2.1, .long u9.2.2.2.2.2.2])), (nr, .inl (cI, 14, .inl u9.1)), (fr, .inl (cI, 14, .inl u9.2.1)), (at_, .inl (cJ, 14, .inr (.inl u9.2.2.1))), (h, .inr (3, [.ref b1, .int (nI u9.2.2.2.2.1)])), (b1, .inl (cJ, 41, .inr (.inl u9.2.2.2.1)))]) t9.heap) (ow [(cp, .inr (0, [.ref g, .ref k, .ref k2, .ref fl, .ref co, .ref sp])), (g, .inr (1, [.ref a1, .ref a2, .int (nI nd), .int (nI ar), .long pr])), (a1, .inl (cI, 41, .inl (nF F))), (a2, .inl (cI, 41, .inl (nF G))), (k, .inr (2, [.ref nr, .ref fr, .ref rs, .ref at_, .ref h, .int al0, .long br0])), (nr, .inl (cI, 14, .inl N0)), (fr, .inl (cI, 14, .inl Fm0)), (at_, .inl (cJ, 14, .inr (.inl A0))), (h, .inr (3, [.ref b1, .int zi])), (b1, .inl (cJ, 41, .inr (.inl S0)))])) 0 0 (ow [(cp, .inr (0, [.ref g, .ref k, .ref k2, .ref fl, .ref co, .ref sp])), (g, .inr (1, [.ref a1, .ref a2, .int (nI nd), .int (nI ar), .long pr])), (a1, .inl (cI, 41, .inl (nF F))), (a2, .inl (cI, 41, .inl (nF G))), (k, .inr (2, [.ref nr, .ref fr, .ref rs, .ref at_, .ref h, .int al0, .long br0])), (nr, .inl (cI, 14, .inl N0)), (fr, .inl (cI, 14, .inl Fm0)), (at_, .inl (cJ, 14, .inr (.inl A0))), (h, .inr (3, [.ref b1, .int zi])), (b1, .inl (cJ, 41, .inr (.inl S0)))]) := by
  refine Met.ofW (cc := prog_1_method_21_code) (maxL := 1) (ret := none) (by decide) rfl ?_
  intro p e s m args below meth c s₁ BB9 hml hv
  obtain ⟨rfl, hP, hK, hD0⟩ := hv
  have hx := BB9.exec
  have hb := BB9.bytes
  have hr := BB9.returns
  have hts : ∀ w ∈ TT, w.before _ s = true := fun w h => atoms_spec (ws := (Cond.code ⟨"CutPoints", "redraw", "()V"⟩ prog_1_method_21_code 1 none :: TT)) BB9.pre w (List.mem_cons_of_mem _ h)
  have hown : s.vm.findClass "CutPoints" = some m.cls := findClass_of_methodNamed BB9.named
  have hlocks := BB9.notSynchronized
  have hD := hD0.mine
  have hS : va_S (ow [(cp, .inr (0, [.ref g, .ref k, .ref k2, .ref fl, .ref co, .ref sp])), (g, .inr (1, [.ref a1, .ref a2, .int (nI nd), .int (nI ar), .long pr])), (a1, .inl (cI, 41, .inl (nF F))), (a2, .inl (cI, 41, .inl (nF G))), (k, .inr (2, [.ref nr, .ref fr, .ref rs, .ref at_, .ref h, .int al0, .long br0])), (nr, .inl (cI, 14, .inl N0)), (fr, .inl (cI, 14, .inl Fm0)), (at_, .inl (cJ, 14, .inr (.inl A0))), (h, .inr (3, [.ref b1, .int zi])), (b1, .inl (cJ, 41, .inr (.inl S0)))]) s.heap s.heap [] := va_S.rf
  have hl := lv_entry ([.ref cp]) (n := 1) (Nat.le_of_ble_eq_true rfl)
  rw [lg_entry_eq]
  generalize (lg_sl ([.ref cp]) ++ List.replicate (1 - (lg_sl ([.ref cp])).length) Slot.unset).toArray = ls at hl ⊢
  have hl : lv_has ls 1 [(0, .ref cp)] := hl
  refine lv_aload_n hx hb d_CP_redraw_0 rfl (lv_at hl 0 rfl) ?_
  refine va_get (D := (dC, dI)) (ci := 0) (v := .ref k) (C := R_CP) (T := F_CP) (N := 6) hx hb hts in_CP hown hK.1 hP 0 rfl rfl 1 (by decide) (hts _ wfl_CP_19) (fun _ h9 => h9) rfl d_CP_redraw_1 ?_
  refine lv_aload_n hx hb d_CP_redraw_4 rfl (lv_at hl 0 rfl) ?_
  refine va_get (D := (dC, dI)) (ci := 0) (v := .ref g) (C := R_CP) (T := F_CP) (N := 6) hx hb hts in_CP hown hK.1 hP 0 rfl rfl 0 (by decide) (hts _ wfl_CP_12) (fun _ h9 => h9) rfl d_CP_redraw_5 ?_
  refine lv_aload_n hx hb d_CP_redraw_8 rfl (lv_at hl 0 rfl) ?_
  refine va_get (D := (dC, dI)) (ci := 0) (v := .ref g) (C := R_CP) (T := F_CP) (N := 6) hx hb hts in_CP hown hK.1 hP 0 rfl rfl 0 (by decide) (hts _ wfl_CP_12) (fun _ h9 => h9) rfl d_CP_redraw_9 ?_
  refine va_get (D := (dC, dI)) (ci := 1) (v := .long pr) (C := R_GR) (T := F_GR) (N := 5) hx hb hts in_GR hown hK.1 hP 1 rfl rfl 4 (by decide) (hts _ wfl_CP_54) (fun _ h9 => h9) rfl d_CP_redraw_12 ?_
  refine x_cv (k_V (n := 2) (C := R_SK) (rest := []) ⟨hx, hb, hml, hown, hts⟩ (c_SK_draw l dC dI cI cJ cZ k nr fr rs at_ h al0 br0 g a1 a2 nd ar pr F G hF hG N0 Fm0 A0 b1 zi S0 pr (by first | assumption | omega)) wml_CP_166 wim_SK_draw wsel_SK_draw wini_SK wcode_SK_draw (by decide +kernel) ⟨Nat.le_of_ble_eq_true rfl, Nat.le_of_ble_eq_true rfl⟩ (preV_M (q := (R_SK, F_SK, 7)) (ci := 2) (q0 := 0) (hP.sub (ws' := [(k, .inr (2, [.ref nr, .ref fr, .ref rs, .ref at_, .ref h, .int al0, .long br0])), (nr, .inl (cI, 14, .inl N0)), (fr, .inl (cI, 14, .inl Fm0)), (at_, .inl (cJ, 14, .inr (.inl A0))), (h, .inr (3, [.ref b1, .int zi])), (b1, .inl (cJ, 41, .inr (.inl S0))), (g, .inr (1, [.ref a1, .ref a2, .int (nI nd), .int (nI ar), .long pr])), (a1, .inl (cI, 41, .inl (nF F))), (a2, .inl (cI, 41, .inl (nF G)))]) [4, 5, 6, 7, 8, 9, 1, 2, 3] rfl) hK (hD.sub (ws' := [(k, .inr (2, [.ref nr, .ref fr, .ref rs, .ref at_, .ref h, .int al0, .long br0])), (nr, .inl (cI, 14, .inl N0)), (fr, .inl (cI, 14, .inl Fm0)), (at_, .inl (cJ, 14, .inr (.inl A0))), (h, .inr (3, [.ref b1, .int zi])), (b1, .inl (cJ, 41, .inr (.inl S0))), (g, .inr (1, [.ref a1, .ref a2, .int (nI nd), .int (nI ar), .long pr])), (a1, .inl (cI, 41, .inl (nF F))), (a2, .inl (cI, 41, .inl (nF G)))]) [4, 5, 6, 7, 8, 9, 1, 2, 3] (by decide) rfl) rfl rfl) rfl hl.1 rfl (Nat.le_of_ble_eq_true rfl) d_CP_redraw_15 ⟨Nat.zero_le _, Nat.zero_le _⟩) hP hD hS [4, 5, 6, 7, 8, 9, 1, 2, 3] rfl (fun _ => rfl) (fun u_1 H locs hu_1 hP hS => ?_)
  obtain ⟨N9_1, Fm9_1, A9_1, S9_1, z9_1, al9_1, br9_1⟩ := u_1
  have hP : va_P (dC, dI) cls [(cp, .inr (0, [.ref g, .ref k, .ref k2, .ref fl, .ref co, .ref sp])), (g, .inr (1, [.ref a1, .ref a2, .int (nI nd), .int (nI ar), .long pr])), (a1, .inl (cI, 41, .inl (nF F))), (a2, .inl (cI, 41, .inl (nF G))), (k, .inr (2, [.ref nr, .ref fr, .ref rs, .ref at_, .ref h, .int al9_1, .long br9_1])), (nr, .inl (cI, 14, .inl N9_1)), (fr, .inl (cI, 14, .inl Fm9_1)), (at_, .inl (cJ, 14, .inr (.inl A9_1))), (h, .inr (3, [.ref b1, .int (nI z9_1)])), (b1, .inl (cJ, 41, .inr (.inl S9_1)))] H := hP
  have hD := hD.addr (ws' := [(cp, .inr (0, [.ref g, .ref k, .ref k2, .ref fl, .ref co, .ref sp])), (g, .inr (1, [.ref a1, .ref a2, .int (nI nd), .int (nI ar), .long pr])), (a1, .inl (cI, 41, .inl (nF F))), (a2, .inl (cI, 41, .inl (nF G))), (k, .inr (2, [.ref nr, .ref fr, .ref rs, .ref at_, .ref h, .int al9_1, .long br9_1])), (nr, .inl (cI, 14, .inl N9_1)), (fr, .inl (cI, 14, .inl Fm9_1)), (at_, .inl (cJ, 14, .inr (.inl A9_1))), (h, .inr (3, [.ref b1, .int (nI z9_1)])), (b1, .inl (cJ, 41, .inr (.inl S9_1)))]) rfl
  exact W.vret hx hb hr (fun t9 ht9 _ => ⟨⟨(N9_1, Fm9_1, A9_1, S9_1, z9_1, al9_1, br9_1), rfl, hu_1, by show va_P (dC, dI) cls _ t9.heap; rw [ht9]; exact hP⟩, hS.F ht9⟩) hS.2.2 d_CP_redraw_18

theorem d_CP_clear_0 : decode prog_1_method_2_code 0 = .ok (.aload_n 0, 1) := by decide +kernel
theorem d_CP_clear_1 : decode prog_1_method_2_code 1 = .ok (.getfield 12, 3) := by decide +kernel
theorem d_CP_clear_4 : decode prog_1_method_2_code 4 = .ok (.iconst 0, 1) := by decide +kernel
theorem d_CP_clear_5 : decode prog_1_method_2_code 5 = .ok (.putfield 47, 3) := by decide +kernel
theorem d_CP_clear_8 : decode prog_1_method_2_code 8 = .ok (.aload_n 0, 1) := by decide +kernel
theorem d_CP_clear_9 : decode prog_1_method_2_code 9 = .ok (.getfield 12, 3) := by decide +kernel
theorem d_CP_clear_12 : decode prog_1_method_2_code 12 = .ok (.iconst 0, 1) := by decide +kernel
theorem d_CP_clear_13 : decode prog_1_method_2_code 13 = .ok (.putfield 51, 3) := by decide +kernel
theorem d_CP_clear_16 : decode prog_1_method_2_code 16 = .ok (.aload_n 0, 1) := by decide +kernel
theorem d_CP_clear_17 : decode prog_1_method_2_code 17 = .ok (.getfield 12, 3) := by decide +kernel
theorem d_CP_clear_20 : decode prog_1_method_2_code 20 = .ok (.lconst 0, 1) := by decide +kernel
theorem d_CP_clear_21 : decode prog_1_method_2_code 21 = .ok (.putfield 54, 3) := by decide +kernel
theorem d_CP_clear_24 : decode prog_1_method_2_code 24 = .ok (.aload_n 0, 1) := by decide +kernel
theorem d_CP_clear_25 : decode prog_1_method_2_code 25 = .ok (.invokevirtual 58, 3) := by decide +kernel
theorem d_CP_clear_28 : decode prog_1_method_2_code 28 = .ok (.return_, 1) := by decide +kernel
set_option maxHeartbeats 4000000 in
set_option maxRecDepth 100000 in
theorem c_CP_clear (l : Launch) (dC : Nat → ClassId) (dI : Nat → Nat → Nat) (cI cJ cZ : ClassId) (cp g k k2 fl co sp : Nat) (a1 a2 nd ar : Nat) (pr : Int64) (F G : Nat → Nat) (hGA : GAR F G nd ar pr) (nr fr rs at_ h : Nat) (al0 : Int32) (br0 : Int64) (N0 Fm0 : Nat → Int32) (A0 : Nat → Int64) (b1 : Nat) (zi : Int32) (S0 : Nat → Int64) : Met l ⟨"CutPoints", "clear", "()V"⟩ (Cond.code ⟨"CutPoints", "clear", "()V"⟩ prog_1_method_2_code 1 none :: TT) (rmk 5 115) (PM dC dI cI cJ cZ [.ref cp] [(cp, .inr (0, [.ref g, .ref k, .ref k2, .ref fl, .ref co, .ref sp])), (g, .inr (1, [.ref a1, .ref a2, .int (nI nd), .int (nI ar), .long pr])), (a1, .inl (cI, 41, .inl (nF F))), (a2, .inl (cI, 41, .inl (nF G))), (k, .inr (2, [.ref nr, .ref fr, .ref rs, .ref at_, .ref h, .int al0, .long br0])), (nr, .inl (cI, 14, .inl N0)), (fr, .inl (cI, 14, .inl Fm0)), (at_, .inl (cJ, 14, .inr (.inl A0))), (h, .inr (3, [.ref b1, .int zi])), (b1, .inl (cJ, 41, .inr (.inl S0)))]) (va_Qv (S := (Nat → Int32) × (Nat → Int32) × (Nat → Int64) × (Nat → Int64) × Nat × Int32 × Int64) (fun u9 => SKI (lb 0) F G 0 u9.1 u9.2.1 u9.2.2.1 u9.2.2.2.1 u9.2.2.2.2.1 u9.2.2.2.2.2.1 u9.2.2.2.2.2.2) (fun u9 t9 => va_P (dC, dI) cls ([(cp, .inr (0, [.ref g, .ref k, .ref k2, .ref fl, .ref co, .ref sp])), (g, .inr (1, [.ref a1, .ref a2, .int (nI 0), .int (nI 0), .long 0])), (a1, .inl (cI, 41, .inl (nF F))), (a2, .inl (cI, 41, .inl (nF G))), (k, .inr (2, [.ref nr, .ref fr, .ref rs, .ref at_, .ref h, .int u9.2.2.2.2.2.1, .long u9.2.2.2.2.2.2])), (nr, .inl (cI, 14, .inl u9.1)), (fr, .inl (cI, 14, .inl u9.2.1)), (at_, .inl (cJ, 14, .inr (.inl u9.2.2.1))), (h, .inr (3, [.ref b1, .int (nI u9.2.2.2.2.1)])), (b1, .inl (cJ, 41, .inr (.inl u9.2.2.2.1)))]) t9.heap) (ow [(cp, .inr (0, [.ref g, .ref k, .ref k2, .ref fl, .ref co, .ref sp])), (g, .inr (1, [.ref a1, .ref a2, .int (nI nd), .int (nI ar), .long pr])), (a1, .inl (cI, 41, .inl (nF F))), (a2, .inl (cI, 41, .inl (nF G))), (k, .inr (2, [.ref nr, .ref fr, .ref rs, .ref at_, .ref h, .int al0, .long br0])), (nr, .inl (cI, 14, .inl N0)), (fr, .inl (cI, 14, .inl Fm0)), (at_, .inl (cJ, 14, .inr (.inl A0))), (h, .inr (3, [.ref b1, .int zi])), (b1, .inl (cJ, 41, .inr (.inl S0)))])) 0 0 (ow [(cp, .inr (0, [.ref g, .ref k, .ref k2, .ref fl, .ref co, .ref sp])), (g, .inr (1, [.ref a1, .ref a2, .int (nI nd), .int (nI ar), .long pr])), (a1, .inl (cI, 41, .inl (nF F))), (a2, .inl (cI, 41, .inl (nF G))), (k, .inr (2, [.ref nr, .ref fr, .ref rs, .ref at_, .ref h, .int al0, .long br0])), (nr, .inl (cI, 14, .inl N0)), (fr, .inl (cI, 14, .inl Fm0)), (at_, .inl (cJ, 14, .inr (.inl A0))), (h, .inr (3, [.ref b1, .int zi])), (b1, .inl (cJ, 41, .inr (.inl S0)))]) := by
  refine Met.ofW (cc := prog_1_method_2_code) (maxL := 1) (ret := none) (by decide) rfl ?_
  intro p e s m args below meth c s₁ BB9 hml hv
  obtain ⟨rfl, hP, hK, hD0⟩ := hv
  have hx := BB9.exec
  have hb := BB9.bytes
  have hr := BB9.returns
  have hts : ∀ w ∈ TT, w.before _ s = true := fun w h => atoms_spec (ws := (Cond.code ⟨"CutPoints", "clear", "()V"⟩ prog_1_method_2_code 1 none :: TT)) BB9.pre w (List.mem_cons_of_mem _ h)
  have hown : s.vm.findClass "CutPoints" = some m.cls := findClass_of_methodNamed BB9.named
  have hlocks := BB9.notSynchronized
  have hD := hD0.mine
  have hS : va_S (ow [(cp, .inr (0, [.ref g, .ref k, .ref k2, .ref fl, .ref co, .ref sp])), (g, .inr (1, [.ref a1, .ref a2, .int (nI nd), .int (nI ar), .long pr])), (a1, .inl (cI, 41, .inl (nF F))), (a2, .inl (cI, 41, .inl (nF G))), (k, .inr (2, [.ref nr, .ref fr, .ref rs, .ref at_, .ref h, .int al0, .long br0])), (nr, .inl (cI, 14, .inl N0)), (fr, .inl (cI, 14, .inl Fm0)), (at_, .inl (cJ, 14, .inr (.inl A0))), (h, .inr (3, [.ref b1, .int zi])), (b1, .inl (cJ, 41, .inr (.inl S0)))]) s.heap s.heap [] := va_S.rf
  have hl := lv_entry ([.ref cp]) (n := 1) (Nat.le_of_ble_eq_true rfl)
  rw [lg_entry_eq]
  generalize (lg_sl ([.ref cp]) ++ List.replicate (1 - (lg_sl ([.ref cp])).length) Slot.unset).toArray = ls at hl ⊢
  have hl : lv_has ls 1 [(0, .ref cp)] := hl
  refine lv_aload_n hx hb d_CP_clear_0 rfl (lv_at hl 0 rfl) ?_
  refine va_get (D := (dC, dI)) (ci := 0) (v := .ref g) (C := R_CP) (T := F_CP) (N := 6) hx hb hts in_CP hown hK.1 hP 0 rfl rfl 0 (by decide) (hts _ wfl_CP_12) (fun _ h9 => h9) rfl d_CP_clear_1 ?_
  refine lv_iconst (v := (nI 0)) hx hb d_CP_clear_4 (by decide) ?_
  refine va_put (D := (dC, dI)) (ci := 1) (v := .int (nI 0)) (ty := .int) (C := R_GR) (T := F_GR) (N := 5) hx hb hts in_GR t_GR t_GR_ok n_GR hown hK.1 hP hD hS 1 rfl rfl 2 (by decide) (hts _ wfl_CP_47) (fun _ h9 => h9) rfl (by decide +kernel) rfl rfl (Nat.le_of_ble_eq_true rfl) d_CP_clear_5 (fun H locs hP hD hS => ?_)
  have hP : va_P (dC, dI) cls [(cp, .inr (0, [.ref g, .ref k, .ref k2, .ref fl, .ref co, .ref sp])), (g, .inr (1, [.ref a1, .ref a2, .int (nI 0), .int (nI ar), .long pr])), (a1, .inl (cI, 41, .inl (nF F))), (a2, .inl (cI, 41, .inl (nF G))), (k, .inr (2, [.ref nr, .ref fr, .ref rs, .ref at_, .ref h, .int al0, .long br0])), (nr, .inl (cI, 14, .inl N0)), (fr, .inl (cI, 14, .inl Fm0)), (at_, .inl (cJ, 14, .inr (.inl A0))), (h, .inr (3, [.ref b1, .int zi])), (b1, .inl (cJ, 41, .inr (.inl S0)))] H := hP
  have hD : va_D (ow [(cp, .inr (0, [.ref g, .ref k, .ref k2, .ref fl, .ref co, .ref sp])), (g, .inr (1, [.ref a1, .ref a2, .int (nI nd), .int (nI ar), .long pr])), (a1, .inl (cI, 41, .inl (nF F))), (a2, .inl (cI, 41, .inl (nF G))), (k, .inr (2, [.ref nr, .ref fr, .ref rs, .ref at_, .ref h, .int al0, .long br0])), (nr, .inl (cI, 14, .inl N0)), (fr, .inl (cI, 14, .inl Fm0)), (at_, .inl (cJ, 14, .inr (.inl A0))), (h, .inr (3, [.ref b1, .int zi])), (b1, .inl (cJ, 41, .inr (.inl S0)))]) [(cp, .inr (0, [.ref g, .ref k, .ref k2, .ref fl, .ref co, .ref sp])), (g, .inr (1, [.ref a1, .ref a2, .int (nI 0), .int (nI ar), .long pr])), (a1, .inl (cI, 41, .inl (nF F))), (a2, .inl (cI, 41, .inl (nF G))), (k, .inr (2, [.ref nr, .ref fr, .ref rs, .ref at_, .ref h, .int al0, .long br0])), (nr, .inl (cI, 14, .inl N0)), (fr, .inl (cI, 14, .inl Fm0)), (at_, .inl (cJ, 14, .inr (.inl A0))), (h, .inr (3, [.ref b1, .int zi])), (b1, .inl (cJ, 41, .inr (.inl S0)))] := hD
  refine lv_aload_n hx hb d_CP_clear_8 rfl (lv_at hl 0 rfl) ?_
  refine va_get (D := (dC, dI)) (ci := 0) (v := .ref g) (C := R_CP) (T := F_CP) (N := 6) hx hb hts in_CP hown hK.1 hP 0 rfl rfl 0 (by decide) (hts _ wfl_CP_12) (fun _ h9 => h9) rfl d_CP_clear_9 ?_
  refine lv_iconst (v := (nI 0)) hx hb d_CP_clear_12 (by decide) ?_
  refine va_put (D := (dC, dI)) (ci := 1) (v := .int (nI 0)) (ty := .int) (C := R_GR) (T := F_GR) (N := 5) hx hb hts in_GR t_GR t_GR_ok n_GR hown hK.1 hP hD hS 1 rfl rfl 3 (by decide) (hts _ wfl_CP_51) (fun _ h9 => h9) rfl (by decide +kernel) rfl rfl (Nat.le_of_ble_eq_true rfl) d_CP_clear_13 (fun H locs hP hD hS => ?_)
  have hP : va_P (dC, dI) cls [(cp, .inr (0, [.ref g, .ref k, .ref k2, .ref fl, .ref co, .ref sp])), (g, .inr (1, [.ref a1, .ref a2, .int (nI 0), .int (nI 0), .long pr])), (a1, .inl (cI, 41, .inl (nF F))), (a2, .inl (cI, 41, .inl (nF G))), (k, .inr (2, [.ref nr, .ref fr, .ref rs, .ref at_, .ref h, .int al0, .long br0])), (nr, .inl (cI, 14, .inl N0)), (fr, .inl (cI, 14, .inl Fm0)), (at_, .inl (cJ, 14, .inr (.inl A0))), (h, .inr (3, [.ref b1, .int zi])), (b1, .inl (cJ, 41, .inr (.inl S0)))] H := hP
  have hD : va_D (ow [(cp, .inr (0, [.ref g, .ref k, .ref k2, .ref fl, .ref co, .ref sp])), (g, .inr (1, [.ref a1, .ref a2, .int (nI nd), .int (nI ar), .long pr])), (a1, .inl (cI, 41, .inl (nF F))), (a2, .inl (cI, 41, .inl (nF G))), (k, .inr (2, [.ref nr, .ref fr, .ref rs, .ref at_, .ref h, .int al0, .long br0])), (nr, .inl (cI, 14, .inl N0)), (fr, .inl (cI, 14, .inl Fm0)), (at_, .inl (cJ, 14, .inr (.inl A0))), (h, .inr (3, [.ref b1, .int zi])), (b1, .inl (cJ, 41, .inr (.inl S0)))]) [(cp, .inr (0, [.ref g, .ref k, .ref k2, .ref fl, .ref co, .ref sp])), (g, .inr (1, [.ref a1, .ref a2, .int (nI 0), .int (nI 0), .long pr])), (a1, .inl (cI, 41, .inl (nF F))), (a2, .inl (cI, 41, .inl (nF G))), (k, .inr (2, [.ref nr, .ref fr, .ref rs, .ref at_, .ref h, .int al0, .long br0])), (nr, .inl (cI, 14, .inl N0)), (fr, .inl (cI, 14, .inl Fm0)), (at_, .inl (cJ, 14, .inr (.inl A0))), (h, .inr (3, [.ref b1, .int zi])), (b1, .inl (cJ, 41, .inr (.inl S0)))] := hD
  refine lv_aload_n hx hb d_CP_clear_16 rfl (lv_at hl 0 rfl) ?_
  refine va_get (D := (dC, dI)) (ci := 0) (v := .ref g) (C := R_CP) (T := F_CP) (N := 6) hx hb hts in_CP hown hK.1 hP 0 rfl rfl 0 (by decide) (hts _ wfl_CP_12) (fun _ h9 => h9) rfl d_CP_clear_17 ?_
  refine lv_lconst (v := 0) hx hb d_CP_clear_20 rfl ?_
  refine va_put (D := (dC, dI)) (ci := 1) (v := .long 0) (ty := .long) (C := R_GR) (T := F_GR) (N := 5) hx hb hts in_GR t_GR t_GR_ok n_GR hown hK.1 hP hD hS 1 rfl rfl 4 (by decide) (hts _ wfl_CP_54) (fun _ h9 => h9) rfl (by decide +kernel) rfl rfl (Nat.le_of_ble_eq_true rfl) d_CP_clear_21 (fun H locs hP hD hS => ?_)
  have hP : va_P (dC, dI) cls [(cp, .inr (0, [.ref g, .ref k, .ref k2, .ref fl, .ref co, .ref sp])), (g, .inr (1, [.ref a1, .ref a2, .int (nI 0), .int (nI 0), .long 0])), (a1, .inl (cI, 41, .inl (nF F))), (a2, .inl (cI, 41, .inl (nF G))), (k, .inr (2, [.ref nr, .ref fr, .ref rs, .ref at_, .ref h, .int al0, .long br0])), (nr, .inl (cI, 14, .inl N0)), (fr, .inl (cI, 14, .inl Fm0)), (at_, .inl (cJ, 14, .inr (.inl A0))), (h, .inr (3, [.ref b1, .int zi])), (b1, .inl (cJ, 41, .inr (.inl S0)))] H := hP
  have hD : va_D (ow [(cp, .inr (0, [.ref g, .ref k, .ref k2, .ref fl, .ref co, .ref sp])), (g, .inr (1, [.ref a1, .ref a2, .int (nI nd), .int (nI ar), .long pr])), (a1, .inl (cI, 41, .inl (nF F))), (a2, .inl (cI, 41, .inl (nF G))), (k, .inr (2, [.ref nr, .ref fr, .ref rs, .ref at_, .ref h, .int al0, .long br0])), (nr, .inl (cI, 14, .inl N0)), (fr, .inl (cI, 14, .inl Fm0)), (at_, .inl (cJ, 14, .inr (.inl A0))), (h, .inr (3, [.ref b1, .int zi])), (b1, .inl (cJ, 41, .inr (.inl S0)))]) [(cp, .inr (0, [.ref g, .ref k, .ref k2, .ref fl, .ref co, .ref sp])), (g, .inr (1, [.ref a1, .ref a2, .int (nI 0), .int (nI 0), .long 0])), (a1, .inl (cI, 41, .inl (nF F))), (a2, .inl (cI, 41, .inl (nF G))), (k, .inr (2, [.ref nr, .ref fr, .ref rs, .ref at_, .ref h, .int al0, .long br0])), (nr, .inl (cI, 14, .inl N0)), (fr, .inl (cI, 14, .inl Fm0)), (at_, .inl (cJ, 14, .inr (.inl A0))), (h, .inr (3, [.ref b1, .int zi])), (b1, .inl (cJ, 41, .inr (.inl S0)))] := hD
  refine lv_aload_n hx hb d_CP_clear_24 rfl (lv_at hl 0 rfl) ?_
  refine x_cv (k_V (n := 0) (C := R_CP) (rest := []) ⟨hx, hb, hml, hown, hts⟩ (c_CP_redraw l dC dI cI cJ cZ cp g k k2 fl co sp a1 a2 0 0 0 F G (hGA).2.2.2.2.1 (hGA).2.2.2.2.2 (GOK_0 F G) nr fr rs at_ h al0 br0 N0 Fm0 A0 b1 zi S0) wml_CP_58 wim_CP_redraw wsel_CP_redraw wini_CP wcode_CP_redraw (by decide +kernel) ⟨Nat.le_of_ble_eq_true rfl, Nat.le_of_ble_eq_true rfl⟩ (preV_M (q := (R_CP, F_CP, 6)) (ci := 0) (q0 := 0) (hP.sub (ws' := [(cp, .inr (0, [.ref g, .ref k, .ref k2, .ref fl, .ref co, .ref sp])), (g, .inr (1, [.ref a1, .ref a2, .int (nI 0), .int (nI 0), .long 0])), (a1, .inl (cI, 41, .inl (nF F))), (a2, .inl (cI, 41, .inl (nF G))), (k, .inr (2, [.ref nr, .ref fr, .ref rs, .ref at_, .ref h, .int al0, .long br0])), (nr, .inl (cI, 14, .inl N0)), (fr, .inl (cI, 14, .inl Fm0)), (at_, .inl (cJ, 14, .inr (.inl A0))), (h, .inr (3, [.ref b1, .int zi])), (b1, .inl (cJ, 41, .inr (.inl S0)))]) [0, 1, 2, 3, 4, 5, 6, 7, 8, 9] rfl) hK (hD.sub (ws' := [(cp, .inr (0, [.ref g, .ref k, .ref k2, .ref fl, .ref co, .ref sp])), (g, .inr (1, [.ref a1, .ref a2, .int (nI 0), .int (nI 0), .long 0])), (a1, .inl (cI, 41, .inl (nF F))), (a2, .inl (cI, 41, .inl (nF G))), (k, .inr (2, [.ref nr, .ref fr, .ref rs, .ref at_, .ref h, .int al0, .long br0])), (nr, .inl (cI, 14, .inl N0)), (fr, .inl (cI, 14, .inl Fm0)), (at_, .inl (cJ, 14, .inr (.inl A0))), (h, .inr (3, [.ref b1, .int zi])), (b1, .inl (cJ, 41, .inr (.inl S0)))]) [0, 1, 2, 3, 4, 5, 6, 7, 8, 9] (by decide) rfl) rfl rfl) rfl hl.1 rfl (Nat.le_of_ble_eq_true rfl) d_CP_clear_25 ⟨Nat.zero_le _, Nat.zero_le _⟩) hP hD hS [0, 1, 2, 3, 4, 5, 6, 7, 8, 9] rfl (fun _ => rfl) (fun u_1 H locs hu_1 hP hS => ?_)
  obtain ⟨N9_1, Fm9_1, A9_1, S9_1, z9_1, al9_1, br9_1⟩ := u_1
  have hP : va_P (dC, dI) cls [(cp, .inr (0, [.ref g, .ref k, .ref k2, .ref fl, .ref co, .ref sp])), (g, .inr (1, [.ref a1, .ref a2, .int (nI 0), .int (nI 0), .long 0])), (a1, .inl (cI, 41, .inl (nF F))), (a2, .inl (cI, 41, .inl (nF G))), (k, .inr (2, [.ref nr, .ref fr, .ref rs, .ref at_, .ref h, .int al9_1, .long br9_1])), (nr, .inl (cI, 14, .inl N9_1)), (fr, .inl (cI, 14, .inl Fm9_1)), (at_, .inl (cJ, 14, .inr (.inl A9_1))), (h, .inr (3, [.ref b1, .int (nI z9_1)])), (b1, .inl (cJ, 41, .inr (.inl S9_1)))] H := hP
  have hD := hD.addr (ws' := [(cp, .inr (0, [.ref g, .ref k, .ref k2, .ref fl, .ref co, .ref sp])), (g, .inr (1, [.ref a1, .ref a2, .int (nI 0), .int (nI 0), .long 0])), (a1, .inl (cI, 41, .inl (nF F))), (a2, .inl (cI, 41, .inl (nF G))), (k, .inr (2, [.ref nr, .ref fr, .ref rs, .ref at_, .ref h, .int al9_1, .long br9_1])), (nr, .inl (cI, 14, .inl N9_1)), (fr, .inl (cI, 14, .inl Fm9_1)), (at_, .inl (cJ, 14, .inr (.inl A9_1))), (h, .inr (3, [.ref b1, .int (nI z9_1)])), (b1, .inl (cJ, 41, .inr (.inl S9_1)))]) rfl
  exact W.vret hx hb hr (fun t9 ht9 _ => ⟨⟨(N9_1, Fm9_1, A9_1, S9_1, z9_1, al9_1, br9_1), rfl, hu_1, by show va_P (dC, dI) cls _ t9.heap; rw [ht9]; exact hP⟩, hS.F ht9⟩) hS.2.2 d_CP_clear_28

theorem d_CP_node_0 : decode prog_1_method_3_code 0 = .ok (.aload_n 0, 1) := by decide +kernel
theorem d_CP_node_1 : decode prog_1_method_3_code 1 = .ok (.getfield 12, 3) := by decide +kernel
theorem d_CP_node_4 : decode prog_1_method_3_code 4 = .ok (.getfield 47, 3) := by decide +kernel
theorem d_CP_node_7 : decode prog_1_method_3_code 7 = .ok (.bipush 14, 2) := by decide +kernel
theorem d_CP_node_9 : decode prog_1_method_3_code 9 = .ok (.if_icmp .lt 6, 3) := by decide +kernel
theorem d_CP_node_12 : decode prog_1_method_3_code 12 = .ok (.bipush (-4), 2) := by decide +kernel
theorem d_CP_node_14 : decode prog_1_method_3_code 14 = .ok (.ireturn, 1) := by decide +kernel
theorem d_CP_node_15 : decode prog_1_method_3_code 15 = .ok (.aload_n 0, 1) := by decide +kernel
theorem d_CP_node_16 : decode prog_1_method_3_code 16 = .ok (.getfield 12, 3) := by decide +kernel
theorem d_CP_node_19 : decode prog_1_method_3_code 19 = .ok (.getfield 47, 3) := by decide +kernel
theorem d_CP_node_22 : decode prog_1_method_3_code 22 = .ok (.istore_n 1, 1) := by decide +kernel
theorem d_CP_node_23 : decode prog_1_method_3_code 23 = .ok (.aload_n 0, 1) := by decide +kernel
theorem d_CP_node_24 : decode prog_1_method_3_code 24 = .ok (.getfield 12, 3) := by decide +kernel
theorem d_CP_node_27 : decode prog_1_method_3_code 27 = .ok (.iload_n 1, 1) := by decide +kernel
theorem d_CP_node_28 : decode prog_1_method_3_code 28 = .ok (.iconst 1, 1) := by decide +kernel
theorem d_CP_node_29 : decode prog_1_method_3_code 29 = .ok (.iadd, 1) := by decide +kernel
theorem d_CP_node_30 : decode prog_1_method_3_code 30 = .ok (.putfield 47, 3) := by decide +kernel
theorem d_CP_node_33 : decode prog_1_method_3_code 33 = .ok (.aload_n 0, 1) := by decide +kernel
theorem d_CP_node_34 : decode prog_1_method_3_code 34 = .ok (.invokevirtual 58, 3) := by decide +kernel
theorem d_CP_node_37 : decode prog_1_method_3_code 37 = .ok (.iload_n 1, 1) := by decide +kernel
theorem d_CP_node_38 : decode prog_1_method_3_code 38 = .ok (.ireturn, 1) := by decide +kernel
set_option maxHeartbeats 4000000 in
set_option maxRecDepth 100000 in
theorem c_CP_node_f (l : Launch) (dC : Nat → ClassId) (dI : Nat → Nat → Nat) (cI cJ cZ : ClassId) (cp g k k2 fl co sp : Nat) (a1 a2 nd ar : Nat) (pr : Int64) (hnd : nd = 14) : Met l ⟨"CutPoints", "node", "()I"⟩ (Cond.code ⟨"CutPoints", "node", "()I"⟩ prog_1_method_3_code 2 (some .int) :: TT) (rmk 0 0) (PR dC dI cI cJ cZ [.ref cp] [(cp, .inr (0, [.ref g, .ref k, .ref k2, .ref fl, .ref co, .ref sp])), (g, .inr (1, [.ref a1, .ref a2, .int (nI nd), .int (nI ar), .long pr]))]) (vp_Si (fun r => r = -4)) 0 0 (fun _ => False) := by
  refine Met.ofW (cc := prog_1_method_3_code) (maxL := 2) (ret := (some .int)) (by decide) rfl ?_
  intro p e s m args below meth c s₁ BB9 hml hv
  obtain ⟨rfl, hP, hK⟩ := hv
  have hx := BB9.exec
  have hb := BB9.bytes
  have hr := BB9.returns
  have hts : ∀ w ∈ TT, w.before _ s = true := fun w h => atoms_spec (ws := (Cond.code ⟨"CutPoints", "node", "()I"⟩ prog_1_method_3_code 2 (some .int) :: TT)) BB9.pre w (List.mem_cons_of_mem _ h)
  have hown : s.vm.findClass "CutPoints" = some m.cls := findClass_of_methodNamed BB9.named
  have hlocks := BB9.notSynchronized
  have hl := lv_entry ([.ref cp]) (n := 2) (Nat.le_of_ble_eq_true rfl)
  rw [lg_entry_eq]
  generalize (lg_sl ([.ref cp]) ++ List.replicate (2 - (lg_sl ([.ref cp])).length) Slot.unset).toArray = ls at hl ⊢
  have hl : lv_has ls 2 [(0, .ref cp)] := hl
  refine lv_aload_n hx hb d_CP_node_0 rfl (lv_at hl 0 rfl) ?_
  refine va_get (D := (dC, dI)) (ci := 0) (v := .ref g) (C := R_CP) (T := F_CP) (N := 6) hx hb hts in_CP hown hK.1 hP 0 rfl rfl 0 (by decide) (hts _ wfl_CP_12) (fun _ h9 => h9) rfl d_CP_node_1 ?_
  refine va_get (D := (dC, dI)) (ci := 1) (v := .int (nI nd)) (C := R_GR) (T := F_GR) (N := 5) hx hb hts in_GR hown hK.1 hP 1 rfl rfl 2 (by decide) (hts _ wfl_CP_47) (fun _ h9 => h9) rfl d_CP_node_4 ?_
  refine lv_bipush (v := (nI 14)) hx hb d_CP_node_7 (by decide) ?_
  refine x_cmp_lt (a := nd) (b := 14) (tgt := 15) hx hb (by omega) (by omega) d_CP_node_9 (by decide) (fun c_1 => ?_) (fun c_1 => ?_)
  · skip
    omega
  · skip
    refine lv_bipush (v := (-4)) hx hb d_CP_node_12 (by decide) ?_
    exact W.iret (v := (-4)) hx hb hr (fun t9 ht9 _ => ⟨_, rfl, rfl, ht9⟩) t_nil d_CP_node_14

set_option maxHeartbeats 4000000 in
set_option maxRecDepth 100000 in
theorem c_CP_node_k (l : Launch) (dC : Nat → ClassId) (dI : Nat → Nat → Nat) (cI cJ cZ : ClassId) (cp g k k2 fl co sp : Nat) (a1 a2 nd ar : Nat) (pr : Int64) (F G : Nat → Nat) (hGA : GAR F G nd ar pr) (nr fr rs at_ h : Nat) (al0 : Int32) (br0 : Int64) (N0 Fm0 : Nat → Int32) (A0 : Nat → Int64) (b1 : Nat) (zi : Int32) (S0 : Nat → Int64) (hnd : nd < 14) : Met l ⟨"CutPoints", "node", "()I"⟩ (Cond.code ⟨"CutPoints", "node", "()I"⟩ prog_1_method_3_code 2 (some .int) :: TT) (rmk 5 115) (PM dC dI cI cJ cZ [.ref cp] [(cp, .inr (0, [.ref g, .ref k, .ref k2, .ref fl, .ref co, .ref sp])), (g, .inr (1, [.ref a1, .ref a2, .int (nI nd), .int (nI ar), .long pr])), (a1, .inl (cI, 41, .inl (nF F))), (a2, .inl (cI, 41, .inl (nF G))), (k, .inr (2, [.ref nr, .ref fr, .ref rs, .ref at_, .ref h, .int al0, .long br0])), (nr, .inl (cI, 14, .inl N0)), (fr, .inl (cI, 14, .inl Fm0)), (at_, .inl (cJ, 14, .inr (.inl A0))), (h, .inr (3, [.ref b1, .int zi])), (b1, .inl (cJ, 41, .inr (.inl S0)))]) (va_Qi (S := (Nat → Int32) × (Nat → Int32) × (Nat → Int64) × (Nat → Int64) × Nat × Int32 × Int64) (fun r u9 => r = nI nd ∧ SKI (lb pr) F G (nd + 1) u9.1 u9.2.1 u9.2.2.1 u9.2.2.2.1 u9.2.2.2.2.1 u9.2.2.2.2.2.1 u9.2.2.2.2.2.2) (fun u9 t9 => va_P (dC, dI) cls ([(cp, .inr (0, [.ref g, .ref k, .ref k2, .ref fl, .ref co, .ref sp])), (g, .inr (1, [.ref a1, .ref a2, .int (nI (nd + 1)), .int (nI ar), .long pr])), (a1, .inl (cI, 41, .inl (nF F))), (a2, .inl (cI, 41, .inl (nF G))), (k, .inr (2, [.ref nr, .ref fr, .ref rs, .ref at_, .ref h, .int u9.2.2.2.2.2.1, .long u9.2.2.2.2.2.2])), (nr, .inl (cI, 14, .inl u9.1)), (fr, .inl (cI, 14, .inl u9.2.1)), (at_, .inl (cJ, 14, .inr (.inl u9.2.2.1))), (h, .inr (3, [.ref b1, .int (nI u9.2.2.2.2.1)])), (b1, .inl (cJ, 41, .inr (.inl u9.2.2.2.1)))]) t9.heap) (ow [(cp, .inr (0, [.ref g, .ref k, .ref k2, .ref fl, .ref co, .ref sp])), (g, .inr (1, [.ref a1, .ref a2, .int (nI nd), .int (nI ar), .long pr])), (a1, .inl (cI, 41, .inl (nF F))), (a2, .inl (cI, 41, .inl (nF G))), (k, .inr (2, [.ref nr, .ref fr, .ref rs, .ref at_, .ref h, .int al0, .long br0])), (nr, .inl (cI, 14, .inl N0)), (fr, .inl (cI, 14, .inl Fm0)), (at_, .inl (cJ, 14, .inr (.inl A0))), (h, .inr (3, [.ref b1, .int zi])), (b1, .inl (cJ, 41, .inr (.inl S0)))])) 0 0 (ow [(cp, .inr (0, [.ref g, .ref k, .ref k2, .ref fl, .ref co, .ref sp])), (g, .inr (1, [.ref a1, .ref a2, .int (nI nd), .int (nI ar), .long pr])), (a1, .inl (cI, 41, .inl (nF F))), (a2, .inl (cI, 41, .inl (nF G))), (k, .inr (2, [.ref nr, .ref fr, .ref rs, .ref at_, .ref h, .int al0, .long br0])), (nr, .inl (cI, 14, .inl N0)), (fr, .inl (cI, 14, .inl Fm0)), (at_, .inl (cJ, 14, .inr (.inl A0))), (h, .inr (3, [.ref b1, .int zi])), (b1, .inl (cJ, 41, .inr (.inl S0)))]) := by
  refine Met.ofW (cc := prog_1_method_3_code) (maxL := 2) (ret := (some .int)) (by decide) rfl ?_
  intro p e s m args below meth c s₁ BB9 hml hv
  obtain ⟨rfl, hP, hK, hD0⟩ := hv
  have hx := BB9.exec
  have hb := BB9.bytes
  have hr := BB9.returns
  have hts : ∀ w ∈ TT, w.before _ s = true := fun w h => atoms_spec (ws := (Cond.code ⟨"CutPoints", "node", "()I"⟩ prog_1_method_3_code 2 (some .int) :: TT)) BB9.pre w (List.mem_cons_of_mem _ h)
  have hown : s.vm.findClass "CutPoints" = some m.cls := findClass_of_methodNamed BB9.named
  have hlocks := BB9.notSynchronized
  have hD := hD0.mine
  have hS : va_S (ow [(cp, .inr (0, [.ref g, .ref k, .ref k2, .ref fl, .ref co, .ref sp])), (g, .inr (1, [.ref a1, .ref a2, .int (nI nd), .int (nI ar), .long pr])), (a1, .inl (cI, 41, .inl (nF F))), (a2, .inl (cI, 41, .inl (nF G))), (k, .inr (2, [.ref nr, .ref fr, .ref rs, .ref at_, .ref h, .int al0, .long br0])), (nr, .inl (cI, 14, .inl N0)), (fr, .inl (cI, 14, .inl Fm0)), (at_, .inl (cJ, 14, .inr (.inl A0))), (h, .inr (3, [.ref b1, .int zi])), (b1, .inl (cJ, 41, .inr (.inl S0)))]) s.heap s.heap [] := va_S.rf
  have hl := lv_entry ([.ref cp]) (n := 2) (Nat.le_of_ble_eq_true rfl)
  rw [lg_entry_eq]
  generalize (lg_sl ([.ref cp]) ++ List.replicate (2 - (lg_sl ([.ref cp])).length) Slot.unset).toArray = ls at hl ⊢
  have hl : lv_has ls 2 [(0, .ref cp)] := hl
  refine lv_aload_n hx hb d_CP_node_0 rfl (lv_at hl 0 rfl) ?_
  refine va_get (D := (dC, dI)) (ci := 0) (v := .ref g) (C := R_CP) (T := F_CP) (N := 6) hx hb hts in_CP hown hK.1 hP 0 rfl rfl 0 (by decide) (hts _ wfl_CP_12) (fun _ h9 => h9) rfl d_CP_node_1 ?_
  refine va_get (D := (dC, dI)) (ci := 1) (v := .int (nI nd)) (C := R_GR) (T := F_GR) (N := 5) hx hb hts in_GR hown hK.1 hP 1 rfl rfl 2 (by decide) (hts _ wfl_CP_47) (fun _ h9 => h9) rfl d_CP_node_4 ?_
  refine lv_bipush (v := (nI 14)) hx hb d_CP_node_7 (by decide) ?_
  refine x_cmp_lt (a := nd) (b := 14) (tgt := 15) hx hb (by omega) (by omega) d_CP_node_9 (by decide) (fun c_1 => ?_) (fun c_1 => ?_)
  · skip
    refine lv_aload_n hx hb d_CP_node_15 rfl (lv_at hl 0 rfl) ?_
    refine va_get (D := (dC, dI)) (ci := 0) (v := .ref g) (C := R_CP) (T := F_CP) (N := 6) hx hb hts in_CP hown hK.1 hP 0 rfl rfl 0 (by decide) (hts _ wfl_CP_12) (fun _ h9 => h9) rfl d_CP_node_16 ?_
    refine va_get (D := (dC, dI)) (ci := 1) (v := .int (nI nd)) (C := R_GR) (T := F_GR) (N := 5) hx hb hts in_GR hown hK.1 hP 1 rfl rfl 2 (by decide) (hts _ wfl_CP_47) (fun _ h9 => h9) rfl d_CP_node_19 ?_
    refine lv_istore_n (lv' := [(1, .int (nI nd)), (0, .ref cp)]) hx hb d_CP_node_22 rfl hl (by decide) rfl (fun ls hl => ?_)
    refine lv_aload_n hx hb d_CP_node_23 rfl (lv_at hl 1 rfl) ?_
    refine va_get (D := (dC, dI)) (ci := 0) (v := .ref g) (C := R_CP) (T := F_CP) (N := 6) hx hb hts in_CP hown hK.1 hP 0 rfl rfl 0 (by decide) (hts _ wfl_CP_12) (fun _ h9 => h9) rfl d_CP_node_24 ?_
    refine lv_iload_n hx hb d_CP_node_27 rfl (lv_at hl 0 rfl) ?_
    refine lv_iconst (v := (nI 1)) hx hb d_CP_node_28 (by decide) ?_
    refine lv_iadd hx hb d_CP_node_29 ?_
    refine xe_i (nI_add _ _) ?_
    refine va_put (D := (dC, dI)) (ci := 1) (v := .int (nI (nd + 1))) (ty := .int) (C := R_GR) (T := F_GR) (N := 5) hx hb hts in_GR t_GR t_GR_ok n_GR hown hK.1 hP hD hS 1 rfl rfl 2 (by decide) (hts _ wfl_CP_47) (fun _ h9 => h9) rfl (by decide +kernel) rfl rfl (Nat.le_of_ble_eq_true rfl) d_CP_node_30 (fun H locs hP hD hS => ?_)
    have hP : va_P (dC, dI) cls [(cp, .inr (0, [.ref g, .ref k, .ref k2, .ref fl, .ref co, .ref sp])), (g, .inr (1, [.ref a1, .ref a2, .int (nI (nd + 1)), .int (nI ar), .long pr])), (a1, .inl (cI, 41, .inl (nF F))), (a2, .inl (cI, 41, .inl (nF G))), (k, .inr (2, [.ref nr, .ref fr, .ref rs, .ref at_, .ref h, .int al0, .long br0])), (nr, .inl (cI, 14, .inl N0)), (fr, .inl (cI, 14, .inl Fm0)), (at_, .inl (cJ, 14, .inr (.inl A0))), (h, .inr (3, [.ref b1, .int zi])), (b1, .inl (cJ, 41, .inr (.inl S0)))] H := hP
    have hD : va_D (ow [(cp, .inr (0, [.ref g, .ref k, .ref k2, .ref fl, .ref co, .ref sp])), (g, .inr (1, [.ref a1, .ref a2, .int (nI nd), .int (nI ar), .long pr])), (a1, .inl (cI, 41, .inl (nF F))), (a2, .inl (cI, 41, .inl (nF G))), (k, .inr (2, [.ref nr, .ref fr, .ref rs, .ref at_, .ref h, .int al0, .long br0])), (nr, .inl (cI, 14, .inl N0)), (fr, .inl (cI, 14, .inl Fm0)), (at_, .inl (cJ, 14, .inr (.inl A0))), (h, .inr (3, [.ref b1, .int zi])), (b1, .inl (cJ, 41, .inr (.inl S0)))]) [(cp, .inr (0, [.ref g, .ref k, .ref k2, .ref fl, .ref co, .ref sp])), (g, .inr (1, [.ref a1, .ref a2, .int (nI (nd + 1)), .int (nI ar), .long pr])), (a1, .inl (cI, 41, .inl (nF F))), (a2, .inl (cI, 41, .inl (nF G))), (k, .inr (2, [.ref nr, .ref fr, .ref rs, .ref at_, .ref h, .int al0, .long br0])), (nr, .inl (cI, 14, .inl N0)), (fr, .inl (cI, 14, .inl Fm0)), (at_, .inl (cJ, 14, .inr (.inl A0))), (h, .inr (3, [.ref b1, .int zi])), (b1, .inl (cJ, 41, .inr (.inl S0)))] := hD
    refine lv_aload_n hx hb d_CP_node_33 rfl (lv_at hl 1 rfl) ?_
    refine x_cv (k_V (n := 0) (C := R_CP) (rest := []) ⟨hx, hb, hml, hown, hts⟩ (c_CP_redraw l dC dI cI cJ cZ cp g k k2 fl co sp a1 a2 (nd + 1) ar pr F G (hGA).2.2.2.2.1 (hGA).2.2.2.2.2 (GOK_up hGA.ok hnd) nr fr rs at_ h al0 br0 N0 Fm0 A0 b1 zi S0) wml_CP_58 wim_CP_redraw wsel_CP_redraw wini_CP wcode_CP_redraw (by decide +kernel) ⟨Nat.le_of_ble_eq_true rfl, Nat.le_of_ble_eq_true rfl⟩ (preV_M (q := (R_CP, F_CP, 6)) (ci := 0) (q0 := 0) (hP.sub (ws' := [(cp, .inr (0, [.ref g, .ref k, .ref k2, .ref fl, .ref co, .ref sp])), (g, .inr (1, [.ref a1, .ref a2, .int (nI (nd + 1)), .int (nI ar), .long pr])), (a1, .inl (cI, 41, .inl (nF F))), (a2, .inl (cI, 41, .inl (nF G))), (k, .inr (2, [.ref nr, .ref fr, .ref rs, .ref at_, .ref h, .int al0, .long br0])), (nr, .inl (cI, 14, .inl N0)), (fr, .inl (cI, 14, .inl Fm0)), (at_, .inl (cJ, 14, .inr (.inl A0))), (h, .inr (3, [.ref b1, .int zi])), (b1, .inl (cJ, 41, .inr (.inl S0)))]) [0, 1, 2, 3, 4, 5, 6, 7, 8, 9] rfl) hK (hD.sub (ws' := [(cp, .inr (0, [.ref g, .ref k, .ref k2, .ref fl, .ref co, .ref sp])), (g, .inr (1, [.ref a1, .ref a2, .int (nI (nd + 1)), .int (nI ar), .long pr])), (a1, .inl (cI, 41, .inl (nF F))), (a2, .inl (cI, 41, .inl (nF G))), (k, .inr (2, [.ref nr, .ref fr, .ref rs, .ref at_, .ref h, .int al0, .long br0])), (nr, .inl (cI, 14, .inl N0)), (fr, .inl (cI, 14, .inl Fm0)), (at_, .inl (cJ, 14, .inr (.inl A0))), (h, .inr (3, [.ref b1, .int zi])), (b1, .inl (cJ, 41, .inr (.inl S0)))]) [0, 1, 2, 3, 4, 5, 6, 7, 8, 9] (by decide) rfl) rfl rfl) rfl hl.1 rfl (Nat.le_of_ble_eq_true rfl) d_CP_node_34 ⟨Nat.zero_le _, Nat.zero_le _⟩) hP hD hS [0, 1, 2, 3, 4, 5, 6, 7, 8, 9] rfl (fun _ => rfl) (fun u_2 H locs hu_2 hP hS => ?_)
    obtain ⟨N9_2, Fm9_2, A9_2, S9_2, z9_2, al9_2, br9_2⟩ := u_2
    have hP : va_P (dC, dI) cls [(cp, .inr (0, [.ref g, .ref k, .ref k2, .ref fl, .ref co, .ref sp])), (g, .inr (1, [.ref a1, .ref a2, .int (nI (nd + 1)), .int (nI ar), .long pr])), (a1, .inl (cI, 41, .inl (nF F))), (a2, .inl (cI, 41, .inl (nF G))), (k, .inr (2, [.ref nr, .ref fr, .ref rs, .ref at_, .ref h, .int al9_2, .long br9_2])), (nr, .inl (cI, 14, .inl N9_2)), (fr, .inl (cI, 14, .inl Fm9_2)), (at_, .inl (cJ, 14, .inr (.inl A9_2))), (h, .inr (3, [.ref b1, .int (nI z9_2)])), (b1, .inl (cJ, 41, .inr (.inl S9_2)))] H := hP
    have hD := hD.addr (ws' := [(cp, .inr (0, [.ref g, .ref k, .ref k2, .ref fl, .ref co, .ref sp])), (g, .inr (1, [.ref a1, .ref a2, .int (nI (nd + 1)), .int (nI ar), .long pr])), (a1, .inl (cI, 41, .inl (nF F))), (a2, .inl (cI, 41, .inl (nF G))), (k, .inr (2, [.ref nr, .ref fr, .ref rs, .ref at_, .ref h, .int al9_2, .long br9_2])), (nr, .inl (cI, 14, .inl N9_2)), (fr, .inl (cI, 14, .inl Fm9_2)), (at_, .inl (cJ, 14, .inr (.inl A9_2))), (h, .inr (3, [.ref b1, .int (nI z9_2)])), (b1, .inl (cJ, 41, .inr (.inl S9_2)))]) rfl
    refine lv_iload_n hx hb d_CP_node_37 rfl (lv_at hl 0 rfl) ?_
    exact W.iret (v := (nI nd)) hx hb hr (fun t9 ht9 _ => ⟨⟨_, (N9_2, Fm9_2, A9_2, S9_2, z9_2, al9_2, br9_2), rfl, ⟨rfl, hu_2⟩, by show va_P (dC, dI) cls _ t9.heap; rw [ht9]; exact hP⟩, hS.F ht9⟩) hS.2.2 d_CP_node_38
  · skip
    omega

theorem d_CP_pairCode_0 : decode prog_1_method_22_code 0 = .ok (.aload_n 0, 1) := by decide +kernel
theorem d_CP_pairCode_1 : decode prog_1_method_22_code 1 = .ok (.getfield 12, 3) := by decide +kernel
theorem d_CP_pairCode_4 : decode prog_1_method_22_code 4 = .ok (.iload_n 1, 1) := by decide +kernel
theorem d_CP_pairCode_5 : decode prog_1_method_22_code 5 = .ok (.invokevirtual 115, 3) := by decide +kernel
theorem d_CP_pairCode_8 : decode prog_1_method_22_code 8 = .ok (.ifCond .eq 14, 3) := by decide +kernel
theorem d_CP_pairCode_11 : decode prog_1_method_22_code 11 = .ok (.aload_n 0, 1) := by decide +kernel
theorem d_CP_pairCode_12 : decode prog_1_method_22_code 12 = .ok (.getfield 12, 3) := by decide +kernel
theorem d_CP_pairCode_15 : decode prog_1_method_22_code 15 = .ok (.iload_n 2, 1) := by decide +kernel
theorem d_CP_pairCode_16 : decode prog_1_method_22_code 16 = .ok (.invokevirtual 115, 3) := by decide +kernel
theorem d_CP_pairCode_19 : decode prog_1_method_22_code 19 = .ok (.ifCond .ne 5, 3) := by decide +kernel
theorem d_CP_pairCode_22 : decode prog_1_method_22_code 22 = .ok (.iconst (-1), 1) := by decide +kernel
theorem d_CP_pairCode_23 : decode prog_1_method_22_code 23 = .ok (.ireturn, 1) := by decide +kernel
theorem d_CP_pairCode_24 : decode prog_1_method_22_code 24 = .ok (.iload_n 1, 1) := by decide +kernel
theorem d_CP_pairCode_25 : decode prog_1_method_22_code 25 = .ok (.iload_n 2, 1) := by decide +kernel
theorem d_CP_pairCode_26 : decode prog_1_method_22_code 26 = .ok (.if_icmp .ne 8, 3) := by decide +kernel
theorem d_CP_pairCode_29 : decode prog_1_method_22_code 29 = .ok (.bipush (-3), 2) := by decide +kernel
theorem d_CP_pairCode_31 : decode prog_1_method_22_code 31 = .ok (.goto 4, 3) := by decide +kernel
theorem d_CP_pairCode_34 : decode prog_1_method_22_code 34 = .ok (.iconst 0, 1) := by decide +kernel
theorem d_CP_pairCode_35 : decode prog_1_method_22_code 35 = .ok (.ireturn, 1) := by decide +kernel
set_option maxHeartbeats 4000000 in
set_option maxRecDepth 100000 in
theorem c_CP_pairCode (l : Launch) (dC : Nat → ClassId) (dI : Nat → Nat → Nat) (cI cJ cZ : ClassId) (cp g k k2 fl co sp : Nat) (a1 a2 nd ar : Nat) (pr : Int64) (x y : Int32) (hnd41 : nd ≤ 41) : Met l ⟨"CutPoints", "pairCode", "(II)I"⟩ (Cond.code ⟨"CutPoints", "pairCode", "(II)I"⟩ prog_1_method_22_code 3 (some .int) :: TT) (rmk 1 21) (PR dC dI cI cJ cZ [.ref cp, .int x, .int y] [(cp, .inr (0, [.ref g, .ref k, .ref k2, .ref fl, .ref co, .ref sp])), (g, .inr (1, [.ref a1, .ref a2, .int (nI nd), .int (nI ar), .long pr]))]) (vp_Si (fun r => r = pcd x y nd)) 0 0 (fun _ => False) := by
  refine Met.ofW (cc := prog_1_method_22_code) (maxL := 3) (ret := (some .int)) (by decide) rfl ?_
  intro p e s m args below meth c s₁ BB9 hml hv
  obtain ⟨rfl, hP, hK⟩ := hv
  have hx := BB9.exec
  have hb := BB9.bytes
  have hr := BB9.returns
  have hts : ∀ w ∈ TT, w.before _ s = true := fun w h => atoms_spec (ws := (Cond.code ⟨"CutPoints", "pairCode", "(II)I"⟩ prog_1_method_22_code 3 (some .int) :: TT)) BB9.pre w (List.mem_cons_of_mem _ h)
  have hown : s.vm.findClass "CutPoints" = some m.cls := findClass_of_methodNamed BB9.named
  have hlocks := BB9.notSynchronized
  have hl := lv_entry ([.ref cp, .int x, .int y]) (n := 3) (Nat.le_of_ble_eq_true rfl)
  rw [lg_entry_eq]
  generalize (lg_sl ([.ref cp, .int x, .int y]) ++ List.replicate (3 - (lg_sl ([.ref cp, .int x, .int y])).length) Slot.unset).toArray = ls at hl ⊢
  have hl : lv_has ls 3 [(0, .ref cp), (1, .int x), (2, .int y)] := hl
  refine lv_aload_n hx hb d_CP_pairCode_0 rfl (lv_at hl 0 rfl) ?_
  refine va_get (D := (dC, dI)) (ci := 0) (v := .ref g) (C := R_CP) (T := F_CP) (N := 6) hx hb hts in_CP hown hK.1 hP 0 rfl rfl 0 (by decide) (hts _ wfl_CP_12) (fun _ h9 => h9) rfl d_CP_pairCode_1 ?_
  refine lv_iload_n hx hb d_CP_pairCode_4 rfl (lv_at hl 1 rfl) ?_
  refine vp_callSi (va_Run.run (k_V (n := 1) (C := R_GR) (rest := []) ⟨hx, hb, hml, hown, hts⟩ (c_GR_hasNode l dC dI cI cJ cZ g a1 a2 nd ar pr x (by first | assumption | omega)) wml_CP_115 wim_GR_hasNode wsel_GR_hasNode wini_GR wcode_GR_hasNode (by decide +kernel) ⟨Nat.le_of_ble_eq_true rfl, Nat.le_of_ble_eq_true rfl⟩ (preV_R (q := (R_GR, F_GR, 5)) (ci := 1) (q0 := 0) (hP.sub (ws' := [(g, .inr (1, [.ref a1, .ref a2, .int (nI nd), .int (nI ar), .long pr]))]) [1] rfl) hK rfl rfl) rfl hl.1 rfl (Nat.le_of_ble_eq_true rfl) d_CP_pairCode_5 ⟨Nat.zero_le _, Nat.zero_le _⟩)) (fun r_1 hr_2 => ?_)
  refine xe_i (y := (bI (vd x nd))) hr_2 ?_
  refine x_if_eq (tgt := 22) hx hb d_CP_pairCode_8 (by decide) (fun c_3 => ?_) (fun c_3 => ?_)
  · skip
    refine lv_iconst (v := (-1)) hx hb d_CP_pairCode_22 (by decide) ?_
    exact W.iret (v := (-1)) hx hb hr (fun t9 ht9 _ => ⟨_, rfl, (by unfold pcd; rw [c_3]; rfl), ht9⟩) t_nil d_CP_pairCode_23
  · skip
    refine lv_aload_n hx hb d_CP_pairCode_11 rfl (lv_at hl 0 rfl) ?_
    refine va_get (D := (dC, dI)) (ci := 0) (v := .ref g) (C := R_CP) (T := F_CP) (N := 6) hx hb hts in_CP hown hK.1 hP 0 rfl rfl 0 (by decide) (hts _ wfl_CP_12) (fun _ h9 => h9) rfl d_CP_pairCode_12 ?_
    refine lv_iload_n hx hb d_CP_pairCode_15 rfl (lv_at hl 2 rfl) ?_
    refine vp_callSi (va_Run.run (k_V (n := 1) (C := R_GR) (rest := []) ⟨hx, hb, hml, hown, hts⟩ (c_GR_hasNode l dC dI cI cJ cZ g a1 a2 nd ar pr y (by first | assumption | omega)) wml_CP_115 wim_GR_hasNode wsel_GR_hasNode wini_GR wcode_GR_hasNode (by decide +kernel) ⟨Nat.le_of_ble_eq_true rfl, Nat.le_of_ble_eq_true rfl⟩ (preV_R (q := (R_GR, F_GR, 5)) (ci := 1) (q0 := 0) (hP.sub (ws' := [(g, .inr (1, [.ref a1, .ref a2, .int (nI nd), .int (nI ar), .long pr]))]) [1] rfl) hK rfl rfl) rfl hl.1 rfl (Nat.le_of_ble_eq_true rfl) d_CP_pairCode_16 ⟨Nat.zero_le _, Nat.zero_le _⟩)) (fun r_4 hr_5 => ?_)
    refine xe_i (y := (bI (vd y nd))) hr_5 ?_
    refine x_if_ne (tgt := 24) hx hb d_CP_pairCode_19 (by decide) (fun c_6 => ?_) (fun c_6 => ?_)
    · skip
      refine lv_iload_n hx hb d_CP_pairCode_24 rfl (lv_at hl 1 rfl) ?_
      refine lv_iload_n hx hb d_CP_pairCode_25 rfl (lv_at hl 2 rfl) ?_
      refine lv_icmp_ne (tgt := 34) hx hb d_CP_pairCode_26 (by decide) (fun c_7 => ?_) (fun c_7 => ?_)
      · skip
        refine lv_iconst (v := (nI 0)) hx hb d_CP_pairCode_34 (by decide) ?_
        exact W.iret (v := (nI 0)) hx hb hr (fun t9 ht9 _ => ⟨_, rfl, (by show _ = pcd x y nd; unfold pcd; rw [c_3, c_6]; simp [c_7, nI_0]), ht9⟩) t_nil d_CP_pairCode_35
      · skip
        refine lv_bipush (v := (-3)) hx hb d_CP_pairCode_29 (by decide) ?_
        refine lv_goto (tgt := 35) hx hb d_CP_pairCode_31 (by decide) ?_
        exact W.iret (v := (-3)) hx hb hr (fun t9 ht9 _ => ⟨_, rfl, (by show _ = pcd x y nd; unfold pcd; rw [c_3, c_6]; simp [c_7, nI_0]), ht9⟩) t_nil d_CP_pairCode_35
    · skip
      refine lv_iconst (v := (-1)) hx hb d_CP_pairCode_22 (by decide) ?_
      exact W.iret (v := (-1)) hx hb hr (fun t9 ht9 _ => ⟨_, rfl, (by unfold pcd; rw [c_6, Bool.and_false]; rfl), ht9⟩) t_nil d_CP_pairCode_23

theorem d_CP_arc_0 : decode prog_1_method_4_code 0 = .ok (.aload_n 0, 1) := by decide +kernel
theorem d_CP_arc_1 : decode prog_1_method_4_code 1 = .ok (.iload_n 1, 1) := by decide +kernel
theorem d_CP_arc_2 : decode prog_1_method_4_code 2 = .ok (.iload_n 2, 1) := by decide +kernel
theorem d_CP_arc_3 : decode prog_1_method_4_code 3 = .ok (.invokevirtual 61, 3) := by decide +kernel
theorem d_CP_arc_6 : decode prog_1_method_4_code 6 = .ok (.istore_n 3, 1) := by decide +kernel
theorem d_CP_arc_7 : decode prog_1_method_4_code 7 = .ok (.iload_n 3, 1) := by decide +kernel
theorem d_CP_arc_8 : decode prog_1_method_4_code 8 = .ok (.ifCond .eq 5, 3) := by decide +kernel
theorem d_CP_arc_11 : decode prog_1_method_4_code 11 = .ok (.iload_n 3, 1) := by decide +kernel
theorem d_CP_arc_12 : decode prog_1_method_4_code 12 = .ok (.ireturn, 1) := by decide +kernel
theorem d_CP_arc_13 : decode prog_1_method_4_code 13 = .ok (.aload_n 0, 1) := by decide +kernel
theorem d_CP_arc_14 : decode prog_1_method_4_code 14 = .ok (.getfield 12, 3) := by decide +kernel
theorem d_CP_arc_17 : decode prog_1_method_4_code 17 = .ok (.getfield 51, 3) := by decide +kernel
theorem d_CP_arc_20 : decode prog_1_method_4_code 20 = .ok (.bipush 40, 2) := by decide +kernel
theorem d_CP_arc_22 : decode prog_1_method_4_code 22 = .ok (.if_icmp .lt 6, 3) := by decide +kernel
theorem d_CP_arc_25 : decode prog_1_method_4_code 25 = .ok (.bipush (-4), 2) := by decide +kernel
theorem d_CP_arc_27 : decode prog_1_method_4_code 27 = .ok (.ireturn, 1) := by decide +kernel
theorem d_CP_arc_28 : decode prog_1_method_4_code 28 = .ok (.aload_n 0, 1) := by decide +kernel
theorem d_CP_arc_29 : decode prog_1_method_4_code 29 = .ok (.getfield 12, 3) := by decide +kernel
theorem d_CP_arc_32 : decode prog_1_method_4_code 32 = .ok (.getfield 51, 3) := by decide +kernel
theorem d_CP_arc_35 : decode prog_1_method_4_code 35 = .ok (.istore 4, 2) := by decide +kernel
theorem d_CP_arc_37 : decode prog_1_method_4_code 37 = .ok (.aload_n 0, 1) := by decide +kernel
theorem d_CP_arc_38 : decode prog_1_method_4_code 38 = .ok (.getfield 12, 3) := by decide +kernel
theorem d_CP_arc_41 : decode prog_1_method_4_code 41 = .ok (.iload 4, 2) := by decide +kernel
theorem d_CP_arc_43 : decode prog_1_method_4_code 43 = .ok (.iconst 1, 1) := by decide +kernel
theorem d_CP_arc_44 : decode prog_1_method_4_code 44 = .ok (.iadd, 1) := by decide +kernel
theorem d_CP_arc_45 : decode prog_1_method_4_code 45 = .ok (.putfield 51, 3) := by decide +kernel
theorem d_CP_arc_48 : decode prog_1_method_4_code 48 = .ok (.aload_n 0, 1) := by decide +kernel
theorem d_CP_arc_49 : decode prog_1_method_4_code 49 = .ok (.getfield 12, 3) := by decide +kernel
theorem d_CP_arc_52 : decode prog_1_method_4_code 52 = .ok (.iload 4, 2) := by decide +kernel
theorem d_CP_arc_54 : decode prog_1_method_4_code 54 = .ok (.iload_n 1, 1) := by decide +kernel
theorem d_CP_arc_55 : decode prog_1_method_4_code 55 = .ok (.iload_n 2, 1) := by decide +kernel
theorem d_CP_arc_56 : decode prog_1_method_4_code 56 = .ok (.invokevirtual 65, 3) := by decide +kernel
theorem d_CP_arc_59 : decode prog_1_method_4_code 59 = .ok (.aload_n 0, 1) := by decide +kernel
theorem d_CP_arc_60 : decode prog_1_method_4_code 60 = .ok (.getfield 12, 3) := by decide +kernel
theorem d_CP_arc_63 : decode prog_1_method_4_code 63 = .ok (.dup, 1) := by decide +kernel
theorem d_CP_arc_64 : decode prog_1_method_4_code 64 = .ok (.getfield 54, 3) := by decide +kernel
theorem d_CP_arc_67 : decode prog_1_method_4_code 67 = .ok (.lconst 1, 1) := by decide +kernel
theorem d_CP_arc_68 : decode prog_1_method_4_code 68 = .ok (.iload 4, 2) := by decide +kernel
theorem d_CP_arc_70 : decode prog_1_method_4_code 70 = .ok (.lshl, 1) := by decide +kernel
theorem d_CP_arc_71 : decode prog_1_method_4_code 71 = .ok (.lor, 1) := by decide +kernel
theorem d_CP_arc_72 : decode prog_1_method_4_code 72 = .ok (.putfield 54, 3) := by decide +kernel
theorem d_CP_arc_75 : decode prog_1_method_4_code 75 = .ok (.aload_n 0, 1) := by decide +kernel
theorem d_CP_arc_76 : decode prog_1_method_4_code 76 = .ok (.invokevirtual 58, 3) := by decide +kernel
theorem d_CP_arc_79 : decode prog_1_method_4_code 79 = .ok (.iload 4, 2) := by decide +kernel
theorem d_CP_arc_81 : decode prog_1_method_4_code 81 = .ok (.ireturn, 1) := by decide +kernel
set_option maxHeartbeats 4000000 in
set_option maxRecDepth 100000 in
theorem c_CP_arc_b (l : Launch) (dC : Nat → ClassId) (dI : Nat → Nat → Nat) (cI cJ cZ : ClassId) (cp g k k2 fl co sp : Nat) (a1 a2 nd ar : Nat) (pr : Int64) (x y : Int32) (hnd41 : nd ≤ 41) (hbad : (vd x nd && vd y nd) = false) : Met l ⟨"CutPoints", "arc", "(II)I"⟩ (Cond.code ⟨"CutPoints", "arc", "(II)I"⟩ prog_1_method_4_code 5 (some .int) :: TT) (rmk 2 43) (PR dC dI cI cJ cZ [.ref cp, .int x, .int y] [(cp, .inr (0, [.ref g, .ref k, .ref k2, .ref fl, .ref co, .ref sp])), (g, .inr (1, [.ref a1, .ref a2, .int (nI nd), .int (nI ar), .long pr]))]) (vp_Si (fun r => r = -1)) 0 0 (fun _ => False) := by
  refine Met.ofW (cc := prog_1_method_4_code) (maxL := 5) (ret := (some .int)) (by decide) rfl ?_
  intro p e s m args below meth c s₁ BB9 hml hv
  obtain ⟨rfl, hP, hK⟩ := hv
  have hx := BB9.exec
  have hb := BB9.bytes
  have hr := BB9.returns
  have hts : ∀ w ∈ TT, w.before _ s = true := fun w h => atoms_spec (ws := (Cond.code ⟨"CutPoints", "arc", "(II)I"⟩ prog_1_method_4_code 5 (some .int) :: TT)) BB9.pre w (List.mem_cons_of_mem _ h)
  have hown : s.vm.findClass "CutPoints" = some m.cls := findClass_of_methodNamed BB9.named
  have hlocks := BB9.notSynchronized
  have hl := lv_entry ([.ref cp, .int x, .int y]) (n := 5) (Nat.le_of_ble_eq_true rfl)
  rw [lg_entry_eq]
  generalize (lg_sl ([.ref cp, .int x, .int y]) ++ List.replicate (5 - (lg_sl ([.ref cp, .int x, .int y])).length) Slot.unset).toArray = ls at hl ⊢
  have hl : lv_has ls 5 [(0, .ref cp), (1, .int x), (2, .int y)] := hl
  refine lv_aload_n hx hb d_CP_arc_0 rfl (lv_at hl 0 rfl) ?_
  refine lv_iload_n hx hb d_CP_arc_1 rfl (lv_at hl 1 rfl) ?_
  refine lv_iload_n hx hb d_CP_arc_2 rfl (lv_at hl 2 rfl) ?_
  refine vp_callSi (va_Run.run (k_V (n := 2) (C := R_CP) (rest := []) ⟨hx, hb, hml, hown, hts⟩ (c_CP_pairCode l dC dI cI cJ cZ cp g k k2 fl co sp a1 a2 nd ar pr x y (by first | assumption | omega)) wml_CP_61 wim_CP_pairCode wsel_CP_pairCode wini_CP wcode_CP_pairCode (by decide +kernel) ⟨Nat.le_of_ble_eq_true rfl, Nat.le_of_ble_eq_true rfl⟩ (preV_R (q := (R_CP, F_CP, 6)) (ci := 0) (q0 := 0) (hP.sub (ws' := [(cp, .inr (0, [.ref g, .ref k, .ref k2, .ref fl, .ref co, .ref sp])), (g, .inr (1, [.ref a1, .ref a2, .int (nI nd), .int (nI ar), .long pr]))]) [0, 1] rfl) hK rfl rfl) rfl hl.1 rfl (Nat.le_of_ble_eq_true rfl) d_CP_arc_3 ⟨Nat.zero_le _, Nat.zero_le _⟩)) (fun r_1 hr_2 => ?_)
  refine xe_i (y := (pcd x y nd)) hr_2 ?_
  refine xe_i (y := (-1)) (pcd_bad hbad) ?_
  refine lv_istore_n (lv' := [(3, .int (-1)), (0, .ref cp), (1, .int x), (2, .int y)]) hx hb d_CP_arc_6 rfl hl (by decide) rfl (fun ls hl => ?_)
  refine lv_iload_n hx hb d_CP_arc_7 rfl (lv_at hl 0 rfl) ?_
  refine lv_if_eq (tgt := 13) hx hb d_CP_arc_8 (by decide) (fun c9 => absurd c9 (by decide : ¬ ((-1) : Int32) = 0)) (fun _ => ?_)
  refine lv_iload_n hx hb d_CP_arc_11 rfl (lv_at hl 0 rfl) ?_
  exact W.iret (v := (-1)) hx hb hr (fun t9 ht9 _ => ⟨_, rfl, rfl, ht9⟩) t_nil d_CP_arc_12

set_option maxHeartbeats 4000000 in
set_option maxRecDepth 100000 in
theorem c_CP_arc_s (l : Launch) (dC : Nat → ClassId) (dI : Nat → Nat → Nat) (cI cJ cZ : ClassId) (cp g k k2 fl co sp : Nat) (a1 a2 nd ar : Nat) (pr : Int64) (a b : Nat) (hnd14 : nd ≤ 14) (ha : a < nd) (hab : a = b) : Met l ⟨"CutPoints", "arc", "(II)I"⟩ (Cond.code ⟨"CutPoints", "arc", "(II)I"⟩ prog_1_method_4_code 5 (some .int) :: TT) (rmk 2 43) (PR dC dI cI cJ cZ [.ref cp, .int (nI a), .int (nI b)] [(cp, .inr (0, [.ref g, .ref k, .ref k2, .ref fl, .ref co, .ref sp])), (g, .inr (1, [.ref a1, .ref a2, .int (nI nd), .int (nI ar), .long pr]))]) (vp_Si (fun r => r = -3)) 0 0 (fun _ => False) := by
  refine Met.ofW (cc := prog_1_method_4_code) (maxL := 5) (ret := (some .int)) (by decide) rfl ?_
  intro p e s m args below meth c s₁ BB9 hml hv
  obtain ⟨rfl, hP, hK⟩ := hv
  have hx := BB9.exec
  have hb := BB9.bytes
  have hr := BB9.returns
  have hts : ∀ w ∈ TT, w.before _ s = true := fun w h => atoms_spec (ws := (Cond.code ⟨"CutPoints", "arc", "(II)I"⟩ prog_1_method_4_code 5 (some .int) :: TT)) BB9.pre w (List.mem_cons_of_mem _ h)
  have hown : s.vm.findClass "CutPoints" = some m.cls := findClass_of_methodNamed BB9.named
  have hlocks := BB9.notSynchronized
  have hl := lv_entry ([.ref cp, .int (nI a), .int (nI b)]) (n := 5) (Nat.le_of_ble_eq_true rfl)
  rw [lg_entry_eq]
  generalize (lg_sl ([.ref cp, .int (nI a), .int (nI b)]) ++ List.replicate (5 - (lg_sl ([.ref cp, .int (nI a), .int (nI b)])).length) Slot.unset).toArray = ls at hl ⊢
  have hl : lv_has ls 5 [(0, .ref cp), (1, .int (nI a)), (2, .int (nI b))] := hl
  refine lv_aload_n hx hb d_CP_arc_0 rfl (lv_at hl 0 rfl) ?_
  refine lv_iload_n hx hb d_CP_arc_1 rfl (lv_at hl 1 rfl) ?_
  refine lv_iload_n hx hb d_CP_arc_2 rfl (lv_at hl 2 rfl) ?_
  refine vp_callSi (va_Run.run (k_V (n := 2) (C := R_CP) (rest := []) ⟨hx, hb, hml, hown, hts⟩ (c_CP_pairCode l dC dI cI cJ cZ cp g k k2 fl co sp a1 a2 nd ar pr (nI a) (nI b) (by first | assumption | omega)) wml_CP_61 wim_CP_pairCode wsel_CP_pairCode wini_CP wcode_CP_pairCode (by decide +kernel) ⟨Nat.le_of_ble_eq_true rfl, Nat.le_of_ble_eq_true rfl⟩ (preV_R (q := (R_CP, F_CP, 6)) (ci := 0) (q0 := 0) (hP.sub (ws' := [(cp, .inr (0, [.ref g, .ref k, .ref k2, .ref fl, .ref co, .ref sp])), (g, .inr (1, [.ref a1, .ref a2, .int (nI nd), .int (nI ar), .long pr]))]) [0, 1] rfl) hK rfl rfl) rfl hl.1 rfl (Nat.le_of_ble_eq_true rfl) d_CP_arc_3 ⟨Nat.zero_le _, Nat.zero_le _⟩)) (fun r_1 hr_2 => ?_)
  refine xe_i (y := (pcd (nI a) (nI b) nd)) hr_2 ?_
  refine xe_i (y := (-3)) (pcd_same hnd14 ha hab) ?_
  refine lv_istore_n (lv' := [(3, .int (-3)), (0, .ref cp), (1, .int (nI a)), (2, .int (nI b))]) hx hb d_CP_arc_6 rfl hl (by decide) rfl (fun ls hl => ?_)
  refine lv_iload_n hx hb d_CP_arc_7 rfl (lv_at hl 0 rfl) ?_
  refine lv_if_eq (tgt := 13) hx hb d_CP_arc_8 (by decide) (fun c9 => absurd c9 (by decide : ¬ ((-3) : Int32) = 0)) (fun _ => ?_)
  refine lv_iload_n hx hb d_CP_arc_11 rfl (lv_at hl 0 rfl) ?_
  exact W.iret (v := (-3)) hx hb hr (fun t9 ht9 _ => ⟨_, rfl, rfl, ht9⟩) t_nil d_CP_arc_12

theorem d_CP_arcs_0 : decode prog_1_method_12_code 0 = .ok (.aload_n 0, 1) := by decide +kernel
theorem d_CP_arcs_1 : decode prog_1_method_12_code 1 = .ok (.iload_n 1, 1) := by decide +kernel
theorem d_CP_arcs_2 : decode prog_1_method_12_code 2 = .ok (.iload_n 2, 1) := by decide +kernel
theorem d_CP_arcs_3 : decode prog_1_method_12_code 3 = .ok (.invokevirtual 61, 3) := by decide +kernel
theorem d_CP_arcs_6 : decode prog_1_method_12_code 6 = .ok (.istore_n 3, 1) := by decide +kernel
theorem d_CP_arcs_7 : decode prog_1_method_12_code 7 = .ok (.iload_n 3, 1) := by decide +kernel
theorem d_CP_arcs_8 : decode prog_1_method_12_code 8 = .ok (.ifCond .eq 5, 3) := by decide +kernel
theorem d_CP_arcs_11 : decode prog_1_method_12_code 11 = .ok (.iload_n 3, 1) := by decide +kernel
theorem d_CP_arcs_12 : decode prog_1_method_12_code 12 = .ok (.ireturn, 1) := by decide +kernel
theorem d_CP_arcs_13 : decode prog_1_method_12_code 13 = .ok (.aload_n 0, 1) := by decide +kernel
theorem d_CP_arcs_14 : decode prog_1_method_12_code 14 = .ok (.getfield 29, 3) := by decide +kernel
theorem d_CP_arcs_17 : decode prog_1_method_12_code 17 = .ok (.aload_n 0, 1) := by decide +kernel
theorem d_CP_arcs_18 : decode prog_1_method_12_code 18 = .ok (.getfield 12, 3) := by decide +kernel
theorem d_CP_arcs_21 : decode prog_1_method_12_code 21 = .ok (.invokevirtual 140, 3) := by decide +kernel
theorem d_CP_arcs_24 : decode prog_1_method_12_code 24 = .ok (.aload_n 0, 1) := by decide +kernel
theorem d_CP_arcs_25 : decode prog_1_method_12_code 25 = .ok (.getfield 29, 3) := by decide +kernel
theorem d_CP_arcs_28 : decode prog_1_method_12_code 28 = .ok (.iload_n 1, 1) := by decide +kernel
theorem d_CP_arcs_29 : decode prog_1_method_12_code 29 = .ok (.iload_n 2, 1) := by decide +kernel
theorem d_CP_arcs_30 : decode prog_1_method_12_code 30 = .ok (.invokevirtual 144, 3) := by decide +kernel
theorem d_CP_arcs_33 : decode prog_1_method_12_code 33 = .ok (.ireturn, 1) := by decide +kernel
set_option maxHeartbeats 4000000 in
set_option maxRecDepth 100000 in
theorem c_CP_arcs_b (l : Launch) (dC : Nat → ClassId) (dI : Nat → Nat → Nat) (cI cJ cZ : ClassId) (cp g k k2 fl co sp : Nat) (a1 a2 nd ar : Nat) (pr : Int64) (x y : Int32) (hnd41 : nd ≤ 41) (hbad : (vd x nd && vd y nd) = false) : Met l ⟨"CutPoints", "arcs", "(II)I"⟩ (Cond.code ⟨"CutPoints", "arcs", "(II)I"⟩ prog_1_method_12_code 4 (some .int) :: TT) (rmk 2 43) (PR dC dI cI cJ cZ [.ref cp, .int x, .int y] [(cp, .inr (0, [.ref g, .ref k, .ref k2, .ref fl, .ref co, .ref sp])), (g, .inr (1, [.ref a1, .ref a2, .int (nI nd), .int (nI ar), .long pr]))]) (vp_Si (fun r => r = -1)) 0 0 (fun _ => False) := by
  refine Met.ofW (cc := prog_1_method_12_code) (maxL := 4) (ret := (some .int)) (by decide) rfl ?_
  intro p e s m args below meth c s₁ BB9 hml hv
  obtain ⟨rfl, hP, hK⟩ := hv
  have hx := BB9.exec
  have hb := BB9.bytes
  have hr := BB9.returns
  have hts : ∀ w ∈ TT, w.before _ s = true := fun w h => atoms_spec (ws := (Cond.code ⟨"CutPoints", "arcs", "(II)I"⟩ prog_1_method_12_code 4 (some .int) :: TT)) BB9.pre w (List.mem_cons_of_mem _ h)
  have hown : s.vm.findClass "CutPoints" = some m.cls := findClass_of_methodNamed BB9.named
  have hlocks := BB9.notSynchronized
  have hl := lv_entry ([.ref cp, .int x, .int y]) (n := 4) (Nat.le_of_ble_eq_true rfl)
  rw [lg_entry_eq]
  generalize (lg_sl ([.ref cp, .int x, .int y]) ++ List.replicate (4 - (lg_sl ([.ref cp, .int x, .int y])).length) Slot.unset).toArray = ls at hl ⊢
  have hl : lv_has ls 4 [(0, .ref cp), (1, .int x), (2, .int y)] := hl
  refine lv_aload_n hx hb d_CP_arcs_0 rfl (lv_at hl 0 rfl) ?_
  refine lv_iload_n hx hb d_CP_arcs_1 rfl (lv_at hl 1 rfl) ?_
  refine lv_iload_n hx hb d_CP_arcs_2 rfl (lv_at hl 2 rfl) ?_
  refine vp_callSi (va_Run.run (k_V (n := 2) (C := R_CP) (rest := []) ⟨hx, hb, hml, hown, hts⟩ (c_CP_pairCode l dC dI cI cJ cZ cp g k k2 fl co sp a1 a2 nd ar pr x y (by first | assumption | omega)) wml_CP_61 wim_CP_pairCode wsel_CP_pairCode wini_CP wcode_CP_pairCode (by decide +kernel) ⟨Nat.le_of_ble_eq_true rfl, Nat.le_of_ble_eq_true rfl⟩ (preV_R (q := (R_CP, F_CP, 6)) (ci := 0) (q0 := 0) (hP.sub (ws' := [(cp, .inr (0, [.ref g, .ref k, .ref k2, .ref fl, .ref co, .ref sp])), (g, .inr (1, [.ref a1, .ref a2, .int (nI nd), .int (nI ar), .long pr]))]) [0, 1] rfl) hK rfl rfl) rfl hl.1 rfl (Nat.le_of_ble_eq_true rfl) d_CP_arcs_3 ⟨Nat.zero_le _, Nat.zero_le _⟩)) (fun r_1 hr_2 => ?_)
  refine xe_i (y := (pcd x y nd)) hr_2 ?_
  refine xe_i (y := (-1)) (pcd_bad hbad) ?_
  refine lv_istore_n (lv' := [(3, .int (-1)), (0, .ref cp), (1, .int x), (2, .int y)]) hx hb d_CP_arcs_6 rfl hl (by decide) rfl (fun ls hl => ?_)
  refine lv_iload_n hx hb d_CP_arcs_7 rfl (lv_at hl 0 rfl) ?_
  refine lv_if_eq (tgt := 13) hx hb d_CP_arcs_8 (by decide) (fun c9 => absurd c9 (by decide : ¬ ((-1) : Int32) = 0)) (fun _ => ?_)
  refine lv_iload_n hx hb d_CP_arcs_11 rfl (lv_at hl 0 rfl) ?_
  exact W.iret (v := (-1)) hx hb hr (fun t9 ht9 _ => ⟨_, rfl, rfl, ht9⟩) t_nil d_CP_arcs_12

set_option maxHeartbeats 4000000 in
set_option maxRecDepth 100000 in
theorem c_CP_arcs_s (l : Launch) (dC : Nat → ClassId) (dI : Nat → Nat → Nat) (cI cJ cZ : ClassId) (cp g k k2 fl co sp : Nat) (a1 a2 nd ar : Nat) (pr : Int64) (a b : Nat) (hnd14 : nd ≤ 14) (ha : a < nd) (hab : a = b) : Met l ⟨"CutPoints", "arcs", "(II)I"⟩ (Cond.code ⟨"CutPoints", "arcs", "(II)I"⟩ prog_1_method_12_code 4 (some .int) :: TT) (rmk 2 43) (PR dC dI cI cJ cZ [.ref cp, .int (nI a), .int (nI b)] [(cp, .inr (0, [.ref g, .ref k, .ref k2, .ref fl, .ref co, .ref sp])), (g, .inr (1, [.ref a1, .ref a2, .int (nI nd), .int (nI ar), .long pr]))]) (vp_Si (fun r => r = -3)) 0 0 (fun _ => False) := by
  refine Met.ofW (cc := prog_1_method_12_code) (maxL := 4) (ret := (some .int)) (by decide) rfl ?_
  intro p e s m args below meth c s₁ BB9 hml hv
  obtain ⟨rfl, hP, hK⟩ := hv
  have hx := BB9.exec
  have hb := BB9.bytes
  have hr := BB9.returns
  have hts : ∀ w ∈ TT, w.before _ s = true := fun w h => atoms_spec (ws := (Cond.code ⟨"CutPoints", "arcs", "(II)I"⟩ prog_1_method_12_code 4 (some .int) :: TT)) BB9.pre w (List.mem_cons_of_mem _ h)
  have hown : s.vm.findClass "CutPoints" = some m.cls := findClass_of_methodNamed BB9.named
  have hlocks := BB9.notSynchronized
  have hl := lv_entry ([.ref cp, .int (nI a), .int (nI b)]) (n := 4) (Nat.le_of_ble_eq_true rfl)
  rw [lg_entry_eq]
  generalize (lg_sl ([.ref cp, .int (nI a), .int (nI b)]) ++ List.replicate (4 - (lg_sl ([.ref cp, .int (nI a), .int (nI b)])).length) Slot.unset).toArray = ls at hl ⊢
  have hl : lv_has ls 4 [(0, .ref cp), (1, .int (nI a)), (2, .int (nI b))] := hl
  refine lv_aload_n hx hb d_CP_arcs_0 rfl (lv_at hl 0 rfl) ?_
  refine lv_iload_n hx hb d_CP_arcs_1 rfl (lv_at hl 1 rfl) ?_
  refine lv_iload_n hx hb d_CP_arcs_2 rfl (lv_at hl 2 rfl) ?_
  refine vp_callSi (va_Run.run (k_V (n := 2) (C := R_CP) (rest := []) ⟨hx, hb, hml, hown, hts⟩ (c_CP_pairCode l dC dI cI cJ cZ cp g k k2 fl co sp a1 a2 nd ar pr (nI a) (nI b) (by first | assumption | omega)) wml_CP_61 wim_CP_pairCode wsel_CP_pairCode wini_CP wcode_CP_pairCode (by decide +kernel) ⟨Nat.le_of_ble_eq_true rfl, Nat.le_of_ble_eq_true rfl⟩ (preV_R (q := (R_CP, F_CP, 6)) (ci := 0) (q0 := 0) (hP.sub (ws' := [(cp, .inr (0, [.ref g, .ref k, .ref k2, .ref fl, .ref co, .ref sp])), (g, .inr (1, [.ref a1, .ref a2, .int (nI nd), .int (nI ar), .long pr]))]) [0, 1] rfl) hK rfl rfl) rfl hl.1 rfl (Nat.le_of_ble_eq_true rfl) d_CP_arcs_3 ⟨Nat.zero_le _, Nat.zero_le _⟩)) (fun r_1 hr_2 => ?_)
  refine xe_i (y := (pcd (nI a) (nI b) nd)) hr_2 ?_
  refine xe_i (y := (-3)) (pcd_same hnd14 ha hab) ?_
  refine lv_istore_n (lv' := [(3, .int (-3)), (0, .ref cp), (1, .int (nI a)), (2, .int (nI b))]) hx hb d_CP_arcs_6 rfl hl (by decide) rfl (fun ls hl => ?_)
  refine lv_iload_n hx hb d_CP_arcs_7 rfl (lv_at hl 0 rfl) ?_
  refine lv_if_eq (tgt := 13) hx hb d_CP_arcs_8 (by decide) (fun c9 => absurd c9 (by decide : ¬ ((-3) : Int32) = 0)) (fun _ => ?_)
  refine lv_iload_n hx hb d_CP_arcs_11 rfl (lv_at hl 0 rfl) ?_
  exact W.iret (v := (-3)) hx hb hr (fun t9 ht9 _ => ⟨_, rfl, rfl, ht9⟩) t_nil d_CP_arcs_12

theorem d_CP_side_0 : decode prog_1_method_13_code 0 = .ok (.aload_n 0, 1) := by decide +kernel
theorem d_CP_side_1 : decode prog_1_method_13_code 1 = .ok (.iload_n 1, 1) := by decide +kernel
theorem d_CP_side_2 : decode prog_1_method_13_code 2 = .ok (.iload_n 2, 1) := by decide +kernel
theorem d_CP_side_3 : decode prog_1_method_13_code 3 = .ok (.invokevirtual 61, 3) := by decide +kernel
theorem d_CP_side_6 : decode prog_1_method_13_code 6 = .ok (.istore_n 3, 1) := by decide +kernel
theorem d_CP_side_7 : decode prog_1_method_13_code 7 = .ok (.iload_n 3, 1) := by decide +kernel
theorem d_CP_side_8 : decode prog_1_method_13_code 8 = .ok (.ifCond .eq 5, 3) := by decide +kernel
theorem d_CP_side_11 : decode prog_1_method_13_code 11 = .ok (.iload_n 3, 1) := by decide +kernel
theorem d_CP_side_12 : decode prog_1_method_13_code 12 = .ok (.ireturn, 1) := by decide +kernel
theorem d_CP_side_13 : decode prog_1_method_13_code 13 = .ok (.aload_n 0, 1) := by decide +kernel
theorem d_CP_side_14 : decode prog_1_method_13_code 14 = .ok (.getfield 29, 3) := by decide +kernel
theorem d_CP_side_17 : decode prog_1_method_13_code 17 = .ok (.aload_n 0, 1) := by decide +kernel
theorem d_CP_side_18 : decode prog_1_method_13_code 18 = .ok (.getfield 12, 3) := by decide +kernel
theorem d_CP_side_21 : decode prog_1_method_13_code 21 = .ok (.invokevirtual 140, 3) := by decide +kernel
theorem d_CP_side_24 : decode prog_1_method_13_code 24 = .ok (.aload_n 0, 1) := by decide +kernel
theorem d_CP_side_25 : decode prog_1_method_13_code 25 = .ok (.getfield 29, 3) := by decide +kernel
theorem d_CP_side_28 : decode prog_1_method_13_code 28 = .ok (.iload_n 1, 1) := by decide +kernel
theorem d_CP_side_29 : decode prog_1_method_13_code 29 = .ok (.iload_n 2, 1) := by decide +kernel
theorem d_CP_side_30 : decode prog_1_method_13_code 30 = .ok (.invokevirtual 144, 3) := by decide +kernel
theorem d_CP_side_33 : decode prog_1_method_13_code 33 = .ok (.pop, 1) := by decide +kernel
theorem d_CP_side_34 : decode prog_1_method_13_code 34 = .ok (.aload_n 0, 1) := by decide +kernel
theorem d_CP_side_35 : decode prog_1_method_13_code 35 = .ok (.getfield 29, 3) := by decide +kernel
theorem d_CP_side_38 : decode prog_1_method_13_code 38 = .ok (.getfield 147, 3) := by decide +kernel
theorem d_CP_side_41 : decode prog_1_method_13_code 41 = .ok (.ireturn, 1) := by decide +kernel
set_option maxHeartbeats 4000000 in
set_option maxRecDepth 100000 in
theorem c_CP_side_b (l : Launch) (dC : Nat → ClassId) (dI : Nat → Nat → Nat) (cI cJ cZ : ClassId) (cp g k k2 fl co sp : Nat) (a1 a2 nd ar : Nat) (pr : Int64) (x y : Int32) (hnd41 : nd ≤ 41) (hbad : (vd x nd && vd y nd) = false) : Met l ⟨"CutPoints", "side", "(II)I"⟩ (Cond.code ⟨"CutPoints", "side", "(II)I"⟩ prog_1_method_13_code 4 (some .int) :: TT) (rmk 2 43) (PR dC dI cI cJ cZ [.ref cp, .int x, .int y] [(cp, .inr (0, [.ref g, .ref k, .ref k2, .ref fl, .ref co, .ref sp])), (g, .inr (1, [.ref a1, .ref a2, .int (nI nd), .int (nI ar), .long pr]))]) (vp_Si (fun r => r = -1)) 0 0 (fun _ => False) := by
  refine Met.ofW (cc := prog_1_method_13_code) (maxL := 4) (ret := (some .int)) (by decide) rfl ?_
  intro p e s m args below meth c s₁ BB9 hml hv
  obtain ⟨rfl, hP, hK⟩ := hv
  have hx := BB9.exec
  have hb := BB9.bytes
  have hr := BB9.returns
  have hts : ∀ w ∈ TT, w.before _ s = true := fun w h => atoms_spec (ws := (Cond.code ⟨"CutPoints", "side", "(II)I"⟩ prog_1_method_13_code 4 (some .int) :: TT)) BB9.pre w (List.mem_cons_of_mem _ h)
  have hown : s.vm.findClass "CutPoints" = some m.cls := findClass_of_methodNamed BB9.named
  have hlocks := BB9.notSynchronized
  have hl := lv_entry ([.ref cp, .int x, .int y]) (n := 4) (Nat.le_of_ble_eq_true rfl)
  rw [lg_entry_eq]
  generalize (lg_sl ([.ref cp, .int x, .int y]) ++ List.replicate (4 - (lg_sl ([.ref cp, .int x, .int y])).length) Slot.unset).toArray = ls at hl ⊢
  have hl : lv_has ls 4 [(0, .ref cp), (1, .int x), (2, .int y)] := hl
  refine lv_aload_n hx hb d_CP_side_0 rfl (lv_at hl 0 rfl) ?_
  refine lv_iload_n hx hb d_CP_side_1 rfl (lv_at hl 1 rfl) ?_
  refine lv_iload_n hx hb d_CP_side_2 rfl (lv_at hl 2 rfl) ?_
  refine vp_callSi (va_Run.run (k_V (n := 2) (C := R_CP) (rest := []) ⟨hx, hb, hml, hown, hts⟩ (c_CP_pairCode l dC dI cI cJ cZ cp g k k2 fl co sp a1 a2 nd ar pr x y (by first | assumption | omega)) wml_CP_61 wim_CP_pairCode wsel_CP_pairCode wini_CP wcode_CP_pairCode (by decide +kernel) ⟨Nat.le_of_ble_eq_true rfl, Nat.le_of_ble_eq_true rfl⟩ (preV_R (q := (R_CP, F_CP, 6)) (ci := 0) (q0 := 0) (hP.sub (ws' := [(cp, .inr (0, [.ref g, .ref k, .ref k2, .ref fl, .ref co, .ref sp])), (g, .inr (1, [.ref a1, .ref a2, .int (nI nd), .int (nI ar), .long pr]))]) [0, 1] rfl) hK rfl rfl) rfl hl.1 rfl (Nat.le_of_ble_eq_true rfl) d_CP_side_3 ⟨Nat.zero_le _, Nat.zero_le _⟩)) (fun r_1 hr_2 => ?_)
  refine xe_i (y := (pcd x y nd)) hr_2 ?_
  refine xe_i (y := (-1)) (pcd_bad hbad) ?_
  refine lv_istore_n (lv' := [(3, .int (-1)), (0, .ref cp), (1, .int x), (2, .int y)]) hx hb d_CP_side_6 rfl hl (by decide) rfl (fun ls hl => ?_)
  refine lv_iload_n hx hb d_CP_side_7 rfl (lv_at hl 0 rfl) ?_
  refine lv_if_eq (tgt := 13) hx hb d_CP_side_8 (by decide) (fun c9 => absurd c9 (by decide : ¬ ((-1) : Int32) = 0)) (fun _ => ?_)
  refine lv_iload_n hx hb d_CP_side_11 rfl (lv_at hl 0 rfl) ?_
  exact W.iret (v := (-1)) hx hb hr (fun t9 ht9 _ => ⟨_, rfl, rfl, ht9⟩) t_nil d_CP_side_12

set_option maxHeartbeats 4000000 in
set_option maxRecDepth 100000 in
theorem c_CP_side_s (l : Launch) (dC : Nat → ClassId) (dI : Nat → Nat → Nat) (cI cJ cZ : ClassId) (cp g k k2 fl co sp : Nat) (a1 a2 nd ar : Nat) (pr : Int64) (a b : Nat) (hnd14 : nd ≤ 14) (ha : a < nd) (hab : a = b) : Met l ⟨"CutPoints", "side", "(II)I"⟩ (Cond.code ⟨"CutPoints", "side", "(II)I"⟩ prog_1_method_13_code 4 (some .int) :: TT) (rmk 2 43) (PR dC dI cI cJ cZ [.ref cp, .int (nI a), .int (nI b)] [(cp, .inr (0, [.ref g, .ref k, .ref k2, .ref fl, .ref co, .ref sp])), (g, .inr (1, [.ref a1, .ref a2, .int (nI nd), .int (nI ar), .long pr]))]) (vp_Si (fun r => r = -3)) 0 0 (fun _ => False) := by
  refine Met.ofW (cc := prog_1_method_13_code) (maxL := 4) (ret := (some .int)) (by decide) rfl ?_
  intro p e s m args below meth c s₁ BB9 hml hv
  obtain ⟨rfl, hP, hK⟩ := hv
  have hx := BB9.exec
  have hb := BB9.bytes
  have hr := BB9.returns
  have hts : ∀ w ∈ TT, w.before _ s = true := fun w h => atoms_spec (ws := (Cond.code ⟨"CutPoints", "side", "(II)I"⟩ prog_1_method_13_code 4 (some .int) :: TT)) BB9.pre w (List.mem_cons_of_mem _ h)
  have hown : s.vm.findClass "CutPoints" = some m.cls := findClass_of_methodNamed BB9.named
  have hlocks := BB9.notSynchronized
  have hl := lv_entry ([.ref cp, .int (nI a), .int (nI b)]) (n := 4) (Nat.le_of_ble_eq_true rfl)
  rw [lg_entry_eq]
  generalize (lg_sl ([.ref cp, .int (nI a), .int (nI b)]) ++ List.replicate (4 - (lg_sl ([.ref cp, .int (nI a), .int (nI b)])).length) Slot.unset).toArray = ls at hl ⊢
  have hl : lv_has ls 4 [(0, .ref cp), (1, .int (nI a)), (2, .int (nI b))] := hl
  refine lv_aload_n hx hb d_CP_side_0 rfl (lv_at hl 0 rfl) ?_
  refine lv_iload_n hx hb d_CP_side_1 rfl (lv_at hl 1 rfl) ?_
  refine lv_iload_n hx hb d_CP_side_2 rfl (lv_at hl 2 rfl) ?_
  refine vp_callSi (va_Run.run (k_V (n := 2) (C := R_CP) (rest := []) ⟨hx, hb, hml, hown, hts⟩ (c_CP_pairCode l dC dI cI cJ cZ cp g k k2 fl co sp a1 a2 nd ar pr (nI a) (nI b) (by first | assumption | omega)) wml_CP_61 wim_CP_pairCode wsel_CP_pairCode wini_CP wcode_CP_pairCode (by decide +kernel) ⟨Nat.le_of_ble_eq_true rfl, Nat.le_of_ble_eq_true rfl⟩ (preV_R (q := (R_CP, F_CP, 6)) (ci := 0) (q0 := 0) (hP.sub (ws' := [(cp, .inr (0, [.ref g, .ref k, .ref k2, .ref fl, .ref co, .ref sp])), (g, .inr (1, [.ref a1, .ref a2, .int (nI nd), .int (nI ar), .long pr]))]) [0, 1] rfl) hK rfl rfl) rfl hl.1 rfl (Nat.le_of_ble_eq_true rfl) d_CP_side_3 ⟨Nat.zero_le _, Nat.zero_le _⟩)) (fun r_1 hr_2 => ?_)
  refine xe_i (y := (pcd (nI a) (nI b) nd)) hr_2 ?_
  refine xe_i (y := (-3)) (pcd_same hnd14 ha hab) ?_
  refine lv_istore_n (lv' := [(3, .int (-3)), (0, .ref cp), (1, .int (nI a)), (2, .int (nI b))]) hx hb d_CP_side_6 rfl hl (by decide) rfl (fun ls hl => ?_)
  refine lv_iload_n hx hb d_CP_side_7 rfl (lv_at hl 0 rfl) ?_
  refine lv_if_eq (tgt := 13) hx hb d_CP_side_8 (by decide) (fun c9 => absurd c9 (by decide : ¬ ((-3) : Int32) = 0)) (fun _ => ?_)
  refine lv_iload_n hx hb d_CP_side_11 rfl (lv_at hl 0 rfl) ?_
  exact W.iret (v := (-3)) hx hb hr (fun t9 ht9 _ => ⟨_, rfl, rfl, ht9⟩) t_nil d_CP_side_12

theorem d_CP_nodes_0 : decode prog_1_method_14_code 0 = .ok (.aload_n 0, 1) := by decide +kernel
theorem d_CP_nodes_1 : decode prog_1_method_14_code 1 = .ok (.iload_n 1, 1) := by decide +kernel
theorem d_CP_nodes_2 : decode prog_1_method_14_code 2 = .ok (.iload_n 2, 1) := by decide +kernel
theorem d_CP_nodes_3 : decode prog_1_method_14_code 3 = .ok (.invokevirtual 61, 3) := by decide +kernel
theorem d_CP_nodes_6 : decode prog_1_method_14_code 6 = .ok (.istore_n 3, 1) := by decide +kernel
theorem d_CP_nodes_7 : decode prog_1_method_14_code 7 = .ok (.iload_n 3, 1) := by decide +kernel
theorem d_CP_nodes_8 : decode prog_1_method_14_code 8 = .ok (.ifCond .eq 5, 3) := by decide +kernel
theorem d_CP_nodes_11 : decode prog_1_method_14_code 11 = .ok (.iload_n 3, 1) := by decide +kernel
theorem d_CP_nodes_12 : decode prog_1_method_14_code 12 = .ok (.ireturn, 1) := by decide +kernel
theorem d_CP_nodes_13 : decode prog_1_method_14_code 13 = .ok (.aload_n 0, 1) := by decide +kernel
theorem d_CP_nodes_14 : decode prog_1_method_14_code 14 = .ok (.getfield 19, 3) := by decide +kernel
theorem d_CP_nodes_17 : decode prog_1_method_14_code 17 = .ok (.getfield 150, 3) := by decide +kernel
theorem d_CP_nodes_20 : decode prog_1_method_14_code 20 = .ok (.iload_n 1, 1) := by decide +kernel
theorem d_CP_nodes_21 : decode prog_1_method_14_code 21 = .ok (.iaload, 1) := by decide +kernel
theorem d_CP_nodes_22 : decode prog_1_method_14_code 22 = .ok (.i2l, 1) := by decide +kernel
theorem d_CP_nodes_23 : decode prog_1_method_14_code 23 = .ok (.iload_n 2, 1) := by decide +kernel
theorem d_CP_nodes_24 : decode prog_1_method_14_code 24 = .ok (.invokestatic 124, 3) := by decide +kernel
theorem d_CP_nodes_27 : decode prog_1_method_14_code 27 = .ok (.ifCond .eq 6, 3) := by decide +kernel
theorem d_CP_nodes_30 : decode prog_1_method_14_code 30 = .ok (.bipush (-3), 2) := by decide +kernel
theorem d_CP_nodes_32 : decode prog_1_method_14_code 32 = .ok (.ireturn, 1) := by decide +kernel
theorem d_CP_nodes_33 : decode prog_1_method_14_code 33 = .ok (.aload_n 0, 1) := by decide +kernel
theorem d_CP_nodes_34 : decode prog_1_method_14_code 34 = .ok (.getfield 29, 3) := by decide +kernel
theorem d_CP_nodes_37 : decode prog_1_method_14_code 37 = .ok (.aload_n 0, 1) := by decide +kernel
theorem d_CP_nodes_38 : decode prog_1_method_14_code 38 = .ok (.getfield 19, 3) := by decide +kernel
theorem d_CP_nodes_41 : decode prog_1_method_14_code 41 = .ok (.invokevirtual 154, 3) := by decide +kernel
theorem d_CP_nodes_44 : decode prog_1_method_14_code 44 = .ok (.aload_n 0, 1) := by decide +kernel
theorem d_CP_nodes_45 : decode prog_1_method_14_code 45 = .ok (.getfield 29, 3) := by decide +kernel
theorem d_CP_nodes_48 : decode prog_1_method_14_code 48 = .ok (.iload_n 1, 1) := by decide +kernel
theorem d_CP_nodes_49 : decode prog_1_method_14_code 49 = .ok (.invokestatic 158, 3) := by decide +kernel
theorem d_CP_nodes_52 : decode prog_1_method_14_code 52 = .ok (.iload_n 2, 1) := by decide +kernel
theorem d_CP_nodes_53 : decode prog_1_method_14_code 53 = .ok (.invokevirtual 144, 3) := by decide +kernel
theorem d_CP_nodes_56 : decode prog_1_method_14_code 56 = .ok (.ireturn, 1) := by decide +kernel
set_option maxHeartbeats 4000000 in
set_option maxRecDepth 100000 in
theorem c_CP_nodes_b (l : Launch) (dC : Nat → ClassId) (dI : Nat → Nat → Nat) (cI cJ cZ : ClassId) (cp g k k2 fl co sp : Nat) (a1 a2 nd ar : Nat) (pr : Int64) (x y : Int32) (hnd41 : nd ≤ 41) (hbad : (vd x nd && vd y nd) = false) : Met l ⟨"CutPoints", "nodes", "(II)I"⟩ (Cond.code ⟨"CutPoints", "nodes", "(II)I"⟩ prog_1_method_14_code 4 (some .int) :: TT) (rmk 2 43) (PR dC dI cI cJ cZ [.ref cp, .int x, .int y] [(cp, .inr (0, [.ref g, .ref k, .ref k2, .ref fl, .ref co, .ref sp])), (g, .inr (1, [.ref a1, .ref a2, .int (nI nd), .int (nI ar), .long pr]))]) (vp_Si (fun r => r = -1)) 0 0 (fun _ => False) := by
  refine Met.ofW (cc := prog_1_method_14_code) (maxL := 4) (ret := (some .int)) (by decide) rfl ?_
  intro p e s m args below meth c s₁ BB9 hml hv
  obtain ⟨rfl, hP, hK⟩ := hv
  have hx := BB9.exec
  have hb := BB9.bytes
  have hr := BB9.returns
  have hts : ∀ w ∈ TT, w.before _ s = true := fun w h => atoms_spec (ws := (Cond.code ⟨"CutPoints", "nodes", "(II)I"⟩ prog_1_method_14_code 4 (some .int) :: TT)) BB9.pre w (List.mem_cons_of_mem _ h)
  have hown : s.vm.findClass "CutPoints" = some m.cls := findClass_of_methodNamed BB9.named
  have hlocks := BB9.notSynchronized
  have hl := lv_entry ([.ref cp, .int x, .int y]) (n := 4) (Nat.le_of_ble_eq_true rfl)
  rw [lg_entry_eq]
  generalize (lg_sl ([.ref cp, .int x, .int y]) ++ List.replicate (4 - (lg_sl ([.ref cp, .int x, .int y])).length) Slot.unset).toArray = ls at hl ⊢
  have hl : lv_has ls 4 [(0, .ref cp), (1, .int x), (2, .int y)] := hl
  refine lv_aload_n hx hb d_CP_nodes_0 rfl (lv_at hl 0 rfl) ?_
  refine lv_iload_n hx hb d_CP_nodes_1 rfl (lv_at hl 1 rfl) ?_
  refine lv_iload_n hx hb d_CP_nodes_2 rfl (lv_at hl 2 rfl) ?_
  refine vp_callSi (va_Run.run (k_V (n := 2) (C := R_CP) (rest := []) ⟨hx, hb, hml, hown, hts⟩ (c_CP_pairCode l dC dI cI cJ cZ cp g k k2 fl co sp a1 a2 nd ar pr x y (by first | assumption | omega)) wml_CP_61 wim_CP_pairCode wsel_CP_pairCode wini_CP wcode_CP_pairCode (by decide +kernel) ⟨Nat.le_of_ble_eq_true rfl, Nat.le_of_ble_eq_true rfl⟩ (preV_R (q := (R_CP, F_CP, 6)) (ci := 0) (q0 := 0) (hP.sub (ws' := [(cp, .inr (0, [.ref g, .ref k, .ref k2, .ref fl, .ref co, .ref sp])), (g, .inr (1, [.ref a1, .ref a2, .int (nI nd), .int (nI ar), .long pr]))]) [0, 1] rfl) hK rfl rfl) rfl hl.1 rfl (Nat.le_of_ble_eq_true rfl) d_CP_nodes_3 ⟨Nat.zero_le _, Nat.zero_le _⟩)) (fun r_1 hr_2 => ?_)
  refine xe_i (y := (pcd x y nd)) hr_2 ?_
  refine xe_i (y := (-1)) (pcd_bad hbad) ?_
  refine lv_istore_n (lv' := [(3, .int (-1)), (0, .ref cp), (1, .int x), (2, .int y)]) hx hb d_CP_nodes_6 rfl hl (by decide) rfl (fun ls hl => ?_)
  refine lv_iload_n hx hb d_CP_nodes_7 rfl (lv_at hl 0 rfl) ?_
  refine lv_if_eq (tgt := 13) hx hb d_CP_nodes_8 (by decide) (fun c9 => absurd c9 (by decide : ¬ ((-1) : Int32) = 0)) (fun _ => ?_)
  refine lv_iload_n hx hb d_CP_nodes_11 rfl (lv_at hl 0 rfl) ?_
  exact W.iret (v := (-1)) hx hb hr (fun t9 ht9 _ => ⟨_, rfl, rfl, ht9⟩) t_nil d_CP_nodes_12

set_option maxHeartbeats 4000000 in
set_option maxRecDepth 100000 in
theorem c_CP_nodes_s (l : Launch) (dC : Nat → ClassId) (dI : Nat → Nat → Nat) (cI cJ cZ : ClassId) (cp g k k2 fl co sp : Nat) (a1 a2 nd ar : Nat) (pr : Int64) (a b : Nat) (hnd14 : nd ≤ 14) (ha : a < nd) (hab : a = b) : Met l ⟨"CutPoints", "nodes", "(II)I"⟩ (Cond.code ⟨"CutPoints", "nodes", "(II)I"⟩ prog_1_method_14_code 4 (some .int) :: TT) (rmk 2 43) (PR dC dI cI cJ cZ [.ref cp, .int (nI a), .int (nI b)] [(cp, .inr (0, [.ref g, .ref k, .ref k2, .ref fl, .ref co, .ref sp])), (g, .inr (1, [.ref a1, .ref a2, .int (nI nd), .int (nI ar), .long pr]))]) (vp_Si (fun r => r = -3)) 0 0 (fun _ => False) := by
  refine Met.ofW (cc := prog_1_method_14_code) (maxL := 4) (ret := (some .int)) (by decide) rfl ?_
  intro p e s m args below meth c s₁ BB9 hml hv
  obtain ⟨rfl, hP, hK⟩ := hv
  have hx := BB9.exec
  have hb := BB9.bytes
  have hr := BB9.returns
  have hts : ∀ w ∈ TT, w.before _ s = true := fun w h => atoms_spec (ws := (Cond.code ⟨"CutPoints", "nodes", "(II)I"⟩ prog_1_method_14_code 4 (some .int) :: TT)) BB9.pre w (List.mem_cons_of_mem _ h)
  have hown : s.vm.findClass "CutPoints" = some m.cls := findClass_of_methodNamed BB9.named
  have hlocks := BB9.notSynchronized
  have hl := lv_entry ([.ref cp, .int (nI a), .int (nI b)]) (n := 4) (Nat.le_of_ble_eq_true rfl)
  rw [lg_entry_eq]
  generalize (lg_sl ([.ref cp, .int (nI a), .int (nI b)]) ++ List.replicate (4 - (lg_sl ([.ref cp, .int (nI a), .int (nI b)])).length) Slot.unset).toArray = ls at hl ⊢
  have hl : lv_has ls 4 [(0, .ref cp), (1, .int (nI a)), (2, .int (nI b))] := hl
  refine lv_aload_n hx hb d_CP_nodes_0 rfl (lv_at hl 0 rfl) ?_
  refine lv_iload_n hx hb d_CP_nodes_1 rfl (lv_at hl 1 rfl) ?_
  refine lv_iload_n hx hb d_CP_nodes_2 rfl (lv_at hl 2 rfl) ?_
  refine vp_callSi (va_Run.run (k_V (n := 2) (C := R_CP) (rest := []) ⟨hx, hb, hml, hown, hts⟩ (c_CP_pairCode l dC dI cI cJ cZ cp g k k2 fl co sp a1 a2 nd ar pr (nI a) (nI b) (by first | assumption | omega)) wml_CP_61 wim_CP_pairCode wsel_CP_pairCode wini_CP wcode_CP_pairCode (by decide +kernel) ⟨Nat.le_of_ble_eq_true rfl, Nat.le_of_ble_eq_true rfl⟩ (preV_R (q := (R_CP, F_CP, 6)) (ci := 0) (q0 := 0) (hP.sub (ws' := [(cp, .inr (0, [.ref g, .ref k, .ref k2, .ref fl, .ref co, .ref sp])), (g, .inr (1, [.ref a1, .ref a2, .int (nI nd), .int (nI ar), .long pr]))]) [0, 1] rfl) hK rfl rfl) rfl hl.1 rfl (Nat.le_of_ble_eq_true rfl) d_CP_nodes_3 ⟨Nat.zero_le _, Nat.zero_le _⟩)) (fun r_1 hr_2 => ?_)
  refine xe_i (y := (pcd (nI a) (nI b) nd)) hr_2 ?_
  refine xe_i (y := (-3)) (pcd_same hnd14 ha hab) ?_
  refine lv_istore_n (lv' := [(3, .int (-3)), (0, .ref cp), (1, .int (nI a)), (2, .int (nI b))]) hx hb d_CP_nodes_6 rfl hl (by decide) rfl (fun ls hl => ?_)
  refine lv_iload_n hx hb d_CP_nodes_7 rfl (lv_at hl 0 rfl) ?_
  refine lv_if_eq (tgt := 13) hx hb d_CP_nodes_8 (by decide) (fun c9 => absurd c9 (by decide : ¬ ((-3) : Int32) = 0)) (fun _ => ?_)
  refine lv_iload_n hx hb d_CP_nodes_11 rfl (lv_at hl 0 rfl) ?_
  exact W.iret (v := (-3)) hx hb hr (fun t9 ht9 _ => ⟨_, rfl, rfl, ht9⟩) t_nil d_CP_nodes_12

theorem d_CP_between_0 : decode prog_1_method_15_code 0 = .ok (.aload_n 0, 1) := by decide +kernel
theorem d_CP_between_1 : decode prog_1_method_15_code 1 = .ok (.iload_n 1, 1) := by decide +kernel
theorem d_CP_between_2 : decode prog_1_method_15_code 2 = .ok (.iload_n 2, 1) := by decide +kernel
theorem d_CP_between_3 : decode prog_1_method_15_code 3 = .ok (.invokevirtual 61, 3) := by decide +kernel
theorem d_CP_between_6 : decode prog_1_method_15_code 6 = .ok (.istore_n 3, 1) := by decide +kernel
theorem d_CP_between_7 : decode prog_1_method_15_code 7 = .ok (.iload_n 3, 1) := by decide +kernel
theorem d_CP_between_8 : decode prog_1_method_15_code 8 = .ok (.ifCond .eq 5, 3) := by decide +kernel
theorem d_CP_between_11 : decode prog_1_method_15_code 11 = .ok (.iload_n 3, 1) := by decide +kernel
theorem d_CP_between_12 : decode prog_1_method_15_code 12 = .ok (.ireturn, 1) := by decide +kernel
theorem d_CP_between_13 : decode prog_1_method_15_code 13 = .ok (.aload_n 0, 1) := by decide +kernel
theorem d_CP_between_14 : decode prog_1_method_15_code 14 = .ok (.getfield 19, 3) := by decide +kernel
theorem d_CP_between_17 : decode prog_1_method_15_code 17 = .ok (.iload_n 1, 1) := by decide +kernel
theorem d_CP_between_18 : decode prog_1_method_15_code 18 = .ok (.invokevirtual 118, 3) := by decide +kernel
theorem d_CP_between_21 : decode prog_1_method_15_code 21 = .ok (.i2l, 1) := by decide +kernel
theorem d_CP_between_22 : decode prog_1_method_15_code 22 = .ok (.iload_n 2, 1) := by decide +kernel
theorem d_CP_between_23 : decode prog_1_method_15_code 23 = .ok (.invokestatic 124, 3) := by decide +kernel
theorem d_CP_between_26 : decode prog_1_method_15_code 26 = .ok (.ifCond .ne 6, 3) := by decide +kernel
theorem d_CP_between_29 : decode prog_1_method_15_code 29 = .ok (.bipush (-3), 2) := by decide +kernel
theorem d_CP_between_31 : decode prog_1_method_15_code 31 = .ok (.ireturn, 1) := by decide +kernel
theorem d_CP_between_32 : decode prog_1_method_15_code 32 = .ok (.aload_n 0, 1) := by decide +kernel
theorem d_CP_between_33 : decode prog_1_method_15_code 33 = .ok (.getfield 19, 3) := by decide +kernel
theorem d_CP_between_36 : decode prog_1_method_15_code 36 = .ok (.iload_n 1, 1) := by decide +kernel
theorem d_CP_between_37 : decode prog_1_method_15_code 37 = .ok (.iload_n 2, 1) := by decide +kernel
theorem d_CP_between_38 : decode prog_1_method_15_code 38 = .ok (.invokevirtual 161, 3) := by decide +kernel
theorem d_CP_between_41 : decode prog_1_method_15_code 41 = .ok (.ireturn, 1) := by decide +kernel
set_option maxHeartbeats 4000000 in
set_option maxRecDepth 100000 in
theorem c_CP_between_b (l : Launch) (dC : Nat → ClassId) (dI : Nat → Nat → Nat) (cI cJ cZ : ClassId) (cp g k k2 fl co sp : Nat) (a1 a2 nd ar : Nat) (pr : Int64) (x y : Int32) (hnd41 : nd ≤ 41) (hbad : (vd x nd && vd y nd) = false) : Met l ⟨"CutPoints", "between", "(II)I"⟩ (Cond.code ⟨"CutPoints", "between", "(II)I"⟩ prog_1_method_15_code 4 (some .int) :: TT) (rmk 2 43) (PR dC dI cI cJ cZ [.ref cp, .int x, .int y] [(cp, .inr (0, [.ref g, .ref k, .ref k2, .ref fl, .ref co, .ref sp])), (g, .inr (1, [.ref a1, .ref a2, .int (nI nd), .int (nI ar), .long pr]))]) (vp_Si (fun r => r = -1)) 0 0 (fun _ => False) := by
  refine Met.ofW (cc := prog_1_method_15_code) (maxL := 4) (ret := (some .int)) (by decide) rfl ?_
  intro p e s m args below meth c s₁ BB9 hml hv
  obtain ⟨rfl, hP, hK⟩ := hv
  have hx := BB9.exec
  have hb := BB9.bytes
  have hr := BB9.returns
  have hts : ∀ w ∈ TT, w.before _ s = true := fun w h => atoms_spec (ws := (Cond.code ⟨"CutPoints", "between", "(II)I"⟩ prog_1_method_15_code 4 (some .int) :: TT)) BB9.pre w (List.mem_cons_of_mem _ h)
  have hown : s.vm.findClass "CutPoints" = some m.cls := findClass_of_methodNamed BB9.named
  have hlocks := BB9.notSynchronized
  have hl := lv_entry ([.ref cp, .int x, .int y]) (n := 4) (Nat.le_of_ble_eq_true rfl)
  rw [lg_entry_eq]
  generalize (lg_sl ([.ref cp, .int x, .int y]) ++ List.replicate (4 - (lg_sl ([.ref cp, .int x, .int y])).length) Slot.unset).toArray = ls at hl ⊢
  have hl : lv_has ls 4 [(0, .ref cp), (1, .int x), (2, .int y)] := hl
  refine lv_aload_n hx hb d_CP_between_0 rfl (lv_at hl 0 rfl) ?_
  refine lv_iload_n hx hb d_CP_between_1 rfl (lv_at hl 1 rfl) ?_
  refine lv_iload_n hx hb d_CP_between_2 rfl (lv_at hl 2 rfl) ?_
  refine vp_callSi (va_Run.run (k_V (n := 2) (C := R_CP) (rest := []) ⟨hx, hb, hml, hown, hts⟩ (c_CP_pairCode l dC dI cI cJ cZ cp g k k2 fl co sp a1 a2 nd ar pr x y (by first | assumption | omega)) wml_CP_61 wim_CP_pairCode wsel_CP_pairCode wini_CP wcode_CP_pairCode (by decide +kernel) ⟨Nat.le_of_ble_eq_true rfl, Nat.le_of_ble_eq_true rfl⟩ (preV_R (q := (R_CP, F_CP, 6)) (ci := 0) (q0 := 0) (hP.sub (ws' := [(cp, .inr (0, [.ref g, .ref k, .ref k2, .ref fl, .ref co, .ref sp])), (g, .inr (1, [.ref a1, .ref a2, .int (nI nd), .int (nI ar), .long pr]))]) [0, 1] rfl) hK rfl rfl) rfl hl.1 rfl (Nat.le_of_ble_eq_true rfl) d_CP_between_3 ⟨Nat.zero_le _, Nat.zero_le _⟩)) (fun r_1 hr_2 => ?_)
  refine xe_i (y := (pcd x y nd)) hr_2 ?_
  refine xe_i (y := (-1)) (pcd_bad hbad) ?_
  refine lv_istore_n (lv' := [(3, .int (-1)), (0, .ref cp), (1, .int x), (2, .int y)]) hx hb d_CP_between_6 rfl hl (by decide) rfl (fun ls hl => ?_)
  refine lv_iload_n hx hb d_CP_between_7 rfl (lv_at hl 0 rfl) ?_
  refine lv_if_eq (tgt := 13) hx hb d_CP_between_8 (by decide) (fun c9 => absurd c9 (by decide : ¬ ((-1) : Int32) = 0)) (fun _ => ?_)
  refine lv_iload_n hx hb d_CP_between_11 rfl (lv_at hl 0 rfl) ?_
  exact W.iret (v := (-1)) hx hb hr (fun t9 ht9 _ => ⟨_, rfl, rfl, ht9⟩) t_nil d_CP_between_12

set_option maxHeartbeats 4000000 in
set_option maxRecDepth 100000 in
theorem c_CP_between_s (l : Launch) (dC : Nat → ClassId) (dI : Nat → Nat → Nat) (cI cJ cZ : ClassId) (cp g k k2 fl co sp : Nat) (a1 a2 nd ar : Nat) (pr : Int64) (a b : Nat) (hnd14 : nd ≤ 14) (ha : a < nd) (hab : a = b) : Met l ⟨"CutPoints", "between", "(II)I"⟩ (Cond.code ⟨"CutPoints", "between", "(II)I"⟩ prog_1_method_15_code 4 (some .int) :: TT) (rmk 2 43) (PR dC dI cI cJ cZ [.ref cp, .int (nI a), .int (nI b)] [(cp, .inr (0, [.ref g, .ref k, .ref k2, .ref fl, .ref co, .ref sp])), (g, .inr (1, [.ref a1, .ref a2, .int (nI nd), .int (nI ar), .long pr]))]) (vp_Si (fun r => r = -3)) 0 0 (fun _ => False) := by
  refine Met.ofW (cc := prog_1_method_15_code) (maxL := 4) (ret := (some .int)) (by decide) rfl ?_
  intro p e s m args below meth c s₁ BB9 hml hv
  obtain ⟨rfl, hP, hK⟩ := hv
  have hx := BB9.exec
  have hb := BB9.bytes
  have hr := BB9.returns
  have hts : ∀ w ∈ TT, w.before _ s = true := fun w h => atoms_spec (ws := (Cond.code ⟨"CutPoints", "between", "(II)I"⟩ prog_1_method_15_code 4 (some .int) :: TT)) BB9.pre w (List.mem_cons_of_mem _ h)
  have hown : s.vm.findClass "CutPoints" = some m.cls := findClass_of_methodNamed BB9.named
  have hlocks := BB9.notSynchronized
  have hl := lv_entry ([.ref cp, .int (nI a), .int (nI b)]) (n := 4) (Nat.le_of_ble_eq_true rfl)
  rw [lg_entry_eq]
  generalize (lg_sl ([.ref cp, .int (nI a), .int (nI b)]) ++ List.replicate (4 - (lg_sl ([.ref cp, .int (nI a), .int (nI b)])).length) Slot.unset).toArray = ls at hl ⊢
  have hl : lv_has ls 4 [(0, .ref cp), (1, .int (nI a)), (2, .int (nI b))] := hl
  refine lv_aload_n hx hb d_CP_between_0 rfl (lv_at hl 0 rfl) ?_
  refine lv_iload_n hx hb d_CP_between_1 rfl (lv_at hl 1 rfl) ?_
  refine lv_iload_n hx hb d_CP_between_2 rfl (lv_at hl 2 rfl) ?_
  refine vp_callSi (va_Run.run (k_V (n := 2) (C := R_CP) (rest := []) ⟨hx, hb, hml, hown, hts⟩ (c_CP_pairCode l dC dI cI cJ cZ cp g k k2 fl co sp a1 a2 nd ar pr (nI a) (nI b) (by first | assumption | omega)) wml_CP_61 wim_CP_pairCode wsel_CP_pairCode wini_CP wcode_CP_pairCode (by decide +kernel) ⟨Nat.le_of_ble_eq_true rfl, Nat.le_of_ble_eq_true rfl⟩ (preV_R (q := (R_CP, F_CP, 6)) (ci := 0) (q0 := 0) (hP.sub (ws' := [(cp, .inr (0, [.ref g, .ref k, .ref k2, .ref fl, .ref co, .ref sp])), (g, .inr (1, [.ref a1, .ref a2, .int (nI nd), .int (nI ar), .long pr]))]) [0, 1] rfl) hK rfl rfl) rfl hl.1 rfl (Nat.le_of_ble_eq_true rfl) d_CP_between_3 ⟨Nat.zero_le _, Nat.zero_le _⟩)) (fun r_1 hr_2 => ?_)
  refine xe_i (y := (pcd (nI a) (nI b) nd)) hr_2 ?_
  refine xe_i (y := (-3)) (pcd_same hnd14 ha hab) ?_
  refine lv_istore_n (lv' := [(3, .int (-3)), (0, .ref cp), (1, .int (nI a)), (2, .int (nI b))]) hx hb d_CP_between_6 rfl hl (by decide) rfl (fun ls hl => ?_)
  refine lv_iload_n hx hb d_CP_between_7 rfl (lv_at hl 0 rfl) ?_
  refine lv_if_eq (tgt := 13) hx hb d_CP_between_8 (by decide) (fun c9 => absurd c9 (by decide : ¬ ((-3) : Int32) = 0)) (fun _ => ?_)
  refine lv_iload_n hx hb d_CP_between_11 rfl (lv_at hl 0 rfl) ?_
  exact W.iret (v := (-3)) hx hb hr (fun t9 ht9 _ => ⟨_, rfl, rfl, ht9⟩) t_nil d_CP_between_12

theorem d_CP_mends_0 : decode prog_1_method_16_code 0 = .ok (.aload_n 0, 1) := by decide +kernel
theorem d_CP_mends_1 : decode prog_1_method_16_code 1 = .ok (.iload_n 1, 1) := by decide +kernel
theorem d_CP_mends_2 : decode prog_1_method_16_code 2 = .ok (.iload_n 2, 1) := by decide +kernel
theorem d_CP_mends_3 : decode prog_1_method_16_code 3 = .ok (.invokevirtual 61, 3) := by decide +kernel
theorem d_CP_mends_6 : decode prog_1_method_16_code 6 = .ok (.istore_n 3, 1) := by decide +kernel
theorem d_CP_mends_7 : decode prog_1_method_16_code 7 = .ok (.iload_n 3, 1) := by decide +kernel
theorem d_CP_mends_8 : decode prog_1_method_16_code 8 = .ok (.ifCond .eq 5, 3) := by decide +kernel
theorem d_CP_mends_11 : decode prog_1_method_16_code 11 = .ok (.iload_n 3, 1) := by decide +kernel
theorem d_CP_mends_12 : decode prog_1_method_16_code 12 = .ok (.ireturn, 1) := by decide +kernel
theorem d_CP_mends_13 : decode prog_1_method_16_code 13 = .ok (.aload_n 0, 1) := by decide +kernel
theorem d_CP_mends_14 : decode prog_1_method_16_code 14 = .ok (.getfield 12, 3) := by decide +kernel
theorem d_CP_mends_17 : decode prog_1_method_16_code 17 = .ok (.bipush 40, 2) := by decide +kernel
theorem d_CP_mends_19 : decode prog_1_method_16_code 19 = .ok (.iload_n 1, 1) := by decide +kernel
theorem d_CP_mends_20 : decode prog_1_method_16_code 20 = .ok (.iload_n 2, 1) := by decide +kernel
theorem d_CP_mends_21 : decode prog_1_method_16_code 21 = .ok (.invokevirtual 65, 3) := by decide +kernel
theorem d_CP_mends_24 : decode prog_1_method_16_code 24 = .ok (.aload_n 0, 1) := by decide +kernel
theorem d_CP_mends_25 : decode prog_1_method_16_code 25 = .ok (.getfield 23, 3) := by decide +kernel
theorem d_CP_mends_28 : decode prog_1_method_16_code 28 = .ok (.aload_n 0, 1) := by decide +kernel
theorem d_CP_mends_29 : decode prog_1_method_16_code 29 = .ok (.getfield 12, 3) := by decide +kernel
theorem d_CP_mends_32 : decode prog_1_method_16_code 32 = .ok (.aload_n 0, 1) := by decide +kernel
theorem d_CP_mends_33 : decode prog_1_method_16_code 33 = .ok (.getfield 12, 3) := by decide +kernel
theorem d_CP_mends_36 : decode prog_1_method_16_code 36 = .ok (.getfield 54, 3) := by decide +kernel
theorem d_CP_mends_39 : decode prog_1_method_16_code 39 = .ok (.ldc2_w 164, 3) := by decide +kernel
theorem d_CP_mends_42 : decode prog_1_method_16_code 42 = .ok (.lor, 1) := by decide +kernel
theorem d_CP_mends_43 : decode prog_1_method_16_code 43 = .ok (.invokevirtual 166, 3) := by decide +kernel
theorem d_CP_mends_46 : decode prog_1_method_16_code 46 = .ok (.aload_n 0, 1) := by decide +kernel
theorem d_CP_mends_47 : decode prog_1_method_16_code 47 = .ok (.getfield 23, 3) := by decide +kernel
theorem d_CP_mends_50 : decode prog_1_method_16_code 50 = .ok (.invokevirtual 104, 3) := by decide +kernel
theorem d_CP_mends_53 : decode prog_1_method_16_code 53 = .ok (.aload_n 0, 1) := by decide +kernel
theorem d_CP_mends_54 : decode prog_1_method_16_code 54 = .ok (.getfield 19, 3) := by decide +kernel
theorem d_CP_mends_57 : decode prog_1_method_16_code 57 = .ok (.invokevirtual 104, 3) := by decide +kernel
theorem d_CP_mends_60 : decode prog_1_method_16_code 60 = .ok (.if_icmp .ge 7, 3) := by decide +kernel
theorem d_CP_mends_63 : decode prog_1_method_16_code 63 = .ok (.iconst 1, 1) := by decide +kernel
theorem d_CP_mends_64 : decode prog_1_method_16_code 64 = .ok (.goto 4, 3) := by decide +kernel
theorem d_CP_mends_67 : decode prog_1_method_16_code 67 = .ok (.iconst 0, 1) := by decide +kernel
theorem d_CP_mends_68 : decode prog_1_method_16_code 68 = .ok (.ireturn, 1) := by decide +kernel
set_option maxHeartbeats 4000000 in
set_option maxRecDepth 100000 in
theorem c_CP_mends_b (l : Launch) (dC : Nat → ClassId) (dI : Nat → Nat → Nat) (cI cJ cZ : ClassId) (cp g k k2 fl co sp : Nat) (a1 a2 nd ar : Nat) (pr : Int64) (x y : Int32) (hnd41 : nd ≤ 41) (hbad : (vd x nd && vd y nd) = false) : Met l ⟨"CutPoints", "mends", "(II)I"⟩ (Cond.code ⟨"CutPoints", "mends", "(II)I"⟩ prog_1_method_16_code 4 (some .int) :: TT) (rmk 2 43) (PR dC dI cI cJ cZ [.ref cp, .int x, .int y] [(cp, .inr (0, [.ref g, .ref k, .ref k2, .ref fl, .ref co, .ref sp])), (g, .inr (1, [.ref a1, .ref a2, .int (nI nd), .int (nI ar), .long pr]))]) (vp_Si (fun r => r = -1)) 0 0 (fun _ => False) := by
  refine Met.ofW (cc := prog_1_method_16_code) (maxL := 4) (ret := (some .int)) (by decide) rfl ?_
  intro p e s m args below meth c s₁ BB9 hml hv
  obtain ⟨rfl, hP, hK⟩ := hv
  have hx := BB9.exec
  have hb := BB9.bytes
  have hr := BB9.returns
  have hts : ∀ w ∈ TT, w.before _ s = true := fun w h => atoms_spec (ws := (Cond.code ⟨"CutPoints", "mends", "(II)I"⟩ prog_1_method_16_code 4 (some .int) :: TT)) BB9.pre w (List.mem_cons_of_mem _ h)
  have hown : s.vm.findClass "CutPoints" = some m.cls := findClass_of_methodNamed BB9.named
  have hlocks := BB9.notSynchronized
  have hl := lv_entry ([.ref cp, .int x, .int y]) (n := 4) (Nat.le_of_ble_eq_true rfl)
  rw [lg_entry_eq]
  generalize (lg_sl ([.ref cp, .int x, .int y]) ++ List.replicate (4 - (lg_sl ([.ref cp, .int x, .int y])).length) Slot.unset).toArray = ls at hl ⊢
  have hl : lv_has ls 4 [(0, .ref cp), (1, .int x), (2, .int y)] := hl
  refine lv_aload_n hx hb d_CP_mends_0 rfl (lv_at hl 0 rfl) ?_
  refine lv_iload_n hx hb d_CP_mends_1 rfl (lv_at hl 1 rfl) ?_
  refine lv_iload_n hx hb d_CP_mends_2 rfl (lv_at hl 2 rfl) ?_
  refine vp_callSi (va_Run.run (k_V (n := 2) (C := R_CP) (rest := []) ⟨hx, hb, hml, hown, hts⟩ (c_CP_pairCode l dC dI cI cJ cZ cp g k k2 fl co sp a1 a2 nd ar pr x y (by first | assumption | omega)) wml_CP_61 wim_CP_pairCode wsel_CP_pairCode wini_CP wcode_CP_pairCode (by decide +kernel) ⟨Nat.le_of_ble_eq_true rfl, Nat.le_of_ble_eq_true rfl⟩ (preV_R (q := (R_CP, F_CP, 6)) (ci := 0) (q0 := 0) (hP.sub (ws' := [(cp, .inr (0, [.ref g, .ref k, .ref k2, .ref fl, .ref co, .ref sp])), (g, .inr (1, [.ref a1, .ref a2, .int (nI nd), .int (nI ar), .long pr]))]) [0, 1] rfl) hK rfl rfl) rfl hl.1 rfl (Nat.le_of_ble_eq_true rfl) d_CP_mends_3 ⟨Nat.zero_le _, Nat.zero_le _⟩)) (fun r_1 hr_2 => ?_)
  refine xe_i (y := (pcd x y nd)) hr_2 ?_
  refine xe_i (y := (-1)) (pcd_bad hbad) ?_
  refine lv_istore_n (lv' := [(3, .int (-1)), (0, .ref cp), (1, .int x), (2, .int y)]) hx hb d_CP_mends_6 rfl hl (by decide) rfl (fun ls hl => ?_)
  refine lv_iload_n hx hb d_CP_mends_7 rfl (lv_at hl 0 rfl) ?_
  refine lv_if_eq (tgt := 13) hx hb d_CP_mends_8 (by decide) (fun c9 => absurd c9 (by decide : ¬ ((-1) : Int32) = 0)) (fun _ => ?_)
  refine lv_iload_n hx hb d_CP_mends_11 rfl (lv_at hl 0 rfl) ?_
  exact W.iret (v := (-1)) hx hb hr (fun t9 ht9 _ => ⟨_, rfl, rfl, ht9⟩) t_nil d_CP_mends_12

set_option maxHeartbeats 4000000 in
set_option maxRecDepth 100000 in
theorem c_CP_mends_s (l : Launch) (dC : Nat → ClassId) (dI : Nat → Nat → Nat) (cI cJ cZ : ClassId) (cp g k k2 fl co sp : Nat) (a1 a2 nd ar : Nat) (pr : Int64) (a b : Nat) (hnd14 : nd ≤ 14) (ha : a < nd) (hab : a = b) : Met l ⟨"CutPoints", "mends", "(II)I"⟩ (Cond.code ⟨"CutPoints", "mends", "(II)I"⟩ prog_1_method_16_code 4 (some .int) :: TT) (rmk 2 43) (PR dC dI cI cJ cZ [.ref cp, .int (nI a), .int (nI b)] [(cp, .inr (0, [.ref g, .ref k, .ref k2, .ref fl, .ref co, .ref sp])), (g, .inr (1, [.ref a1, .ref a2, .int (nI nd), .int (nI ar), .long pr]))]) (vp_Si (fun r => r = -3)) 0 0 (fun _ => False) := by
  refine Met.ofW (cc := prog_1_method_16_code) (maxL := 4) (ret := (some .int)) (by decide) rfl ?_
  intro p e s m args below meth c s₁ BB9 hml hv
  obtain ⟨rfl, hP, hK⟩ := hv
  have hx := BB9.exec
  have hb := BB9.bytes
  have hr := BB9.returns
  have hts : ∀ w ∈ TT, w.before _ s = true := fun w h => atoms_spec (ws := (Cond.code ⟨"CutPoints", "mends", "(II)I"⟩ prog_1_method_16_code 4 (some .int) :: TT)) BB9.pre w (List.mem_cons_of_mem _ h)
  have hown : s.vm.findClass "CutPoints" = some m.cls := findClass_of_methodNamed BB9.named
  have hlocks := BB9.notSynchronized
  have hl := lv_entry ([.ref cp, .int (nI a), .int (nI b)]) (n := 4) (Nat.le_of_ble_eq_true rfl)
  rw [lg_entry_eq]
  generalize (lg_sl ([.ref cp, .int (nI a), .int (nI b)]) ++ List.replicate (4 - (lg_sl ([.ref cp, .int (nI a), .int (nI b)])).length) Slot.unset).toArray = ls at hl ⊢
  have hl : lv_has ls 4 [(0, .ref cp), (1, .int (nI a)), (2, .int (nI b))] := hl
  refine lv_aload_n hx hb d_CP_mends_0 rfl (lv_at hl 0 rfl) ?_
  refine lv_iload_n hx hb d_CP_mends_1 rfl (lv_at hl 1 rfl) ?_
  refine lv_iload_n hx hb d_CP_mends_2 rfl (lv_at hl 2 rfl) ?_
  refine vp_callSi (va_Run.run (k_V (n := 2) (C := R_CP) (rest := []) ⟨hx, hb, hml, hown, hts⟩ (c_CP_pairCode l dC dI cI cJ cZ cp g k k2 fl co sp a1 a2 nd ar pr (nI a) (nI b) (by first | assumption | omega)) wml_CP_61 wim_CP_pairCode wsel_CP_pairCode wini_CP wcode_CP_pairCode (by decide +kernel) ⟨Nat.le_of_ble_eq_true rfl, Nat.le_of_ble_eq_true rfl⟩ (preV_R (q := (R_CP, F_CP, 6)) (ci := 0) (q0 := 0) (hP.sub (ws' := [(cp, .inr (0, [.ref g, .ref k, .ref k2, .ref fl, .ref co, .ref sp])), (g, .inr (1, [.ref a1, .ref a2, .int (nI nd), .int (nI ar), .long pr]))]) [0, 1] rfl) hK rfl rfl) rfl hl.1 rfl (Nat.le_of_ble_eq_true rfl) d_CP_mends_3 ⟨Nat.zero_le _, Nat.zero_le _⟩)) (fun r_1 hr_2 => ?_)
  refine xe_i (y := (pcd (nI a) (nI b) nd)) hr_2 ?_
  refine xe_i (y := (-3)) (pcd_same hnd14 ha hab) ?_
  refine lv_istore_n (lv' := [(3, .int (-3)), (0, .ref cp), (1, .int (nI a)), (2, .int (nI b))]) hx hb d_CP_mends_6 rfl hl (by decide) rfl (fun ls hl => ?_)
  refine lv_iload_n hx hb d_CP_mends_7 rfl (lv_at hl 0 rfl) ?_
  refine lv_if_eq (tgt := 13) hx hb d_CP_mends_8 (by decide) (fun c9 => absurd c9 (by decide : ¬ ((-3) : Int32) = 0)) (fun _ => ?_)
  refine lv_iload_n hx hb d_CP_mends_11 rfl (lv_at hl 0 rfl) ?_
  exact W.iret (v := (-3)) hx hb hr (fun t9 ht9 _ => ⟨_, rfl, rfl, ht9⟩) t_nil d_CP_mends_12

theorem d_CP_part_0 : decode prog_1_method_7_code 0 = .ok (.aload_n 0, 1) := by decide +kernel
theorem d_CP_part_1 : decode prog_1_method_7_code 1 = .ok (.getfield 12, 3) := by decide +kernel
theorem d_CP_part_4 : decode prog_1_method_7_code 4 = .ok (.iload_n 1, 1) := by decide +kernel
theorem d_CP_part_5 : decode prog_1_method_7_code 5 = .ok (.invokevirtual 115, 3) := by decide +kernel
theorem d_CP_part_8 : decode prog_1_method_7_code 8 = .ok (.ifCond .ne 5, 3) := by decide +kernel
theorem d_CP_part_11 : decode prog_1_method_7_code 11 = .ok (.iconst (-1), 1) := by decide +kernel
theorem d_CP_part_12 : decode prog_1_method_7_code 12 = .ok (.ireturn, 1) := by decide +kernel
theorem d_CP_part_13 : decode prog_1_method_7_code 13 = .ok (.aload_n 0, 1) := by decide +kernel
theorem d_CP_part_14 : decode prog_1_method_7_code 14 = .ok (.getfield 19, 3) := by decide +kernel
theorem d_CP_part_17 : decode prog_1_method_7_code 17 = .ok (.iload_n 1, 1) := by decide +kernel
theorem d_CP_part_18 : decode prog_1_method_7_code 18 = .ok (.invokevirtual 118, 3) := by decide +kernel
theorem d_CP_part_21 : decode prog_1_method_7_code 21 = .ok (.invokestatic 121, 3) := by decide +kernel
theorem d_CP_part_24 : decode prog_1_method_7_code 24 = .ok (.ireturn, 1) := by decide +kernel
set_option maxHeartbeats 4000000 in
set_option maxRecDepth 100000 in
theorem c_CP_part_b (l : Launch) (dC : Nat → ClassId) (dI : Nat → Nat → Nat) (cI cJ cZ : ClassId) (cp g k k2 fl co sp : Nat) (a1 a2 nd ar : Nat) (pr : Int64) (x : Int32) (hnd : nd ≤ 41) (hbad : vd x nd = false) : Met l ⟨"CutPoints", "part", "(I)I"⟩ (Cond.code ⟨"CutPoints", "part", "(I)I"⟩ prog_1_method_7_code 2 (some .int) :: TT) (rmk 1 21) (PR dC dI cI cJ cZ [.ref cp, .int x] [(cp, .inr (0, [.ref g, .ref k, .ref k2, .ref fl, .ref co, .ref sp])), (g, .inr (1, [.ref a1, .ref a2, .int (nI nd), .int (nI ar), .long pr]))]) (vp_Si (fun r => r = -1)) 0 0 (fun _ => False) := by
  refine Met.ofW (cc := prog_1_method_7_code) (maxL := 2) (ret := (some .int)) (by decide) rfl ?_
  intro p e s m args below meth c s₁ BB9 hml hv
  obtain ⟨rfl, hP, hK⟩ := hv
  have hx := BB9.exec
  have hb := BB9.bytes
  have hr := BB9.returns
  have hts : ∀ w ∈ TT, w.before _ s = true := fun w h => atoms_spec (ws := (Cond.code ⟨"CutPoints", "part", "(I)I"⟩ prog_1_method_7_code 2 (some .int) :: TT)) BB9.pre w (List.mem_cons_of_mem _ h)
  have hown : s.vm.findClass "CutPoints" = some m.cls := findClass_of_methodNamed BB9.named
  have hlocks := BB9.notSynchronized
  have hl := lv_entry ([.ref cp, .int x]) (n := 2) (Nat.le_of_ble_eq_true rfl)
  rw [lg_entry_eq]
  generalize (lg_sl ([.ref cp, .int x]) ++ List.replicate (2 - (lg_sl ([.ref cp, .int x])).length) Slot.unset).toArray = ls at hl ⊢
  have hl : lv_has ls 2 [(0, .ref cp), (1, .int x)] := hl
  refine lv_aload_n hx hb d_CP_part_0 rfl (lv_at hl 0 rfl) ?_
  refine va_get (D := (dC, dI)) (ci := 0) (v := .ref g) (C := R_CP) (T := F_CP) (N := 6) hx hb hts in_CP hown hK.1 hP 0 rfl rfl 0 (by decide) (hts _ wfl_CP_12) (fun _ h9 => h9) rfl d_CP_part_1 ?_
  refine lv_iload_n hx hb d_CP_part_4 rfl (lv_at hl 1 rfl) ?_
  refine vp_callSi (va_Run.run (k_V (n := 1) (C := R_GR) (rest := []) ⟨hx, hb, hml, hown, hts⟩ (c_GR_hasNode l dC dI cI cJ cZ g a1 a2 nd ar pr x (by first | assumption | omega)) wml_CP_115 wim_GR_hasNode wsel_GR_hasNode wini_GR wcode_GR_hasNode (by decide +kernel) ⟨Nat.le_of_ble_eq_true rfl, Nat.le_of_ble_eq_true rfl⟩ (preV_R (q := (R_GR, F_GR, 5)) (ci := 1) (q0 := 0) (hP.sub (ws' := [(g, .inr (1, [.ref a1, .ref a2, .int (nI nd), .int (nI ar), .long pr]))]) [1] rfl) hK rfl rfl) rfl hl.1 rfl (Nat.le_of_ble_eq_true rfl) d_CP_part_5 ⟨Nat.zero_le _, Nat.zero_le _⟩)) (fun r_1 hr_2 => ?_)
  refine xe_i (y := (bI (vd x nd))) hr_2 ?_
  refine xe_i (y := (bI false)) (by rw [hbad]) ?_
  refine lv_if_ne (tgt := 13) hx hb d_CP_part_8 (by decide) (fun c9 => absurd (by decide : ((bI false) : Int32) = 0) c9) (fun _ => ?_)
  refine lv_iconst (v := (-1)) hx hb d_CP_part_11 (by decide) ?_
  exact W.iret (v := (-1)) hx hb hr (fun t9 ht9 _ => ⟨_, rfl, rfl, ht9⟩) t_nil d_CP_part_12

theorem d_CP_falls_0 : decode prog_1_method_9_code 0 = .ok (.aload_n 0, 1) := by decide +kernel
theorem d_CP_falls_1 : decode prog_1_method_9_code 1 = .ok (.getfield 12, 3) := by decide +kernel
theorem d_CP_falls_4 : decode prog_1_method_9_code 4 = .ok (.iload_n 1, 1) := by decide +kernel
theorem d_CP_falls_5 : decode prog_1_method_9_code 5 = .ok (.invokevirtual 115, 3) := by decide +kernel
theorem d_CP_falls_8 : decode prog_1_method_9_code 8 = .ok (.ifCond .ne 5, 3) := by decide +kernel
theorem d_CP_falls_11 : decode prog_1_method_9_code 11 = .ok (.iconst (-1), 1) := by decide +kernel
theorem d_CP_falls_12 : decode prog_1_method_9_code 12 = .ok (.ireturn, 1) := by decide +kernel
theorem d_CP_falls_13 : decode prog_1_method_9_code 13 = .ok (.aload_n 0, 1) := by decide +kernel
theorem d_CP_falls_14 : decode prog_1_method_9_code 14 = .ok (.getfield 19, 3) := by decide +kernel
theorem d_CP_falls_17 : decode prog_1_method_9_code 17 = .ok (.iload_n 1, 1) := by decide +kernel
theorem d_CP_falls_18 : decode prog_1_method_9_code 18 = .ok (.invokevirtual 128, 3) := by decide +kernel
theorem d_CP_falls_21 : decode prog_1_method_9_code 21 = .ok (.ireturn, 1) := by decide +kernel
set_option maxHeartbeats 4000000 in
set_option maxRecDepth 100000 in
theorem c_CP_falls_b (l : Launch) (dC : Nat → ClassId) (dI : Nat → Nat → Nat) (cI cJ cZ : ClassId) (cp g k k2 fl co sp : Nat) (a1 a2 nd ar : Nat) (pr : Int64) (x : Int32) (hnd : nd ≤ 41) (hbad : vd x nd = false) : Met l ⟨"CutPoints", "falls", "(I)I"⟩ (Cond.code ⟨"CutPoints", "falls", "(I)I"⟩ prog_1_method_9_code 2 (some .int) :: TT) (rmk 1 21) (PR dC dI cI cJ cZ [.ref cp, .int x] [(cp, .inr (0, [.ref g, .ref k, .ref k2, .ref fl, .ref co, .ref sp])), (g, .inr (1, [.ref a1, .ref a2, .int (nI nd), .int (nI ar), .long pr]))]) (vp_Si (fun r => r = -1)) 0 0 (fun _ => False) := by
  refine Met.ofW (cc := prog_1_method_9_code) (maxL := 2) (ret := (some .int)) (by decide) rfl ?_
  intro p e s m args below meth c s₁ BB9 hml hv
  obtain ⟨rfl, hP, hK⟩ := hv
  have hx := BB9.exec
  have hb := BB9.bytes
  have hr := BB9.returns
  have hts : ∀ w ∈ TT, w.before _ s = true := fun w h => atoms_spec (ws := (Cond.code ⟨"CutPoints", "falls", "(I)I"⟩ prog_1_method_9_code 2 (some .int) :: TT)) BB9.pre w (List.mem_cons_of_mem _ h)
  have hown : s.vm.findClass "CutPoints" = some m.cls := findClass_of_methodNamed BB9.named
  have hlocks := BB9.notSynchronized
  have hl := lv_entry ([.ref cp, .int x]) (n := 2) (Nat.le_of_ble_eq_true rfl)
  rw [lg_entry_eq]
  generalize (lg_sl ([.ref cp, .int x]) ++ List.replicate (2 - (lg_sl ([.ref cp, .int x])).length) Slot.unset).toArray = ls at hl ⊢
  have hl : lv_has ls 2 [(0, .ref cp), (1, .int x)] := hl
  refine lv_aload_n hx hb d_CP_falls_0 rfl (lv_at hl 0 rfl) ?_
  refine va_get (D := (dC, dI)) (ci := 0) (v := .ref g) (C := R_CP) (T := F_CP) (N := 6) hx hb hts in_CP hown hK.1 hP 0 rfl rfl 0 (by decide) (hts _ wfl_CP_12) (fun _ h9 => h9) rfl d_CP_falls_1 ?_
  refine lv_iload_n hx hb d_CP_falls_4 rfl (lv_at hl 1 rfl) ?_
  refine vp_callSi (va_Run.run (k_V (n := 1) (C := R_GR) (rest := []) ⟨hx, hb, hml, hown, hts⟩ (c_GR_hasNode l dC dI cI cJ cZ g a1 a2 nd ar pr x (by first | assumption | omega)) wml_CP_115 wim_GR_hasNode wsel_GR_hasNode wini_GR wcode_GR_hasNode (by decide +kernel) ⟨Nat.le_of_ble_eq_true rfl, Nat.le_of_ble_eq_true rfl⟩ (preV_R (q := (R_GR, F_GR, 5)) (ci := 1) (q0 := 0) (hP.sub (ws' := [(g, .inr (1, [.ref a1, .ref a2, .int (nI nd), .int (nI ar), .long pr]))]) [1] rfl) hK rfl rfl) rfl hl.1 rfl (Nat.le_of_ble_eq_true rfl) d_CP_falls_5 ⟨Nat.zero_le _, Nat.zero_le _⟩)) (fun r_1 hr_2 => ?_)
  refine xe_i (y := (bI (vd x nd))) hr_2 ?_
  refine xe_i (y := (bI false)) (by rw [hbad]) ?_
  refine lv_if_ne (tgt := 13) hx hb d_CP_falls_8 (by decide) (fun c9 => absurd (by decide : ((bI false) : Int32) = 0) c9) (fun _ => ?_)
  refine lv_iconst (v := (-1)) hx hb d_CP_falls_11 (by decide) ?_
  exact W.iret (v := (-1)) hx hb hr (fun t9 ht9 _ => ⟨_, rfl, rfl, ht9⟩) t_nil d_CP_falls_12

theorem d_CP_twin_0 : decode prog_1_method_11_code 0 = .ok (.aload_n 0, 1) := by decide +kernel
theorem d_CP_twin_1 : decode prog_1_method_11_code 1 = .ok (.getfield 12, 3) := by decide +kernel
theorem d_CP_twin_4 : decode prog_1_method_11_code 4 = .ok (.iload_n 1, 1) := by decide +kernel
theorem d_CP_twin_5 : decode prog_1_method_11_code 5 = .ok (.invokevirtual 115, 3) := by decide +kernel
theorem d_CP_twin_8 : decode prog_1_method_11_code 8 = .ok (.ifCond .ne 5, 3) := by decide +kernel
theorem d_CP_twin_11 : decode prog_1_method_11_code 11 = .ok (.iconst (-1), 1) := by decide +kernel
theorem d_CP_twin_12 : decode prog_1_method_11_code 12 = .ok (.ireturn, 1) := by decide +kernel
theorem d_CP_twin_13 : decode prog_1_method_11_code 13 = .ok (.aload_n 0, 1) := by decide +kernel
theorem d_CP_twin_14 : decode prog_1_method_11_code 14 = .ok (.getfield 19, 3) := by decide +kernel
theorem d_CP_twin_17 : decode prog_1_method_11_code 17 = .ok (.iload_n 1, 1) := by decide +kernel
theorem d_CP_twin_18 : decode prog_1_method_11_code 18 = .ok (.invokevirtual 137, 3) := by decide +kernel
theorem d_CP_twin_21 : decode prog_1_method_11_code 21 = .ok (.invokestatic 121, 3) := by decide +kernel
theorem d_CP_twin_24 : decode prog_1_method_11_code 24 = .ok (.ireturn, 1) := by decide +kernel
set_option maxHeartbeats 4000000 in
set_option maxRecDepth 100000 in
theorem c_CP_twin_b (l : Launch) (dC : Nat → ClassId) (dI : Nat → Nat → Nat) (cI cJ cZ : ClassId) (cp g k k2 fl co sp : Nat) (a1 a2 nd ar : Nat) (pr : Int64) (x : Int32) (hnd : nd ≤ 41) (hbad : vd x nd = false) : Met l ⟨"CutPoints", "twin", "(I)I"⟩ (Cond.code ⟨"CutPoints", "twin", "(I)I"⟩ prog_1_method_11_code 2 (some .int) :: TT) (rmk 1 21) (PR dC dI cI cJ cZ [.ref cp, .int x] [(cp, .inr (0, [.ref g, .ref k, .ref k2, .ref fl, .ref co, .ref sp])), (g, .inr (1, [.ref a1, .ref a2, .int (nI nd), .int (nI ar), .long pr]))]) (vp_Si (fun r => r = -1)) 0 0 (fun _ => False) := by
  refine Met.ofW (cc := prog_1_method_11_code) (maxL := 2) (ret := (some .int)) (by decide) rfl ?_
  intro p e s m args below meth c s₁ BB9 hml hv
  obtain ⟨rfl, hP, hK⟩ := hv
  have hx := BB9.exec
  have hb := BB9.bytes
  have hr := BB9.returns
  have hts : ∀ w ∈ TT, w.before _ s = true := fun w h => atoms_spec (ws := (Cond.code ⟨"CutPoints", "twin", "(I)I"⟩ prog_1_method_11_code 2 (some .int) :: TT)) BB9.pre w (List.mem_cons_of_mem _ h)
  have hown : s.vm.findClass "CutPoints" = some m.cls := findClass_of_methodNamed BB9.named
  have hlocks := BB9.notSynchronized
  have hl := lv_entry ([.ref cp, .int x]) (n := 2) (Nat.le_of_ble_eq_true rfl)
  rw [lg_entry_eq]
  generalize (lg_sl ([.ref cp, .int x]) ++ List.replicate (2 - (lg_sl ([.ref cp, .int x])).length) Slot.unset).toArray = ls at hl ⊢
  have hl : lv_has ls 2 [(0, .ref cp), (1, .int x)] := hl
  refine lv_aload_n hx hb d_CP_twin_0 rfl (lv_at hl 0 rfl) ?_
  refine va_get (D := (dC, dI)) (ci := 0) (v := .ref g) (C := R_CP) (T := F_CP) (N := 6) hx hb hts in_CP hown hK.1 hP 0 rfl rfl 0 (by decide) (hts _ wfl_CP_12) (fun _ h9 => h9) rfl d_CP_twin_1 ?_
  refine lv_iload_n hx hb d_CP_twin_4 rfl (lv_at hl 1 rfl) ?_
  refine vp_callSi (va_Run.run (k_V (n := 1) (C := R_GR) (rest := []) ⟨hx, hb, hml, hown, hts⟩ (c_GR_hasNode l dC dI cI cJ cZ g a1 a2 nd ar pr x (by first | assumption | omega)) wml_CP_115 wim_GR_hasNode wsel_GR_hasNode wini_GR wcode_GR_hasNode (by decide +kernel) ⟨Nat.le_of_ble_eq_true rfl, Nat.le_of_ble_eq_true rfl⟩ (preV_R (q := (R_GR, F_GR, 5)) (ci := 1) (q0 := 0) (hP.sub (ws' := [(g, .inr (1, [.ref a1, .ref a2, .int (nI nd), .int (nI ar), .long pr]))]) [1] rfl) hK rfl rfl) rfl hl.1 rfl (Nat.le_of_ble_eq_true rfl) d_CP_twin_5 ⟨Nat.zero_le _, Nat.zero_le _⟩)) (fun r_1 hr_2 => ?_)
  refine xe_i (y := (bI (vd x nd))) hr_2 ?_
  refine xe_i (y := (bI false)) (by rw [hbad]) ?_
  refine lv_if_ne (tgt := 13) hx hb d_CP_twin_8 (by decide) (fun c9 => absurd (by decide : ((bI false) : Int32) = 0) c9) (fun _ => ?_)
  refine lv_iconst (v := (-1)) hx hb d_CP_twin_11 (by decide) ?_
  exact W.iret (v := (-1)) hx hb hr (fun t9 ht9 _ => ⟨_, rfl, rfl, ht9⟩) t_nil d_CP_twin_12

theorem d_CP_turn_0 : decode prog_1_method_5_code 0 = .ok (.aload_n 0, 1) := by decide +kernel
theorem d_CP_turn_1 : decode prog_1_method_5_code 1 = .ok (.getfield 12, 3) := by decide +kernel
theorem d_CP_turn_4 : decode prog_1_method_5_code 4 = .ok (.iload_n 1, 1) := by decide +kernel
theorem d_CP_turn_5 : decode prog_1_method_5_code 5 = .ok (.invokevirtual 69, 3) := by decide +kernel
theorem d_CP_turn_8 : decode prog_1_method_5_code 8 = .ok (.ifCond .ne 5, 3) := by decide +kernel
theorem d_CP_turn_11 : decode prog_1_method_5_code 11 = .ok (.iconst (-1), 1) := by decide +kernel
theorem d_CP_turn_12 : decode prog_1_method_5_code 12 = .ok (.ireturn, 1) := by decide +kernel
theorem d_CP_turn_13 : decode prog_1_method_5_code 13 = .ok (.aload_n 0, 1) := by decide +kernel
theorem d_CP_turn_14 : decode prog_1_method_5_code 14 = .ok (.getfield 12, 3) := by decide +kernel
theorem d_CP_turn_17 : decode prog_1_method_5_code 17 = .ok (.dup, 1) := by decide +kernel
theorem d_CP_turn_18 : decode prog_1_method_5_code 18 = .ok (.getfield 54, 3) := by decide +kernel
theorem d_CP_turn_21 : decode prog_1_method_5_code 21 = .ok (.lconst 1, 1) := by decide +kernel
theorem d_CP_turn_22 : decode prog_1_method_5_code 22 = .ok (.iload_n 1, 1) := by decide +kernel
theorem d_CP_turn_23 : decode prog_1_method_5_code 23 = .ok (.lshl, 1) := by decide +kernel
theorem d_CP_turn_24 : decode prog_1_method_5_code 24 = .ok (.lxor, 1) := by decide +kernel
theorem d_CP_turn_25 : decode prog_1_method_5_code 25 = .ok (.putfield 54, 3) := by decide +kernel
theorem d_CP_turn_28 : decode prog_1_method_5_code 28 = .ok (.aload_n 0, 1) := by decide +kernel
theorem d_CP_turn_29 : decode prog_1_method_5_code 29 = .ok (.invokevirtual 58, 3) := by decide +kernel
theorem d_CP_turn_32 : decode prog_1_method_5_code 32 = .ok (.aload_n 0, 1) := by decide +kernel
theorem d_CP_turn_33 : decode prog_1_method_5_code 33 = .ok (.getfield 12, 3) := by decide +kernel
theorem d_CP_turn_36 : decode prog_1_method_5_code 36 = .ok (.iload_n 1, 1) := by decide +kernel
theorem d_CP_turn_37 : decode prog_1_method_5_code 37 = .ok (.invokevirtual 73, 3) := by decide +kernel
theorem d_CP_turn_40 : decode prog_1_method_5_code 40 = .ok (.ifCond .eq 7, 3) := by decide +kernel
theorem d_CP_turn_43 : decode prog_1_method_5_code 43 = .ok (.iconst 1, 1) := by decide +kernel
theorem d_CP_turn_44 : decode prog_1_method_5_code 44 = .ok (.goto 4, 3) := by decide +kernel
theorem d_CP_turn_47 : decode prog_1_method_5_code 47 = .ok (.iconst 0, 1) := by decide +kernel
theorem d_CP_turn_48 : decode prog_1_method_5_code 48 = .ok (.ireturn, 1) := by decide +kernel
set_option maxHeartbeats 4000000 in
set_option maxRecDepth 100000 in
theorem c_CP_turn_b (l : Launch) (dC : Nat → ClassId) (dI : Nat → Nat → Nat) (cI cJ cZ : ClassId) (cp g k k2 fl co sp : Nat) (a1 a2 nd ar : Nat) (pr : Int64) (x : Int32) (har : ar ≤ 41) (hbad : vd x ar = false) : Met l ⟨"CutPoints", "turn", "(I)I"⟩ (Cond.code ⟨"CutPoints", "turn", "(I)I"⟩ prog_1_method_5_code 2 (some .int) :: TT) (rmk 1 21) (PR dC dI cI cJ cZ [.ref cp, .int x] [(cp, .inr (0, [.ref g, .ref k, .ref k2, .ref fl, .ref co, .ref sp])), (g, .inr (1, [.ref a1, .ref a2, .int (nI nd), .int (nI ar), .long pr]))]) (vp_Si (fun r => r = -1)) 0 0 (fun _ => False) := by
  refine Met.ofW (cc := prog_1_method_5_code) (maxL := 2) (ret := (some .int)) (by decide) rfl ?_
  intro p e s m args below meth c s₁ BB9 hml hv
  obtain ⟨rfl, hP, hK⟩ := hv
  have hx := BB9.exec
  have hb := BB9.bytes
  have hr := BB9.returns
  have hts : ∀ w ∈ TT, w.before _ s = true := fun w h => atoms_spec (ws := (Cond.code ⟨"CutPoints", "turn", "(I)I"⟩ prog_1_method_5_code 2 (some .int) :: TT)) BB9.pre w (List.mem_cons_of_mem _ h)
  have hown : s.vm.findClass "CutPoints" = some m.cls := findClass_of_methodNamed BB9.named
  have hlocks := BB9.notSynchronized
  have hl := lv_entry ([.ref cp, .int x]) (n := 2) (Nat.le_of_ble_eq_true rfl)
  rw [lg_entry_eq]
  generalize (lg_sl ([.ref cp, .int x]) ++ List.replicate (2 - (lg_sl ([.ref cp, .int x])).length) Slot.unset).toArray = ls at hl ⊢
  have hl : lv_has ls 2 [(0, .ref cp), (1, .int x)] := hl
  refine lv_aload_n hx hb d_CP_turn_0 rfl (lv_at hl 0 rfl) ?_
  refine va_get (D := (dC, dI)) (ci := 0) (v := .ref g) (C := R_CP) (T := F_CP) (N := 6) hx hb hts in_CP hown hK.1 hP 0 rfl rfl 0 (by decide) (hts _ wfl_CP_12) (fun _ h9 => h9) rfl d_CP_turn_1 ?_
  refine lv_iload_n hx hb d_CP_turn_4 rfl (lv_at hl 1 rfl) ?_
  refine vp_callSi (va_Run.run (k_V (n := 1) (C := R_GR) (rest := []) ⟨hx, hb, hml, hown, hts⟩ (c_GR_hasArc l dC dI cI cJ cZ g a1 a2 nd ar pr x (by first | assumption | omega)) wml_CP_69 wim_GR_hasArc wsel_GR_hasArc wini_GR wcode_GR_hasArc (by decide +kernel) ⟨Nat.le_of_ble_eq_true rfl, Nat.le_of_ble_eq_true rfl⟩ (preV_R (q := (R_GR, F_GR, 5)) (ci := 1) (q0 := 0) (hP.sub (ws' := [(g, .inr (1, [.ref a1, .ref a2, .int (nI nd), .int (nI ar), .long pr]))]) [1] rfl) hK rfl rfl) rfl hl.1 rfl (Nat.le_of_ble_eq_true rfl) d_CP_turn_5 ⟨Nat.zero_le _, Nat.zero_le _⟩)) (fun r_1 hr_2 => ?_)
  refine xe_i (y := (bI (vd x ar))) hr_2 ?_
  refine xe_i (y := (bI false)) (by rw [hbad]) ?_
  refine lv_if_ne (tgt := 13) hx hb d_CP_turn_8 (by decide) (fun c9 => absurd (by decide : ((bI false) : Int32) = 0) c9) (fun _ => ?_)
  refine lv_iconst (v := (-1)) hx hb d_CP_turn_11 (by decide) ?_
  exact W.iret (v := (-1)) hx hb hr (fun t9 ht9 _ => ⟨_, rfl, rfl, ht9⟩) t_nil d_CP_turn_12

theorem d_CP_bridge_0 : decode prog_1_method_8_code 0 = .ok (.aload_n 0, 1) := by decide +kernel
theorem d_CP_bridge_1 : decode prog_1_method_8_code 1 = .ok (.getfield 12, 3) := by decide +kernel
theorem d_CP_bridge_4 : decode prog_1_method_8_code 4 = .ok (.iload_n 1, 1) := by decide +kernel
theorem d_CP_bridge_5 : decode prog_1_method_8_code 5 = .ok (.invokevirtual 73, 3) := by decide +kernel
theorem d_CP_bridge_8 : decode prog_1_method_8_code 8 = .ok (.ifCond .ne 5, 3) := by decide +kernel
theorem d_CP_bridge_11 : decode prog_1_method_8_code 11 = .ok (.iconst (-1), 1) := by decide +kernel
theorem d_CP_bridge_12 : decode prog_1_method_8_code 12 = .ok (.ireturn, 1) := by decide +kernel
theorem d_CP_bridge_13 : decode prog_1_method_8_code 13 = .ok (.aload_n 0, 1) := by decide +kernel
theorem d_CP_bridge_14 : decode prog_1_method_8_code 14 = .ok (.getfield 19, 3) := by decide +kernel
theorem d_CP_bridge_17 : decode prog_1_method_8_code 17 = .ok (.getfield 86, 3) := by decide +kernel
theorem d_CP_bridge_20 : decode prog_1_method_8_code 20 = .ok (.iload_n 1, 1) := by decide +kernel
theorem d_CP_bridge_21 : decode prog_1_method_8_code 21 = .ok (.invokestatic 124, 3) := by decide +kernel
theorem d_CP_bridge_24 : decode prog_1_method_8_code 24 = .ok (.ifCond .eq 7, 3) := by decide +kernel
theorem d_CP_bridge_27 : decode prog_1_method_8_code 27 = .ok (.iconst 1, 1) := by decide +kernel
theorem d_CP_bridge_28 : decode prog_1_method_8_code 28 = .ok (.goto 4, 3) := by decide +kernel
theorem d_CP_bridge_31 : decode prog_1_method_8_code 31 = .ok (.iconst 0, 1) := by decide +kernel
theorem d_CP_bridge_32 : decode prog_1_method_8_code 32 = .ok (.ireturn, 1) := by decide +kernel
set_option maxHeartbeats 4000000 in
set_option maxRecDepth 100000 in
theorem c_CP_bridge_b (l : Launch) (dC : Nat → ClassId) (dI : Nat → Nat → Nat) (cI cJ cZ : ClassId) (cp g k k2 fl co sp : Nat) (a1 a2 nd ar : Nat) (pr : Int64) (x : Int32) (har : ar ≤ 41) (hbad : (vd x ar && lb pr x.toNatClampNeg) = false) : Met l ⟨"CutPoints", "bridge", "(I)I"⟩ (Cond.code ⟨"CutPoints", "bridge", "(I)I"⟩ prog_1_method_8_code 2 (some .int) :: TT) (rmk 2 43) (PR dC dI cI cJ cZ [.ref cp, .int x] [(cp, .inr (0, [.ref g, .ref k, .ref k2, .ref fl, .ref co, .ref sp])), (g, .inr (1, [.ref a1, .ref a2, .int (nI nd), .int (nI ar), .long pr]))]) (vp_Si (fun r => r = -1)) 0 0 (fun _ => False) := by
  refine Met.ofW (cc := prog_1_method_8_code) (maxL := 2) (ret := (some .int)) (by decide) rfl ?_
  intro p e s m args below meth c s₁ BB9 hml hv
  obtain ⟨rfl, hP, hK⟩ := hv
  have hx := BB9.exec
  have hb := BB9.bytes
  have hr := BB9.returns
  have hts : ∀ w ∈ TT, w.before _ s = true := fun w h => atoms_spec (ws := (Cond.code ⟨"CutPoints", "bridge", "(I)I"⟩ prog_1_method_8_code 2 (some .int) :: TT)) BB9.pre w (List.mem_cons_of_mem _ h)
  have hown : s.vm.findClass "CutPoints" = some m.cls := findClass_of_methodNamed BB9.named
  have hlocks := BB9.notSynchronized
  have hl := lv_entry ([.ref cp, .int x]) (n := 2) (Nat.le_of_ble_eq_true rfl)
  rw [lg_entry_eq]
  generalize (lg_sl ([.ref cp, .int x]) ++ List.replicate (2 - (lg_sl ([.ref cp, .int x])).length) Slot.unset).toArray = ls at hl ⊢
  have hl : lv_has ls 2 [(0, .ref cp), (1, .int x)] := hl
  refine lv_aload_n hx hb d_CP_bridge_0 rfl (lv_at hl 0 rfl) ?_
  refine va_get (D := (dC, dI)) (ci := 0) (v := .ref g) (C := R_CP) (T := F_CP) (N := 6) hx hb hts in_CP hown hK.1 hP 0 rfl rfl 0 (by decide) (hts _ wfl_CP_12) (fun _ h9 => h9) rfl d_CP_bridge_1 ?_
  refine lv_iload_n hx hb d_CP_bridge_4 rfl (lv_at hl 1 rfl) ?_
  refine vp_callSi (va_Run.run (k_V (n := 1) (C := R_GR) (rest := []) ⟨hx, hb, hml, hown, hts⟩ (c_GR_isThere l dC dI cI cJ cZ g a1 a2 nd ar pr x (by first | assumption | omega)) wml_CP_73 wim_GR_isThere wsel_GR_isThere wini_GR wcode_GR_isThere (by decide +kernel) ⟨Nat.le_of_ble_eq_true rfl, Nat.le_of_ble_eq_true rfl⟩ (preV_R (q := (R_GR, F_GR, 5)) (ci := 1) (q0 := 0) (hP.sub (ws' := [(g, .inr (1, [.ref a1, .ref a2, .int (nI nd), .int (nI ar), .long pr]))]) [1] rfl) hK rfl rfl) rfl hl.1 rfl (Nat.le_of_ble_eq_true rfl) d_CP_bridge_5 ⟨Nat.zero_le _, Nat.zero_le _⟩)) (fun r_1 hr_2 => ?_)
  refine xe_i (y := (bI (vd x ar && lb pr x.toNatClampNeg))) hr_2 ?_
  refine xe_i (y := (bI false)) (by rw [hbad]) ?_
  refine lv_if_ne (tgt := 13) hx hb d_CP_bridge_8 (by decide) (fun c9 => absurd (by decide : ((bI false) : Int32) = 0) c9) (fun _ => ?_)
  refine lv_iconst (v := (-1)) hx hb d_CP_bridge_11 (by decide) ?_
  exact W.iret (v := (-1)) hx hb hr (fun t9 ht9 _ => ⟨_, rfl, rfl, ht9⟩) t_nil d_CP_bridge_12

theorem d_CP_block_0 : decode prog_1_method_10_code 0 = .ok (.aload_n 0, 1) := by decide +kernel
theorem d_CP_block_1 : decode prog_1_method_10_code 1 = .ok (.getfield 12, 3) := by decide +kernel
theorem d_CP_block_4 : decode prog_1_method_10_code 4 = .ok (.iload_n 1, 1) := by decide +kernel
theorem d_CP_block_5 : decode prog_1_method_10_code 5 = .ok (.invokevirtual 73, 3) := by decide +kernel
theorem d_CP_block_8 : decode prog_1_method_10_code 8 = .ok (.ifCond .ne 5, 3) := by decide +kernel
theorem d_CP_block_11 : decode prog_1_method_10_code 11 = .ok (.iconst (-1), 1) := by decide +kernel
theorem d_CP_block_12 : decode prog_1_method_10_code 12 = .ok (.ireturn, 1) := by decide +kernel
theorem d_CP_block_13 : decode prog_1_method_10_code 13 = .ok (.aload_n 0, 1) := by decide +kernel
theorem d_CP_block_14 : decode prog_1_method_10_code 14 = .ok (.getfield 19, 3) := by decide +kernel
theorem d_CP_block_17 : decode prog_1_method_10_code 17 = .ok (.getfield 92, 3) := by decide +kernel
theorem d_CP_block_20 : decode prog_1_method_10_code 20 = .ok (.iload_n 1, 1) := by decide +kernel
theorem d_CP_block_21 : decode prog_1_method_10_code 21 = .ok (.invokevirtual 131, 3) := by decide +kernel
theorem d_CP_block_24 : decode prog_1_method_10_code 24 = .ok (.invokestatic 135, 3) := by decide +kernel
theorem d_CP_block_27 : decode prog_1_method_10_code 27 = .ok (.ireturn, 1) := by decide +kernel
set_option maxHeartbeats 4000000 in
set_option maxRecDepth 100000 in
theorem c_CP_block_b (l : Launch) (dC : Nat → ClassId) (dI : Nat → Nat → Nat) (cI cJ cZ : ClassId) (cp g k k2 fl co sp : Nat) (a1 a2 nd ar : Nat) (pr : Int64) (x : Int32) (har : ar ≤ 41) (hbad : (vd x ar && lb pr x.toNatClampNeg) = false) : Met l ⟨"CutPoints", "block", "(I)I"⟩ (Cond.code ⟨"CutPoints", "block", "(I)I"⟩ prog_1_method_10_code 2 (some .int) :: TT) (rmk 2 43) (PR dC dI cI cJ cZ [.ref cp, .int x] [(cp, .inr (0, [.ref g, .ref k, .ref k2, .ref fl, .ref co, .ref sp])), (g, .inr (1, [.ref a1, .ref a2, .int (nI nd), .int (nI ar), .long pr]))]) (vp_Si (fun r => r = -1)) 0 0 (fun _ => False) := by
  refine Met.ofW (cc := prog_1_method_10_code) (maxL := 2) (ret := (some .int)) (by decide) rfl ?_
  intro p e s m args below meth c s₁ BB9 hml hv
  obtain ⟨rfl, hP, hK⟩ := hv
  have hx := BB9.exec
  have hb := BB9.bytes
  have hr := BB9.returns
  have hts : ∀ w ∈ TT, w.before _ s = true := fun w h => atoms_spec (ws := (Cond.code ⟨"CutPoints", "block", "(I)I"⟩ prog_1_method_10_code 2 (some .int) :: TT)) BB9.pre w (List.mem_cons_of_mem _ h)
  have hown : s.vm.findClass "CutPoints" = some m.cls := findClass_of_methodNamed BB9.named
  have hlocks := BB9.notSynchronized
  have hl := lv_entry ([.ref cp, .int x]) (n := 2) (Nat.le_of_ble_eq_true rfl)
  rw [lg_entry_eq]
  generalize (lg_sl ([.ref cp, .int x]) ++ List.replicate (2 - (lg_sl ([.ref cp, .int x])).length) Slot.unset).toArray = ls at hl ⊢
  have hl : lv_has ls 2 [(0, .ref cp), (1, .int x)] := hl
  refine lv_aload_n hx hb d_CP_block_0 rfl (lv_at hl 0 rfl) ?_
  refine va_get (D := (dC, dI)) (ci := 0) (v := .ref g) (C := R_CP) (T := F_CP) (N := 6) hx hb hts in_CP hown hK.1 hP 0 rfl rfl 0 (by decide) (hts _ wfl_CP_12) (fun _ h9 => h9) rfl d_CP_block_1 ?_
  refine lv_iload_n hx hb d_CP_block_4 rfl (lv_at hl 1 rfl) ?_
  refine vp_callSi (va_Run.run (k_V (n := 1) (C := R_GR) (rest := []) ⟨hx, hb, hml, hown, hts⟩ (c_GR_isThere l dC dI cI cJ cZ g a1 a2 nd ar pr x (by first | assumption | omega)) wml_CP_73 wim_GR_isThere wsel_GR_isThere wini_GR wcode_GR_isThere (by decide +kernel) ⟨Nat.le_of_ble_eq_true rfl, Nat.le_of_ble_eq_true rfl⟩ (preV_R (q := (R_GR, F_GR, 5)) (ci := 1) (q0 := 0) (hP.sub (ws' := [(g, .inr (1, [.ref a1, .ref a2, .int (nI nd), .int (nI ar), .long pr]))]) [1] rfl) hK rfl rfl) rfl hl.1 rfl (Nat.le_of_ble_eq_true rfl) d_CP_block_5 ⟨Nat.zero_le _, Nat.zero_le _⟩)) (fun r_1 hr_2 => ?_)
  refine xe_i (y := (bI (vd x ar && lb pr x.toNatClampNeg))) hr_2 ?_
  refine xe_i (y := (bI false)) (by rw [hbad]) ?_
  refine lv_if_ne (tgt := 13) hx hb d_CP_block_8 (by decide) (fun c9 => absurd (by decide : ((bI false) : Int32) = 0) c9) (fun _ => ?_)
  refine lv_iconst (v := (-1)) hx hb d_CP_block_11 (by decide) ?_
  exact W.iret (v := (-1)) hx hb hr (fun t9 ht9 _ => ⟨_, rfl, rfl, ht9⟩) t_nil d_CP_block_12

theorem d_CP_way_0 : decode prog_1_method_17_code 0 = .ok (.aload_n 0, 1) := by decide +kernel
theorem d_CP_way_1 : decode prog_1_method_17_code 1 = .ok (.getfield 12, 3) := by decide +kernel
theorem d_CP_way_4 : decode prog_1_method_17_code 4 = .ok (.iload_n 1, 1) := by decide +kernel
theorem d_CP_way_5 : decode prog_1_method_17_code 5 = .ok (.invokevirtual 73, 3) := by decide +kernel
theorem d_CP_way_8 : decode prog_1_method_17_code 8 = .ok (.ifCond .ne 5, 3) := by decide +kernel
theorem d_CP_way_11 : decode prog_1_method_17_code 11 = .ok (.iconst (-1), 1) := by decide +kernel
theorem d_CP_way_12 : decode prog_1_method_17_code 12 = .ok (.ireturn, 1) := by decide +kernel
theorem d_CP_way_13 : decode prog_1_method_17_code 13 = .ok (.aload_n 0, 1) := by decide +kernel
theorem d_CP_way_14 : decode prog_1_method_17_code 14 = .ok (.getfield 19, 3) := by decide +kernel
theorem d_CP_way_17 : decode prog_1_method_17_code 17 = .ok (.aload_n 0, 1) := by decide +kernel
theorem d_CP_way_18 : decode prog_1_method_17_code 18 = .ok (.getfield 19, 3) := by decide +kernel
theorem d_CP_way_21 : decode prog_1_method_17_code 21 = .ok (.aload_n 0, 1) := by decide +kernel
theorem d_CP_way_22 : decode prog_1_method_17_code 22 = .ok (.getfield 12, 3) := by decide +kernel
theorem d_CP_way_25 : decode prog_1_method_17_code 25 = .ok (.getfield 170, 3) := by decide +kernel
theorem d_CP_way_28 : decode prog_1_method_17_code 28 = .ok (.iload_n 1, 1) := by decide +kernel
theorem d_CP_way_29 : decode prog_1_method_17_code 29 = .ok (.iaload, 1) := by decide +kernel
theorem d_CP_way_30 : decode prog_1_method_17_code 30 = .ok (.invokevirtual 118, 3) := by decide +kernel
theorem d_CP_way_33 : decode prog_1_method_17_code 33 = .ok (.invokevirtual 173, 3) := by decide +kernel
theorem d_CP_way_36 : decode prog_1_method_17_code 36 = .ok (.lstore_n 2, 1) := by decide +kernel
theorem d_CP_way_37 : decode prog_1_method_17_code 37 = .ok (.lload_n 2, 1) := by decide +kernel
theorem d_CP_way_38 : decode prog_1_method_17_code 38 = .ok (.aload_n 0, 1) := by decide +kernel
theorem d_CP_way_39 : decode prog_1_method_17_code 39 = .ok (.getfield 19, 3) := by decide +kernel
theorem d_CP_way_42 : decode prog_1_method_17_code 42 = .ok (.getfield 86, 3) := by decide +kernel
theorem d_CP_way_45 : decode prog_1_method_17_code 45 = .ok (.land, 1) := by decide +kernel
theorem d_CP_way_46 : decode prog_1_method_17_code 46 = .ok (.lconst 0, 1) := by decide +kernel
theorem d_CP_way_47 : decode prog_1_method_17_code 47 = .ok (.lcmp, 1) := by decide +kernel
theorem d_CP_way_48 : decode prog_1_method_17_code 48 = .ok (.ifCond .eq 6, 3) := by decide +kernel
theorem d_CP_way_51 : decode prog_1_method_17_code 51 = .ok (.bipush (-3), 2) := by decide +kernel
theorem d_CP_way_53 : decode prog_1_method_17_code 53 = .ok (.ireturn, 1) := by decide +kernel
theorem d_CP_way_54 : decode prog_1_method_17_code 54 = .ok (.aload_n 0, 1) := by decide +kernel
theorem d_CP_way_55 : decode prog_1_method_17_code 55 = .ok (.getfield 36, 3) := by decide +kernel
theorem d_CP_way_58 : decode prog_1_method_17_code 58 = .ok (.aload_n 0, 1) := by decide +kernel
theorem d_CP_way_59 : decode prog_1_method_17_code 59 = .ok (.getfield 12, 3) := by decide +kernel
theorem d_CP_way_62 : decode prog_1_method_17_code 62 = .ok (.lload_n 2, 1) := by decide +kernel
theorem d_CP_way_63 : decode prog_1_method_17_code 63 = .ok (.iload_n 1, 1) := by decide +kernel
theorem d_CP_way_64 : decode prog_1_method_17_code 64 = .ok (.invokevirtual 176, 3) := by decide +kernel
theorem d_CP_way_67 : decode prog_1_method_17_code 67 = .ok (.ifCond .eq 7, 3) := by decide +kernel
theorem d_CP_way_70 : decode prog_1_method_17_code 70 = .ok (.iconst 1, 1) := by decide +kernel
theorem d_CP_way_71 : decode prog_1_method_17_code 71 = .ok (.goto 4, 3) := by decide +kernel
theorem d_CP_way_74 : decode prog_1_method_17_code 74 = .ok (.iconst 0, 1) := by decide +kernel
theorem d_CP_way_75 : decode prog_1_method_17_code 75 = .ok (.ireturn, 1) := by decide +kernel
set_option maxHeartbeats 4000000 in
set_option maxRecDepth 100000 in
theorem c_CP_way_b (l : Launch) (dC : Nat → ClassId) (dI : Nat → Nat → Nat) (cI cJ cZ : ClassId) (cp g k k2 fl co sp : Nat) (a1 a2 nd ar : Nat) (pr : Int64) (x : Int32) (har : ar ≤ 41) (hbad : (vd x ar && lb pr x.toNatClampNeg) = false) : Met l ⟨"CutPoints", "way", "(I)I"⟩ (Cond.code ⟨"CutPoints", "way", "(I)I"⟩ prog_1_method_17_code 4 (some .int) :: TT) (rmk 2 43) (PR dC dI cI cJ cZ [.ref cp, .int x] [(cp, .inr (0, [.ref g, .ref k, .ref k2, .ref fl, .ref co, .ref sp])), (g, .inr (1, [.ref a1, .ref a2, .int (nI nd), .int (nI ar), .long pr]))]) (vp_Si (fun r => r = -1)) 0 0 (fun _ => False) := by
  refine Met.ofW (cc := prog_1_method_17_code) (maxL := 4) (ret := (some .int)) (by decide) rfl ?_
  intro p e s m args below meth c s₁ BB9 hml hv
  obtain ⟨rfl, hP, hK⟩ := hv
  have hx := BB9.exec
  have hb := BB9.bytes
  have hr := BB9.returns
  have hts : ∀ w ∈ TT, w.before _ s = true := fun w h => atoms_spec (ws := (Cond.code ⟨"CutPoints", "way", "(I)I"⟩ prog_1_method_17_code 4 (some .int) :: TT)) BB9.pre w (List.mem_cons_of_mem _ h)
  have hown : s.vm.findClass "CutPoints" = some m.cls := findClass_of_methodNamed BB9.named
  have hlocks := BB9.notSynchronized
  have hl := lv_entry ([.ref cp, .int x]) (n := 4) (Nat.le_of_ble_eq_true rfl)
  rw [lg_entry_eq]
  generalize (lg_sl ([.ref cp, .int x]) ++ List.replicate (4 - (lg_sl ([.ref cp, .int x])).length) Slot.unset).toArray = ls at hl ⊢
  have hl : lv_has ls 4 [(0, .ref cp), (1, .int x)] := hl
  refine lv_aload_n hx hb d_CP_way_0 rfl (lv_at hl 0 rfl) ?_
  refine va_get (D := (dC, dI)) (ci := 0) (v := .ref g) (C := R_CP) (T := F_CP) (N := 6) hx hb hts in_CP hown hK.1 hP 0 rfl rfl 0 (by decide) (hts _ wfl_CP_12) (fun _ h9 => h9) rfl d_CP_way_1 ?_
  refine lv_iload_n hx hb d_CP_way_4 rfl (lv_at hl 1 rfl) ?_
  refine vp_callSi (va_Run.run (k_V (n := 1) (C := R_GR) (rest := []) ⟨hx, hb, hml, hown, hts⟩ (c_GR_isThere l dC dI cI cJ cZ g a1 a2 nd ar pr x (by first | assumption | omega)) wml_CP_73 wim_GR_isThere wsel_GR_isThere wini_GR wcode_GR_isThere (by decide +kernel) ⟨Nat.le_of_ble_eq_true rfl, Nat.le_of_ble_eq_true rfl⟩ (preV_R (q := (R_GR, F_GR, 5)) (ci := 1) (q0 := 0) (hP.sub (ws' := [(g, .inr (1, [.ref a1, .ref a2, .int (nI nd), .int (nI ar), .long pr]))]) [1] rfl) hK rfl rfl) rfl hl.1 rfl (Nat.le_of_ble_eq_true rfl) d_CP_way_5 ⟨Nat.zero_le _, Nat.zero_le _⟩)) (fun r_1 hr_2 => ?_)
  refine xe_i (y := (bI (vd x ar && lb pr x.toNatClampNeg))) hr_2 ?_
  refine xe_i (y := (bI false)) (by rw [hbad]) ?_
  refine lv_if_ne (tgt := 13) hx hb d_CP_way_8 (by decide) (fun c9 => absurd (by decide : ((bI false) : Int32) = 0) c9) (fun _ => ?_)
  refine lv_iconst (v := (-1)) hx hb d_CP_way_11 (by decide) ?_
  exact W.iret (v := (-1)) hx hb hr (fun t9 ht9 _ => ⟨_, rfl, rfl, ht9⟩) t_nil d_CP_way_12

set_option maxHeartbeats 4000000 in
set_option maxRecDepth 100000 in
theorem c_CP_arc_f (l : Launch) (dC : Nat → ClassId) (dI : Nat → Nat → Nat) (cI cJ cZ : ClassId) (cp g k k2 fl co sp : Nat) (a1 a2 nd ar : Nat) (pr : Int64) (a b : Nat) (hnd14 : nd ≤ 14) (ha : a < nd) (hb_ : b < nd) (hab : a ≠ b) (har : ar = 40) : Met l ⟨"CutPoints", "arc", "(II)I"⟩ (Cond.code ⟨"CutPoints", "arc", "(II)I"⟩ prog_1_method_4_code 5 (some .int) :: TT) (rmk 2 43) (PR dC dI cI cJ cZ [.ref cp, .int (nI a), .int (nI b)] [(cp, .inr (0, [.ref g, .ref k, .ref k2, .ref fl, .ref co, .ref sp])), (g, .inr (1, [.ref a1, .ref a2, .int (nI nd), .int (nI ar), .long pr]))]) (vp_Si (fun r => r = -4)) 0 0 (fun _ => False) := by
  refine Met.ofW (cc := prog_1_method_4_code) (maxL := 5) (ret := (some .int)) (by decide) rfl ?_
  intro p e s m args below meth c s₁ BB9 hml hv
  obtain ⟨rfl, hP, hK⟩ := hv
  have hx := BB9.exec
  have hb := BB9.bytes
  have hr := BB9.returns
  have hts : ∀ w ∈ TT, w.before _ s = true := fun w h => atoms_spec (ws := (Cond.code ⟨"CutPoints", "arc", "(II)I"⟩ prog_1_method_4_code 5 (some .int) :: TT)) BB9.pre w (List.mem_cons_of_mem _ h)
  have hown : s.vm.findClass "CutPoints" = some m.cls := findClass_of_methodNamed BB9.named
  have hlocks := BB9.notSynchronized
  have hl := lv_entry ([.ref cp, .int (nI a), .int (nI b)]) (n := 5) (Nat.le_of_ble_eq_true rfl)
  rw [lg_entry_eq]
  generalize (lg_sl ([.ref cp, .int (nI a), .int (nI b)]) ++ List.replicate (5 - (lg_sl ([.ref cp, .int (nI a), .int (nI b)])).length) Slot.unset).toArray = ls at hl ⊢
  have hl : lv_has ls 5 [(0, .ref cp), (1, .int (nI a)), (2, .int (nI b))] := hl
  refine lv_aload_n hx hb d_CP_arc_0 rfl (lv_at hl 0 rfl) ?_
  refine lv_iload_n hx hb d_CP_arc_1 rfl (lv_at hl 1 rfl) ?_
  refine lv_iload_n hx hb d_CP_arc_2 rfl (lv_at hl 2 rfl) ?_
  refine vp_callSi (va_Run.run (k_V (n := 2) (C := R_CP) (rest := []) ⟨hx, hb, hml, hown, hts⟩ (c_CP_pairCode l dC dI cI cJ cZ cp g k k2 fl co sp a1 a2 nd ar pr (nI a) (nI b) (by first | assumption | omega)) wml_CP_61 wim_CP_pairCode wsel_CP_pairCode wini_CP wcode_CP_pairCode (by decide +kernel) ⟨Nat.le_of_ble_eq_true rfl, Nat.le_of_ble_eq_true rfl⟩ (preV_R (q := (R_CP, F_CP, 6)) (ci := 0) (q0 := 0) (hP.sub (ws' := [(cp, .inr (0, [.ref g, .ref k, .ref k2, .ref fl, .ref co, .ref sp])), (g, .inr (1, [.ref a1, .ref a2, .int (nI nd), .int (nI ar), .long pr]))]) [0, 1] rfl) hK rfl rfl) rfl hl.1 rfl (Nat.le_of_ble_eq_true rfl) d_CP_arc_3 ⟨Nat.zero_le _, Nat.zero_le _⟩)) (fun r_1 hr_2 => ?_)
  refine xe_i (y := (pcd (nI a) (nI b) nd)) hr_2 ?_
  refine xe_i (y := (nI 0)) (pcd_ok hnd14 ha hb_ hab) ?_
  refine lv_istore_n (lv' := [(3, .int (nI 0)), (0, .ref cp), (1, .int (nI a)), (2, .int (nI b))]) hx hb d_CP_arc_6 rfl hl (by decide) rfl (fun ls hl => ?_)
  refine lv_iload_n hx hb d_CP_arc_7 rfl (lv_at hl 0 rfl) ?_
  refine lv_if_eq (tgt := 13) hx hb d_CP_arc_8 (by decide) (fun _ => ?_) (fun c9 => absurd (by decide : ((nI 0) : Int32) = 0) c9)
  refine lv_aload_n hx hb d_CP_arc_13 rfl (lv_at hl 1 rfl) ?_
  refine va_get (D := (dC, dI)) (ci := 0) (v := .ref g) (C := R_CP) (T := F_CP) (N := 6) hx hb hts in_CP hown hK.1 hP 0 rfl rfl 0 (by decide) (hts _ wfl_CP_12) (fun _ h9 => h9) rfl d_CP_arc_14 ?_
  refine va_get (D := (dC, dI)) (ci := 1) (v := .int (nI ar)) (C := R_GR) (T := F_GR) (N := 5) hx hb hts in_GR hown hK.1 hP 1 rfl rfl 3 (by decide) (hts _ wfl_CP_51) (fun _ h9 => h9) rfl d_CP_arc_17 ?_
  refine lv_bipush (v := (nI 40)) hx hb d_CP_arc_20 (by decide) ?_
  refine x_cmp_lt (a := ar) (b := 40) (tgt := 28) hx hb (by omega) (by omega) d_CP_arc_22 (by decide) (fun c_4 => ?_) (fun c_4 => ?_)
  · skip
    omega
  · skip
    refine lv_bipush (v := (-4)) hx hb d_CP_arc_25 (by decide) ?_
    exact W.iret (v := (-4)) hx hb hr (fun t9 ht9 _ => ⟨_, rfl, rfl, ht9⟩) t_nil d_CP_arc_27

set_option maxHeartbeats 4000000 in
set_option maxRecDepth 100000 in
theorem c_CP_arc_k (l : Launch) (dC : Nat → ClassId) (dI : Nat → Nat → Nat) (cI cJ cZ : ClassId) (cp g k k2 fl co sp : Nat) (a1 a2 nd ar : Nat) (pr : Int64) (F G : Nat → Nat) (hGA : GAR F G nd ar pr) (nr fr rs at_ h : Nat) (al0 : Int32) (br0 : Int64) (N0 Fm0 : Nat → Int32) (A0 : Nat → Int64) (b1 : Nat) (zi : Int32) (S0 : Nat → Int64) (a b : Nat) (ha : a < nd) (hb_ : b < nd) (hab : a ≠ b) (har : ar < 40) : Met l ⟨"CutPoints", "arc", "(II)I"⟩ (Cond.code ⟨"CutPoints", "arc", "(II)I"⟩ prog_1_method_4_code 5 (some .int) :: TT) (rmk 5 115) (PM dC dI cI cJ cZ [.ref cp, .int (nI a), .int (nI b)] [(cp, .inr (0, [.ref g, .ref k, .ref k2, .ref fl, .ref co, .ref sp])), (g, .inr (1, [.ref a1, .ref a2, .int (nI nd), .int (nI ar), .long pr])), (a1, .inl (cI, 41, .inl (nF F))), (a2, .inl (cI, 41, .inl (nF G))), (k, .inr (2, [.ref nr, .ref fr, .ref rs, .ref at_, .ref h, .int al0, .long br0])), (nr, .inl (cI, 14, .inl N0)), (fr, .inl (cI, 14, .inl Fm0)), (at_, .inl (cJ, 14, .inr (.inl A0))), (h, .inr (3, [.ref b1, .int zi])), (b1, .inl (cJ, 41, .inr (.inl S0)))]) (va_Qi (S := (Nat → Int32) × (Nat → Int32) × (Nat → Int64) × (Nat → Int64) × Nat × Int32 × Int64) (fun r u9 => r = nI ar ∧ SKI (lb (pr ||| lsb ar)) (va_up F ar a) (va_up G ar b) nd u9.1 u9.2.1 u9.2.2.1 u9.2.2.2.1 u9.2.2.2.2.1 u9.2.2.2.2.2.1 u9.2.2.2.2.2.2) (fun u9 t9 => va_P (dC, dI) cls ([(cp, .inr (0, [.ref g, .ref k, .ref k2, .ref fl, .ref co, .ref sp])), (g, .inr (1, [.ref a1, .ref a2, .int (nI nd), .int (nI (ar + 1)), .long (pr ||| (lsb ar))])), (a1, .inl (cI, 41, .inl (nF (va_up F ar a)))), (a2, .inl (cI, 41, .inl (nF (va_up G ar b)))), (k, .inr (2, [.ref nr, .ref fr, .ref rs, .ref at_, .ref h, .int u9.2.2.2.2.2.1, .long u9.2.2.2.2.2.2])), (nr, .inl (cI, 14, .inl u9.1)), (fr, .inl (cI, 14, .inl u9.2.1)), (at_, .inl (cJ, 14, .inr (.inl u9.2.2.1))), (h, .inr (3, [.ref b1, .int (nI u9.2.2.2.2.1)])), (b1, .inl (cJ, 41, .inr (.inl u9.2.2.2.1)))]) t9.heap) (ow [(cp, .inr (0, [.ref g, .ref k, .ref k2, .ref fl, .ref co, .ref sp])), (g, .inr (1, [.ref a1, .ref a2, .int (nI nd), .int (nI ar), .long pr])), (a1, .inl (cI, 41, .inl (nF F))), (a2, .inl (cI, 41, .inl (nF G))), (k, .inr (2, [.ref nr, .ref fr, .ref rs, .ref at_, .ref h, .int al0, .long br0])), (nr, .inl (cI, 14, .inl N0)), (fr, .inl (cI, 14, .inl Fm0)), (at_, .inl (cJ, 14, .inr (.inl A0))), (h, .inr (3, [.ref b1, .int zi])), (b1, .inl (cJ, 41, .inr (.inl S0)))])) 0 0 (ow [(cp, .inr (0, [.ref g, .ref k, .ref k2, .ref fl, .ref co, .ref sp])), (g, .inr (1, [.ref a1, .ref a2, .int (nI nd), .int (nI ar), .long pr])), (a1, .inl (cI, 41, .inl (nF F))), (a2, .inl (cI, 41, .inl (nF G))), (k, .inr (2, [.ref nr, .ref fr, .ref rs, .ref at_, .ref h, .int al0, .long br0])), (nr, .inl (cI, 14, .inl N0)), (fr, .inl (cI, 14, .inl Fm0)), (at_, .inl (cJ, 14, .inr (.inl A0))), (h, .inr (3, [.ref b1, .int zi])), (b1, .inl (cJ, 41, .inr (.inl S0)))]) := by
  refine Met.ofW (cc := prog_1_method_4_code) (maxL := 5) (ret := (some .int)) (by decide) rfl ?_
  intro p e s m args below meth c s₁ BB9 hml hv
  obtain ⟨rfl, hP, hK, hD0⟩ := hv
  have hx := BB9.exec
  have hb := BB9.bytes
  have hr := BB9.returns
  have hts : ∀ w ∈ TT, w.before _ s = true := fun w h => atoms_spec (ws := (Cond.code ⟨"CutPoints", "arc", "(II)I"⟩ prog_1_method_4_code 5 (some .int) :: TT)) BB9.pre w (List.mem_cons_of_mem _ h)
  have hown : s.vm.findClass "CutPoints" = some m.cls := findClass_of_methodNamed BB9.named
  have hlocks := BB9.notSynchronized
  have hD := hD0.mine
  have hS : va_S (ow [(cp, .inr (0, [.ref g, .ref k, .ref k2, .ref fl, .ref co, .ref sp])), (g, .inr (1, [.ref a1, .ref a2, .int (nI nd), .int (nI ar), .long pr])), (a1, .inl (cI, 41, .inl (nF F))), (a2, .inl (cI, 41, .inl (nF G))), (k, .inr (2, [.ref nr, .ref fr, .ref rs, .ref at_, .ref h, .int al0, .long br0])), (nr, .inl (cI, 14, .inl N0)), (fr, .inl (cI, 14, .inl Fm0)), (at_, .inl (cJ, 14, .inr (.inl A0))), (h, .inr (3, [.ref b1, .int zi])), (b1, .inl (cJ, 41, .inr (.inl S0)))]) s.heap s.heap [] := va_S.rf
  have hnd14 := hGA.1
  have hG9 := GAR_a hGA ha hb_ hab har
  have hl := lv_entry ([.ref cp, .int (nI a), .int (nI b)]) (n := 5) (Nat.le_of_ble_eq_true rfl)
  rw [lg_entry_eq]
  generalize (lg_sl ([.ref cp, .int (nI a), .int (nI b)]) ++ List.replicate (5 - (lg_sl ([.ref cp, .int (nI a), .int (nI b)])).length) Slot.unset).toArray = ls at hl ⊢
  have hl : lv_has ls 5 [(0, .ref cp), (1, .int (nI a)), (2, .int (nI b))] := hl
  refine lv_aload_n hx hb d_CP_arc_0 rfl (lv_at hl 0 rfl) ?_
  refine lv_iload_n hx hb d_CP_arc_1 rfl (lv_at hl 1 rfl) ?_
  refine lv_iload_n hx hb d_CP_arc_2 rfl (lv_at hl 2 rfl) ?_
  refine vp_callSi (va_Run.run (k_V (n := 2) (C := R_CP) (rest := []) ⟨hx, hb, hml, hown, hts⟩ (c_CP_pairCode l dC dI cI cJ cZ cp g k k2 fl co sp a1 a2 nd ar pr (nI a) (nI b) (by first | assumption | omega)) wml_CP_61 wim_CP_pairCode wsel_CP_pairCode wini_CP wcode_CP_pairCode (by decide +kernel) ⟨Nat.le_of_ble_eq_true rfl, Nat.le_of_ble_eq_true rfl⟩ (preV_R (q := (R_CP, F_CP, 6)) (ci := 0) (q0 := 0) (hP.sub (ws' := [(cp, .inr (0, [.ref g, .ref k, .ref k2, .ref fl, .ref co, .ref sp])), (g, .inr (1, [.ref a1, .ref a2, .int (nI nd), .int (nI ar), .long pr]))]) [0, 1] rfl) hK rfl rfl) rfl hl.1 rfl (Nat.le_of_ble_eq_true rfl) d_CP_arc_3 ⟨Nat.zero_le _, Nat.zero_le _⟩)) (fun r_1 hr_2 => ?_)
  refine xe_i (y := (pcd (nI a) (nI b) nd)) hr_2 ?_
  refine xe_i (y := (nI 0)) (pcd_ok hnd14 ha hb_ hab) ?_
  refine lv_istore_n (lv' := [(3, .int (nI 0)), (0, .ref cp), (1, .int (nI a)), (2, .int (nI b))]) hx hb d_CP_arc_6 rfl hl (by decide) rfl (fun ls hl => ?_)
  refine lv_iload_n hx hb d_CP_arc_7 rfl (lv_at hl 0 rfl) ?_
  refine lv_if_eq (tgt := 13) hx hb d_CP_arc_8 (by decide) (fun _ => ?_) (fun c9 => absurd (by decide : ((nI 0) : Int32) = 0) c9)
  refine lv_aload_n hx hb d_CP_arc_13 rfl (lv_at hl 1 rfl) ?_
  refine va_get (D := (dC, dI)) (ci := 0) (v := .ref g) (C := R_CP) (T := F_CP) (N := 6) hx hb hts in_CP hown hK.1 hP 0 rfl rfl 0 (by decide) (hts _ wfl_CP_12) (fun _ h9 => h9) rfl d_CP_arc_14 ?_
  refine va_get (D := (dC, dI)) (ci := 1) (v := .int (nI ar)) (C := R_GR) (T := F_GR) (N := 5) hx hb hts in_GR hown hK.1 hP 1 rfl rfl 3 (by decide) (hts _ wfl_CP_51) (fun _ h9 => h9) rfl d_CP_arc_17 ?_
  refine lv_bipush (v := (nI 40)) hx hb d_CP_arc_20 (by decide) ?_
  refine x_cmp_lt (a := ar) (b := 40) (tgt := 28) hx hb (by omega) (by omega) d_CP_arc_22 (by decide) (fun c_4 => ?_) (fun c_4 => ?_)
  · skip
    refine lv_aload_n hx hb d_CP_arc_28 rfl (lv_at hl 1 rfl) ?_
    refine va_get (D := (dC, dI)) (ci := 0) (v := .ref g) (C := R_CP) (T := F_CP) (N := 6) hx hb hts in_CP hown hK.1 hP 0 rfl rfl 0 (by decide) (hts _ wfl_CP_12) (fun _ h9 => h9) rfl d_CP_arc_29 ?_
    refine va_get (D := (dC, dI)) (ci := 1) (v := .int (nI ar)) (C := R_GR) (T := F_GR) (N := 5) hx hb hts in_GR hown hK.1 hP 1 rfl rfl 3 (by decide) (hts _ wfl_CP_51) (fun _ h9 => h9) rfl d_CP_arc_32 ?_
    refine lv_istore (lv' := [(4, .int (nI ar)), (3, .int (nI 0)), (0, .ref cp), (1, .int (nI a)), (2, .int (nI b))]) hx hb d_CP_arc_35 hl (by decide) rfl (fun ls hl => ?_)
    refine lv_aload_n hx hb d_CP_arc_37 rfl (lv_at hl 2 rfl) ?_
    refine va_get (D := (dC, dI)) (ci := 0) (v := .ref g) (C := R_CP) (T := F_CP) (N := 6) hx hb hts in_CP hown hK.1 hP 0 rfl rfl 0 (by decide) (hts _ wfl_CP_12) (fun _ h9 => h9) rfl d_CP_arc_38 ?_
    refine lv_iload hx hb d_CP_arc_41 (lv_at hl 0 rfl) ?_
    refine lv_iconst (v := (nI 1)) hx hb d_CP_arc_43 (by decide) ?_
    refine lv_iadd hx hb d_CP_arc_44 ?_
    refine xe_i (nI_add _ _) ?_
    refine va_put (D := (dC, dI)) (ci := 1) (v := .int (nI (ar + 1))) (ty := .int) (C := R_GR) (T := F_GR) (N := 5) hx hb hts in_GR t_GR t_GR_ok n_GR hown hK.1 hP hD hS 1 rfl rfl 3 (by decide) (hts _ wfl_CP_51) (fun _ h9 => h9) rfl (by decide +kernel) rfl rfl (Nat.le_of_ble_eq_true rfl) d_CP_arc_45 (fun H locs hP hD hS => ?_)
    have hP : va_P (dC, dI) cls [(cp, .inr (0, [.ref g, .ref k, .ref k2, .ref fl, .ref co, .ref sp])), (g, .inr (1, [.ref a1, .ref a2, .int (nI nd), .int (nI (ar + 1)), .long pr])), (a1, .inl (cI, 41, .inl (nF F))), (a2, .inl (cI, 41, .inl (nF G))), (k, .inr (2, [.ref nr, .ref fr, .ref rs, .ref at_, .ref h, .int al0, .long br0])), (nr, .inl (cI, 14, .inl N0)), (fr, .inl (cI, 14, .inl Fm0)), (at_, .inl (cJ, 14, .inr (.inl A0))), (h, .inr (3, [.ref b1, .int zi])), (b1, .inl (cJ, 41, .inr (.inl S0)))] H := hP
    have hD : va_D (ow [(cp, .inr (0, [.ref g, .ref k, .ref k2, .ref fl, .ref co, .ref sp])), (g, .inr (1, [.ref a1, .ref a2, .int (nI nd), .int (nI ar), .long pr])), (a1, .inl (cI, 41, .inl (nF F))), (a2, .inl (cI, 41, .inl (nF G))), (k, .inr (2, [.ref nr, .ref fr, .ref rs, .ref at_, .ref h, .int al0, .long br0])), (nr, .inl (cI, 14, .inl N0)), (fr, .inl (cI, 14, .inl Fm0)), (at_, .inl (cJ, 14, .inr (.inl A0))), (h, .inr (3, [.ref b1, .int zi])), (b1, .inl (cJ, 41, .inr (.inl S0)))]) [(cp, .inr (0, [.ref g, .ref k, .ref k2, .ref fl, .ref co, .ref sp])), (g, .inr (1, [.ref a1, .ref a2, .int (nI nd), .int (nI (ar + 1)), .long pr])), (a1, .inl (cI, 41, .inl (nF F))), (a2, .inl (cI, 41, .inl (nF G))), (k, .inr (2, [.ref nr, .ref fr, .ref rs, .ref at_, .ref h, .int al0, .long br0])), (nr, .inl (cI, 14, .inl N0)), (fr, .inl (cI, 14, .inl Fm0)), (at_, .inl (cJ, 14, .inr (.inl A0))), (h, .inr (3, [.ref b1, .int zi])), (b1, .inl (cJ, 41, .inr (.inl S0)))] := hD
    refine lv_aload_n hx hb d_CP_arc_48 rfl (lv_at hl 2 rfl) ?_
    refine va_get (D := (dC, dI)) (ci := 0) (v := .ref g) (C := R_CP) (T := F_CP) (N := 6) hx hb hts in_CP hown hK.1 hP 0 rfl rfl 0 (by decide) (hts _ wfl_CP_12) (fun _ h9 => h9) rfl d_CP_arc_49 ?_
    refine lv_iload hx hb d_CP_arc_52 (lv_at hl 0 rfl) ?_
    refine lv_iload_n hx hb d_CP_arc_54 rfl (lv_at hl 3 rfl) ?_
    refine lv_iload_n hx hb d_CP_arc_55 rfl (lv_at hl 4 rfl) ?_
    refine x_cv (k_V (n := 3) (C := R_GR) (rest := []) ⟨hx, hb, hml, hown, hts⟩ (c_GR_lay l dC dI cI cJ cZ g a1 a2 nd (ar + 1) pr F G ar a b (by first | assumption | omega)) wml_CP_65 wim_GR_lay wsel_GR_lay wini_GR wcode_GR_lay (by decide +kernel) ⟨Nat.le_of_ble_eq_true rfl, Nat.le_of_ble_eq_true rfl⟩ (preV_M (q := (R_GR, F_GR, 5)) (ci := 1) (q0 := 0) (hP.sub (ws' := [(g, .inr (1, [.ref a1, .ref a2, .int (nI nd), .int (nI (ar + 1)), .long pr])), (a1, .inl (cI, 41, .inl (nF F))), (a2, .inl (cI, 41, .inl (nF G)))]) [1, 2, 3] rfl) hK (hD.sub (ws' := [(g, .inr (1, [.ref a1, .ref a2, .int (nI nd), .int (nI (ar + 1)), .long pr])), (a1, .inl (cI, 41, .inl (nF F))), (a2, .inl (cI, 41, .inl (nF G)))]) [1, 2, 3] (by decide) rfl) rfl rfl) rfl hl.1 rfl (Nat.le_of_ble_eq_true rfl) d_CP_arc_56 ⟨Nat.zero_le _, Nat.zero_le _⟩) hP hD hS [1, 2, 3] rfl (fun _ => rfl) (fun u_5 H locs hu_5 hP hS => ?_)
    have hP : va_P (dC, dI) cls [(cp, .inr (0, [.ref g, .ref k, .ref k2, .ref fl, .ref co, .ref sp])), (g, .inr (1, [.ref a1, .ref a2, .int (nI nd), .int (nI (ar + 1)), .long pr])), (a1, .inl (cI, 41, .inl (nF (va_up F ar a)))), (a2, .inl (cI, 41, .inl (nF (va_up G ar b)))), (k, .inr (2, [.ref nr, .ref fr, .ref rs, .ref at_, .ref h, .int al0, .long br0])), (nr, .inl (cI, 14, .inl N0)), (fr, .inl (cI, 14, .inl Fm0)), (at_, .inl (cJ, 14, .inr (.inl A0))), (h, .inr (3, [.ref b1, .int zi])), (b1, .inl (cJ, 41, .inr (.inl S0)))] H := hP
    have hD := hD.addr (ws' := [(cp, .inr (0, [.ref g, .ref k, .ref k2, .ref fl, .ref co, .ref sp])), (g, .inr (1, [.ref a1, .ref a2, .int (nI nd), .int (nI (ar + 1)), .long pr])), (a1, .inl (cI, 41, .inl (nF (va_up F ar a)))), (a2, .inl (cI, 41, .inl (nF (va_up G ar b)))), (k, .inr (2, [.ref nr, .ref fr, .ref rs, .ref at_, .ref h, .int al0, .long br0])), (nr, .inl (cI, 14, .inl N0)), (fr, .inl (cI, 14, .inl Fm0)), (at_, .inl (cJ, 14, .inr (.inl A0))), (h, .inr (3, [.ref b1, .int zi])), (b1, .inl (cJ, 41, .inr (.inl S0)))]) rfl
    refine lv_aload_n hx hb d_CP_arc_59 rfl (lv_at hl 2 rfl) ?_
    refine va_get (D := (dC, dI)) (ci := 0) (v := .ref g) (C := R_CP) (T := F_CP) (N := 6) hx hb hts in_CP hown hK.1 hP 0 rfl rfl 0 (by decide) (hts _ wfl_CP_12) (fun _ h9 => h9) rfl d_CP_arc_60 ?_
    refine lv_dup hx hb d_CP_arc_63 rfl ?_
    refine va_get (D := (dC, dI)) (ci := 1) (v := .long pr) (C := R_GR) (T := F_GR) (N := 5) hx hb hts in_GR hown hK.1 hP 1 rfl rfl 4 (by decide) (hts _ wfl_CP_54) (fun _ h9 => h9) rfl d_CP_arc_64 ?_
    refine lv_lconst (v := 1) hx hb d_CP_arc_67 rfl ?_
    refine lv_iload hx hb d_CP_arc_68 (lv_at hl 0 rfl) ?_
    refine lv_lshl (v := (lsb ar)) hx hb d_CP_arc_70 rfl ?_
    refine lv_lor hx hb d_CP_arc_71 ?_
    refine va_put (D := (dC, dI)) (ci := 1) (v := .long (pr ||| (lsb ar))) (ty := .long) (C := R_GR) (T := F_GR) (N := 5) hx hb hts in_GR t_GR t_GR_ok n_GR hown hK.1 hP hD hS 1 rfl rfl 4 (by decide) (hts _ wfl_CP_54) (fun _ h9 => h9) rfl (by decide +kernel) rfl rfl (Nat.le_of_ble_eq_true rfl) d_CP_arc_72 (fun H locs hP hD hS => ?_)
    have hP : va_P (dC, dI) cls [(cp, .inr (0, [.ref g, .ref k, .ref k2, .ref fl, .ref co, .ref sp])), (g, .inr (1, [.ref a1, .ref a2, .int (nI nd), .int (nI (ar + 1)), .long (pr ||| (lsb ar))])), (a1, .inl (cI, 41, .inl (nF (va_up F ar a)))), (a2, .inl (cI, 41, .inl (nF (va_up G ar b)))), (k, .inr (2, [.ref nr, .ref fr, .ref rs, .ref at_, .ref h, .int al0, .long br0])), (nr, .inl (cI, 14, .inl N0)), (fr, .inl (cI, 14, .inl Fm0)), (at_, .inl (cJ, 14, .inr (.inl A0))), (h, .inr (3, [.ref b1, .int zi])), (b1, .inl (cJ, 41, .inr (.inl S0)))] H := hP
    have hD : va_D (ow [(cp, .inr (0, [.ref g, .ref k, .ref k2, .ref fl, .ref co, .ref sp])), (g, .inr (1, [.ref a1, .ref a2, .int (nI nd), .int (nI ar), .long pr])), (a1, .inl (cI, 41, .inl (nF F))), (a2, .inl (cI, 41, .inl (nF G))), (k, .inr (2, [.ref nr, .ref fr, .ref rs, .ref at_, .ref h, .int al0, .long br0])), (nr, .inl (cI, 14, .inl N0)), (fr, .inl (cI, 14, .inl Fm0)), (at_, .inl (cJ, 14, .inr (.inl A0))), (h, .inr (3, [.ref b1, .int zi])), (b1, .inl (cJ, 41, .inr (.inl S0)))]) [(cp, .inr (0, [.ref g, .ref k, .ref k2, .ref fl, .ref co, .ref sp])), (g, .inr (1, [.ref a1, .ref a2, .int (nI nd), .int (nI (ar + 1)), .long (pr ||| (lsb ar))])), (a1, .inl (cI, 41, .inl (nF (va_up F ar a)))), (a2, .inl (cI, 41, .inl (nF (va_up G ar b)))), (k, .inr (2, [.ref nr, .ref fr, .ref rs, .ref at_, .ref h, .int al0, .long br0])), (nr, .inl (cI, 14, .inl N0)), (fr, .inl (cI, 14, .inl Fm0)), (at_, .inl (cJ, 14, .inr (.inl A0))), (h, .inr (3, [.ref b1, .int zi])), (b1, .inl (cJ, 41, .inr (.inl S0)))] := hD
    refine lv_aload_n hx hb d_CP_arc_75 rfl (lv_at hl 2 rfl) ?_
    refine x_cv (k_V (n := 0) (C := R_CP) (rest := []) ⟨hx, hb, hml, hown, hts⟩ (c_CP_redraw l dC dI cI cJ cZ cp g k k2 fl co sp a1 a2 nd (ar + 1) (pr ||| (lsb ar)) (va_up F ar a) (va_up G ar b) (hG9).2.2.2.2.1 (hG9).2.2.2.2.2 hG9.ok nr fr rs at_ h al0 br0 N0 Fm0 A0 b1 zi S0) wml_CP_58 wim_CP_redraw wsel_CP_redraw wini_CP wcode_CP_redraw (by decide +kernel) ⟨Nat.le_of_ble_eq_true rfl, Nat.le_of_ble_eq_true rfl⟩ (preV_M (q := (R_CP, F_CP, 6)) (ci := 0) (q0 := 0) (hP.sub (ws' := [(cp, .inr (0, [.ref g, .ref k, .ref k2, .ref fl, .ref co, .ref sp])), (g, .inr (1, [.ref a1, .ref a2, .int (nI nd), .int (nI (ar + 1)), .long (pr ||| (lsb ar))])), (a1, .inl (cI, 41, .inl (nF (va_up F ar a)))), (a2, .inl (cI, 41, .inl (nF (va_up G ar b)))), (k, .inr (2, [.ref nr, .ref fr, .ref rs, .ref at_, .ref h, .int al0, .long br0])), (nr, .inl (cI, 14, .inl N0)), (fr, .inl (cI, 14, .inl Fm0)), (at_, .inl (cJ, 14, .inr (.inl A0))), (h, .inr (3, [.ref b1, .int zi])), (b1, .inl (cJ, 41, .inr (.inl S0)))]) [0, 1, 2, 3, 4, 5, 6, 7, 8, 9] rfl) hK (hD.sub (ws' := [(cp, .inr (0, [.ref g, .ref k, .ref k2, .ref fl, .ref co, .ref sp])), (g, .inr (1, [.ref a1, .ref a2, .int (nI nd), .int (nI (ar + 1)), .long (pr ||| (lsb ar))])), (a1, .inl (cI, 41, .inl (nF (va_up F ar a)))), (a2, .inl (cI, 41, .inl (nF (va_up G ar b)))), (k, .inr (2, [.ref nr, .ref fr, .ref rs, .ref at_, .ref h, .int al0, .long br0])), (nr, .inl (cI, 14, .inl N0)), (fr, .inl (cI, 14, .inl Fm0)), (at_, .inl (cJ, 14, .inr (.inl A0))), (h, .inr (3, [.ref b1, .int zi])), (b1, .inl (cJ, 41, .inr (.inl S0)))]) [0, 1, 2, 3, 4, 5, 6, 7, 8, 9] (by decide) rfl) rfl rfl) rfl hl.1 rfl (Nat.le_of_ble_eq_true rfl) d_CP_arc_76 ⟨Nat.zero_le _, Nat.zero_le _⟩) hP hD hS [0, 1, 2, 3, 4, 5, 6, 7, 8, 9] rfl (fun _ => rfl) (fun u_6 H locs hu_6 hP hS => ?_)
    obtain ⟨N9_6, Fm9_6, A9_6, S9_6, z9_6, al9_6, br9_6⟩ := u_6
    have hP : va_P (dC, dI) cls [(cp, .inr (0, [.ref g, .ref k, .ref k2, .ref fl, .ref co, .ref sp])), (g, .inr (1, [.ref a1, .ref a2, .int (nI nd), .int (nI (ar + 1)), .long (pr ||| (lsb ar))])), (a1, .inl (cI, 41, .inl (nF (va_up F ar a)))), (a2, .inl (cI, 41, .inl (nF (va_up G ar b)))), (k, .inr (2, [.ref nr, .ref fr, .ref rs, .ref at_, .ref h, .int al9_6, .long br9_6])), (nr, .inl (cI, 14, .inl N9_6)), (fr, .inl (cI, 14, .inl Fm9_6)), (at_, .inl (cJ, 14, .inr (.inl A9_6))), (h, .inr (3, [.ref b1, .int (nI z9_6)])), (b1, .inl (cJ, 41, .inr (.inl S9_6)))] H := hP
    have hD := hD.addr (ws' := [(cp, .inr (0, [.ref g, .ref k, .ref k2, .ref fl, .ref co, .ref sp])), (g, .inr (1, [.ref a1, .ref a2, .int (nI nd), .int (nI (ar + 1)), .long (pr ||| (lsb ar))])), (a1, .inl (cI, 41, .inl (nF (va_up F ar a)))), (a2, .inl (cI, 41, .inl (nF (va_up G ar b)))), (k, .inr (2, [.ref nr, .ref fr, .ref rs, .ref at_, .ref h, .int al9_6, .long br9_6])), (nr, .inl (cI, 14, .inl N9_6)), (fr, .inl (cI, 14, .inl Fm9_6)), (at_, .inl (cJ, 14, .inr (.inl A9_6))), (h, .inr (3, [.ref b1, .int (nI z9_6)])), (b1, .inl (cJ, 41, .inr (.inl S9_6)))]) rfl
    refine lv_iload hx hb d_CP_arc_79 (lv_at hl 0 rfl) ?_
    exact W.iret (v := (nI ar)) hx hb hr (fun t9 ht9 _ => ⟨⟨_, (N9_6, Fm9_6, A9_6, S9_6, z9_6, al9_6, br9_6), rfl, ⟨rfl, hu_6⟩, by show va_P (dC, dI) cls _ t9.heap; rw [ht9]; exact hP⟩, hS.F ht9⟩) hS.2.2 d_CP_arc_81
  · skip
    omega

set_option maxHeartbeats 4000000 in
set_option maxRecDepth 100000 in
theorem c_CP_turn_k (l : Launch) (dC : Nat → ClassId) (dI : Nat → Nat → Nat) (cI cJ cZ : ClassId) (cp g k k2 fl co sp : Nat) (a1 a2 nd ar : Nat) (pr : Int64) (F G : Nat → Nat) (hGA : GAR F G nd ar pr) (nr fr rs at_ h : Nat) (al0 : Int32) (br0 : Int64) (N0 Fm0 : Nat → Int32) (A0 : Nat → Int64) (b1 : Nat) (zi : Int32) (S0 : Nat → Int64) (x : Nat) (hxa : x < ar) : Met l ⟨"CutPoints", "turn", "(I)I"⟩ (Cond.code ⟨"CutPoints", "turn", "(I)I"⟩ prog_1_method_5_code 2 (some .int) :: TT) (rmk 5 115) (PM dC dI cI cJ cZ [.ref cp, .int (nI x)] [(cp, .inr (0, [.ref g, .ref k, .ref k2, .ref fl, .ref co, .ref sp])), (g, .inr (1, [.ref a1, .ref a2, .int (nI nd), .int (nI ar), .long pr])), (a1, .inl (cI, 41, .inl (nF F))), (a2, .inl (cI, 41, .inl (nF G))), (k, .inr (2, [.ref nr, .ref fr, .ref rs, .ref at_, .ref h, .int al0, .long br0])), (nr, .inl (cI, 14, .inl N0)), (fr, .inl (cI, 14, .inl Fm0)), (at_, .inl (cJ, 14, .inr (.inl A0))), (h, .inr (3, [.ref b1, .int zi])), (b1, .inl (cJ, 41, .inr (.inl S0)))]) (va_Qi (S := (Nat → Int32) × (Nat → Int32) × (Nat → Int64) × (Nat → Int64) × Nat × Int32 × Int64) (fun r u9 => r = bI (!lb pr x) ∧ SKI (lb (pr ^^^ lsb x)) F G nd u9.1 u9.2.1 u9.2.2.1 u9.2.2.2.1 u9.2.2.2.2.1 u9.2.2.2.2.2.1 u9.2.2.2.2.2.2) (fun u9 t9 => va_P (dC, dI) cls ([(cp, .inr (0, [.ref g, .ref k, .ref k2, .ref fl, .ref co, .ref sp])), (g, .inr (1, [.ref a1, .ref a2, .int (nI nd), .int (nI ar), .long (pr ^^^ (lsb x))])), (a1, .inl (cI, 41, .inl (nF F))), (a2, .inl (cI, 41, .inl (nF G))), (k, .inr (2, [.ref nr, .ref fr, .ref rs, .ref at_, .ref h, .int u9.2.2.2.2.2.1, .long u9.2.2.2.2.2.2])), (nr, .inl (cI, 14, .inl u9.1)), (fr, .inl (cI, 14, .inl u9.2.1)), (at_, .inl (cJ, 14, .inr (.inl u9.2.2.1))), (h, .inr (3, [.ref b1, .int (nI u9.2.2.2.2.1)])), (b1, .inl (cJ, 41, .inr (.inl u9.2.2.2.1)))]) t9.heap) (ow [(cp, .inr (0, [.ref g, .ref k, .ref k2, .ref fl, .ref co, .ref sp])), (g, .inr (1, [.ref a1, .ref a2, .int (nI nd), .int (nI ar), .long pr])), (a1, .inl (cI, 41, .inl (nF F))), (a2, .inl (cI, 41, .inl (nF G))), (k, .inr (2, [.ref nr, .ref fr, .ref rs, .ref at_, .ref h, .int al0, .long br0])), (nr, .inl (cI, 14, .inl N0)), (fr, .inl (cI, 14, .inl Fm0)), (at_, .inl (cJ, 14, .inr (.inl A0))), (h, .inr (3, [.ref b1, .int zi])), (b1, .inl (cJ, 41, .inr (.inl S0)))])) 0 0 (ow [(cp, .inr (0, [.ref g, .ref k, .ref k2, .ref fl, .ref co, .ref sp])), (g, .inr (1, [.ref a1, .ref a2, .int (nI nd), .int (nI ar), .long pr])), (a1, .inl (cI, 41, .inl (nF F))), (a2, .inl (cI, 41, .inl (nF G))), (k, .inr (2, [.ref nr, .ref fr, .ref rs, .ref at_, .ref h, .int al0, .long br0])), (nr, .inl (cI, 14, .inl N0)), (fr, .inl (cI, 14, .inl Fm0)), (at_, .inl (cJ, 14, .inr (.inl A0))), (h, .inr (3, [.ref b1, .int zi])), (b1, .inl (cJ, 41, .inr (.inl S0)))]) := by
  refine Met.ofW (cc := prog_1_method_5_code) (maxL := 2) (ret := (some .int)) (by decide) rfl ?_
  intro p e s m args below meth c s₁ BB9 hml hv
  obtain ⟨rfl, hP, hK, hD0⟩ := hv
  have hx := BB9.exec
  have hb := BB9.bytes
  have hr := BB9.returns
  have hts : ∀ w ∈ TT, w.before _ s = true := fun w h => atoms_spec (ws := (Cond.code ⟨"CutPoints", "turn", "(I)I"⟩ prog_1_method_5_code 2 (some .int) :: TT)) BB9.pre w (List.mem_cons_of_mem _ h)
  have hown : s.vm.findClass "CutPoints" = some m.cls := findClass_of_methodNamed BB9.named
  have hlocks := BB9.notSynchronized
  have hD := hD0.mine
  have hS : va_S (ow [(cp, .inr (0, [.ref g, .ref k, .ref k2, .ref fl, .ref co, .ref sp])), (g, .inr (1, [.ref a1, .ref a2, .int (nI nd), .int (nI ar), .long pr])), (a1, .inl (cI, 41, .inl (nF F))), (a2, .inl (cI, 41, .inl (nF G))), (k, .inr (2, [.ref nr, .ref fr, .ref rs, .ref at_, .ref h, .int al0, .long br0])), (nr, .inl (cI, 14, .inl N0)), (fr, .inl (cI, 14, .inl Fm0)), (at_, .inl (cJ, 14, .inr (.inl A0))), (h, .inr (3, [.ref b1, .int zi])), (b1, .inl (cJ, 41, .inr (.inl S0)))]) s.heap s.heap [] := va_S.rf
  have har := hGA.2.1
  have hG9 := GAR_t hGA hxa
  have hl := lv_entry ([.ref cp, .int (nI x)]) (n := 2) (Nat.le_of_ble_eq_true rfl)
  rw [lg_entry_eq]
  generalize (lg_sl ([.ref cp, .int (nI x)]) ++ List.replicate (2 - (lg_sl ([.ref cp, .int (nI x)])).length) Slot.unset).toArray = ls at hl ⊢
  have hl : lv_has ls 2 [(0, .ref cp), (1, .int (nI x))] := hl
  refine lv_aload_n hx hb d_CP_turn_0 rfl (lv_at hl 0 rfl) ?_
  refine va_get (D := (dC, dI)) (ci := 0) (v := .ref g) (C := R_CP) (T := F_CP) (N := 6) hx hb hts in_CP hown hK.1 hP 0 rfl rfl 0 (by decide) (hts _ wfl_CP_12) (fun _ h9 => h9) rfl d_CP_turn_1 ?_
  refine lv_iload_n hx hb d_CP_turn_4 rfl (lv_at hl 1 rfl) ?_
  refine vp_callSi (va_Run.run (k_V (n := 1) (C := R_GR) (rest := []) ⟨hx, hb, hml, hown, hts⟩ (c_GR_hasArc l dC dI cI cJ cZ g a1 a2 nd ar pr (nI x) (by first | assumption | omega)) wml_CP_69 wim_GR_hasArc wsel_GR_hasArc wini_GR wcode_GR_hasArc (by decide +kernel) ⟨Nat.le_of_ble_eq_true rfl, Nat.le_of_ble_eq_true rfl⟩ (preV_R (q := (R_GR, F_GR, 5)) (ci := 1) (q0 := 0) (hP.sub (ws' := [(g, .inr (1, [.ref a1, .ref a2, .int (nI nd), .int (nI ar), .long pr]))]) [1] rfl) hK rfl rfl) rfl hl.1 rfl (Nat.le_of_ble_eq_true rfl) d_CP_turn_5 ⟨Nat.zero_le _, Nat.zero_le _⟩)) (fun r_1 hr_2 => ?_)
  refine xe_i (y := (bI (vd (nI x) ar))) hr_2 ?_
  refine xe_i (y := (bI true)) (by rw [vd_tt (by omega) hxa]) ?_
  refine lv_if_ne (tgt := 13) hx hb d_CP_turn_8 (by decide) (fun _ => ?_) (fun c9 => absurd c9 (by decide : ¬ ((bI true) : Int32) = 0))
  refine lv_aload_n hx hb d_CP_turn_13 rfl (lv_at hl 0 rfl) ?_
  refine va_get (D := (dC, dI)) (ci := 0) (v := .ref g) (C := R_CP) (T := F_CP) (N := 6) hx hb hts in_CP hown hK.1 hP 0 rfl rfl 0 (by decide) (hts _ wfl_CP_12) (fun _ h9 => h9) rfl d_CP_turn_14 ?_
  refine lv_dup hx hb d_CP_turn_17 rfl ?_
  refine va_get (D := (dC, dI)) (ci := 1) (v := .long pr) (C := R_GR) (T := F_GR) (N := 5) hx hb hts in_GR hown hK.1 hP 1 rfl rfl 4 (by decide) (hts _ wfl_CP_54) (fun _ h9 => h9) rfl d_CP_turn_18 ?_
  refine lv_lconst (v := 1) hx hb d_CP_turn_21 rfl ?_
  refine lv_iload_n hx hb d_CP_turn_22 rfl (lv_at hl 1 rfl) ?_
  refine lv_lshl (v := (lsb x)) hx hb d_CP_turn_23 rfl ?_
  refine lv_lxor hx hb d_CP_turn_24 ?_
  refine va_put (D := (dC, dI)) (ci := 1) (v := .long (pr ^^^ (lsb x))) (ty := .long) (C := R_GR) (T := F_GR) (N := 5) hx hb hts in_GR t_GR t_GR_ok n_GR hown hK.1 hP hD hS 1 rfl rfl 4 (by decide) (hts _ wfl_CP_54) (fun _ h9 => h9) rfl (by decide +kernel) rfl rfl (Nat.le_of_ble_eq_true rfl) d_CP_turn_25 (fun H locs hP hD hS => ?_)
  have hP : va_P (dC, dI) cls [(cp, .inr (0, [.ref g, .ref k, .ref k2, .ref fl, .ref co, .ref sp])), (g, .inr (1, [.ref a1, .ref a2, .int (nI nd), .int (nI ar), .long (pr ^^^ (lsb x))])), (a1, .inl (cI, 41, .inl (nF F))), (a2, .inl (cI, 41, .inl (nF G))), (k, .inr (2, [.ref nr, .ref fr, .ref rs, .ref at_, .ref h, .int al0, .long br0])), (nr, .inl (cI, 14, .inl N0)), (fr, .inl (cI, 14, .inl Fm0)), (at_, .inl (cJ, 14, .inr (.inl A0))), (h, .inr (3, [.ref b1, .int zi])), (b1, .inl (cJ, 41, .inr (.inl S0)))] H := hP
  have hD : va_D (ow [(cp, .inr (0, [.ref g, .ref k, .ref k2, .ref fl, .ref co, .ref sp])), (g, .inr (1, [.ref a1, .ref a2, .int (nI nd), .int (nI ar), .long pr])), (a1, .inl (cI, 41, .inl (nF F))), (a2, .inl (cI, 41, .inl (nF G))), (k, .inr (2, [.ref nr, .ref fr, .ref rs, .ref at_, .ref h, .int al0, .long br0])), (nr, .inl (cI, 14, .inl N0)), (fr, .inl (cI, 14, .inl Fm0)), (at_, .inl (cJ, 14, .inr (.inl A0))), (h, .inr (3, [.ref b1, .int zi])), (b1, .inl (cJ, 41, .inr (.inl S0)))]) [(cp, .inr (0, [.ref g, .ref k, .ref k2, .ref fl, .ref co, .ref sp])), (g, .inr (1, [.ref a1, .ref a2, .int (nI nd), .int (nI ar), .long (pr ^^^ (lsb x))])), (a1, .inl (cI, 41, .inl (nF F))), (a2, .inl (cI, 41, .inl (nF G))), (k, .inr (2, [.ref nr, .ref fr, .ref rs, .ref at_, .ref h, .int al0, .long br0])), (nr, .inl (cI, 14, .inl N0)), (fr, .inl (cI, 14, .inl Fm0)), (at_, .inl (cJ, 14, .inr (.inl A0))), (h, .inr (3, [.ref b1, .int zi])), (b1, .inl (cJ, 41, .inr (.inl S0)))] := hD
  refine lv_aload_n hx hb d_CP_turn_28 rfl (lv_at hl 0 rfl) ?_
  refine x_cv (k_V (n := 0) (C := R_CP) (rest := []) ⟨hx, hb, hml, hown, hts⟩ (c_CP_redraw l dC dI cI cJ cZ cp g k k2 fl co sp a1 a2 nd ar (pr ^^^ (lsb x)) F G (hG9).2.2.2.2.1 (hG9).2.2.2.2.2 hG9.ok nr fr rs at_ h al0 br0 N0 Fm0 A0 b1 zi S0) wml_CP_58 wim_CP_redraw wsel_CP_redraw wini_CP wcode_CP_redraw (by decide +kernel) ⟨Nat.le_of_ble_eq_true rfl, Nat.le_of_ble_eq_true rfl⟩ (preV_M (q := (R_CP, F_CP, 6)) (ci := 0) (q0 := 0) (hP.sub (ws' := [(cp, .inr (0, [.ref g, .ref k, .ref k2, .ref fl, .ref co, .ref sp])), (g, .inr (1, [.ref a1, .ref a2, .int (nI nd), .int (nI ar), .long (pr ^^^ (lsb x))])), (a1, .inl (cI, 41, .inl (nF F))), (a2, .inl (cI, 41, .inl (nF G))), (k, .inr (2, [.ref nr, .ref fr, .ref rs, .ref at_, .ref h, .int al0, .long br0])), (nr, .inl (cI, 14, .inl N0)), (fr, .inl (cI, 14, .inl Fm0)), (at_, .inl (cJ, 14, .inr (.inl A0))), (h, .inr (3, [.ref b1, .int zi])), (b1, .inl (cJ, 41, .inr (.inl S0)))]) [0, 1, 2, 3, 4, 5, 6, 7, 8, 9] rfl) hK (hD.sub (ws' := [(cp, .inr (0, [.ref g, .ref k, .ref k2, .ref fl, .ref co, .ref sp])), (g, .inr (1, [.ref a1, .ref a2, .int (nI nd), .int (nI ar), .long (pr ^^^ (lsb x))])), (a1, .inl (cI, 41, .inl (nF F))), (a2, .inl (cI, 41, .inl (nF G))), (k, .inr (2, [.ref nr, .ref fr, .ref rs, .ref at_, .ref h, .int al0, .long br0])), (nr, .inl (cI, 14, .inl N0)), (fr, .inl (cI, 14, .inl Fm0)), (at_, .inl (cJ, 14, .inr (.inl A0))), (h, .inr (3, [.ref b1, .int zi])), (b1, .inl (cJ, 41, .inr (.inl S0)))]) [0, 1, 2, 3, 4, 5, 6, 7, 8, 9] (by decide) rfl) rfl rfl) rfl hl.1 rfl (Nat.le_of_ble_eq_true rfl) d_CP_turn_29 ⟨Nat.zero_le _, Nat.zero_le _⟩) hP hD hS [0, 1, 2, 3, 4, 5, 6, 7, 8, 9] rfl (fun _ => rfl) (fun u_4 H locs hu_4 hP hS => ?_)
  obtain ⟨N9_4, Fm9_4, A9_4, S9_4, z9_4, al9_4, br9_4⟩ := u_4
  have hP : va_P (dC, dI) cls [(cp, .inr (0, [.ref g, .ref k, .ref k2, .ref fl, .ref co, .ref sp])), (g, .inr (1, [.ref a1, .ref a2, .int (nI nd), .int (nI ar), .long (pr ^^^ (lsb x))])), (a1, .inl (cI, 41, .inl (nF F))), (a2, .inl (cI, 41, .inl (nF G))), (k, .inr (2, [.ref nr, .ref fr, .ref rs, .ref at_, .ref h, .int al9_4, .long br9_4])), (nr, .inl (cI, 14, .inl N9_4)), (fr, .inl (cI, 14, .inl Fm9_4)), (at_, .inl (cJ, 14, .inr (.inl A9_4))), (h, .inr (3, [.ref b1, .int (nI z9_4)])), (b1, .inl (cJ, 41, .inr (.inl S9_4)))] H := hP
  have hD := hD.addr (ws' := [(cp, .inr (0, [.ref g, .ref k, .ref k2, .ref fl, .ref co, .ref sp])), (g, .inr (1, [.ref a1, .ref a2, .int (nI nd), .int (nI ar), .long (pr ^^^ (lsb x))])), (a1, .inl (cI, 41, .inl (nF F))), (a2, .inl (cI, 41, .inl (nF G))), (k, .inr (2, [.ref nr, .ref fr, .ref rs, .ref at_, .ref h, .int al9_4, .long br9_4])), (nr, .inl (cI, 14, .inl N9_4)), (fr, .inl (cI, 14, .inl Fm9_4)), (at_, .inl (cJ, 14, .inr (.inl A9_4))), (h, .inr (3, [.ref b1, .int (nI z9_4)])), (b1, .inl (cJ, 41, .inr (.inl S9_4)))]) rfl
  refine lv_aload_n hx hb d_CP_turn_32 rfl (lv_at hl 0 rfl) ?_
  refine va_get (D := (dC, dI)) (ci := 0) (v := .ref g) (C := R_CP) (T := F_CP) (N := 6) hx hb hts in_CP hown hK.1 hP 0 rfl rfl 0 (by decide) (hts _ wfl_CP_12) (fun _ h9 => h9) rfl d_CP_turn_33 ?_
  refine lv_iload_n hx hb d_CP_turn_36 rfl (lv_at hl 1 rfl) ?_
  refine vp_callSi (va_Run.run (k_V (n := 1) (C := R_GR) (rest := []) ⟨hx, hb, hml, hown, hts⟩ (c_GR_isThere l dC dI cI cJ cZ g a1 a2 nd ar (pr ^^^ (lsb x)) (nI x) (by first | assumption | omega)) wml_CP_73 wim_GR_isThere wsel_GR_isThere wini_GR wcode_GR_isThere (by decide +kernel) ⟨Nat.le_of_ble_eq_true rfl, Nat.le_of_ble_eq_true rfl⟩ (preV_R (q := (R_GR, F_GR, 5)) (ci := 1) (q0 := 0) (hP.sub (ws' := [(g, .inr (1, [.ref a1, .ref a2, .int (nI nd), .int (nI ar), .long (pr ^^^ (lsb x))]))]) [1] rfl) hK rfl rfl) rfl hl.1 rfl (Nat.le_of_ble_eq_true rfl) d_CP_turn_37 ⟨Nat.zero_le _, Nat.zero_le _⟩)) (fun r_5 hr_6 => ?_)
  refine xe_i (y := (bI (vd (nI x) ar && lb (pr ^^^ (lsb x)) (nI x).toNatClampNeg))) hr_6 ?_
  refine xe_i (y := (bI (!lb pr x))) (by rw [tn_bb har hxa]) ?_
  refine x_if_eq (tgt := 47) hx hb d_CP_turn_40 (by decide) (fun c_7 => ?_) (fun c_7 => ?_)
  · skip
    refine lv_iconst (v := (nI 0)) hx hb d_CP_turn_47 (by decide) ?_
    exact W.iret (v := (nI 0)) hx hb hr (fun t9 ht9 _ => ⟨⟨_, (N9_4, Fm9_4, A9_4, S9_4, z9_4, al9_4, br9_4), rfl, ⟨by rw [c_7]; rfl, hu_4⟩, by show va_P (dC, dI) cls _ t9.heap; rw [ht9]; exact hP⟩, hS.F ht9⟩) hS.2.2 d_CP_turn_48
  · skip
    refine lv_iconst (v := (nI 1)) hx hb d_CP_turn_43 (by decide) ?_
    refine lv_goto (tgt := 48) hx hb d_CP_turn_44 (by decide) ?_
    exact W.iret (v := (nI 1)) hx hb hr (fun t9 ht9 _ => ⟨⟨_, (N9_4, Fm9_4, A9_4, S9_4, z9_4, al9_4, br9_4), rfl, ⟨by rw [c_7]; rfl, hu_4⟩, by show va_P (dC, dI) cls _ t9.heap; rw [ht9]; exact hP⟩, hS.F ht9⟩) hS.2.2 d_CP_turn_48
